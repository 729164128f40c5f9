set_option maxRecDepth 100000 in
theorem w_P_within {X : CX} (C : Cx X ZX RX6 cX6_within 3 (some .boolean) 0 0)  (σ : St) (x0 : Int32) (x1 : Int32) (x2 : Int32) : Sm X ZX 3 (some .boolean) σ [(0, .int x0), (1, .int x1), (2, .int x2)] 0 [] (m_P_within σ x0 x1 x2) := by
  unfold m_P_within
  refine s_iload_n C e_P_within_0 rfl ?_
  refine s_iload_n C e_P_within_1 rfl ?_
  refine s_icmp_lt (tgt := 14) C e_P_within_2 rfl ?_ ?_
  · refine s_iconst C e_P_within_14 (v := (0 : Int32)) ic_0 ?_
    exact s_zret C e_P_within_15
  · refine s_iload_n C e_P_within_5 rfl ?_
    refine s_iload_n C e_P_within_6 rfl ?_
    refine s_icmp_gt (tgt := 14) C e_P_within_7 rfl ?_ ?_
    · refine s_iconst C e_P_within_14 (v := (0 : Int32)) ic_0 ?_
      exact s_zret C e_P_within_15
    · refine s_iconst C e_P_within_10 (v := (1 : Int32)) ic_1 ?_
      refine s_goto (tgt := 15) C e_P_within_11 rfl ?_
      exact s_zret C e_P_within_15
theorem c_P_within {l : Launch} {D : va_G} {k : Nat → ClassId} {q : Nat → Nat} (hq : Inj ZX q)  (σ : St) (x0 : Int32) (x1 : Int32) (x2 : Int32) : Ct l ZX D k q yX6_within cX6_within 3 (some .boolean) 0 0 [.int x0, .int x1, .int x2] σ (m_P_within σ x0 x1 x2) :=
  Ct_of hq lcX (by decide) (Nat.le_of_ble_eq_true rfl) (fun _ _ _ _ _ _ _ _ _ _ C => w_P_within C σ x0 x1 x2)
set_option maxRecDepth 100000 in
theorem w_Rows_isRow {X : CX} (C : Cx X ZX RX5 cX5_isRow 2 (some .boolean) 1 22)  (σ : St) (x1 : Int32) : Sm X ZX 2 (some .boolean) σ [(0, .ref (cq X 1)), (1, .int x1)] 0 [] (m_Rows_isRow σ x1) := by
  unfold m_Rows_isRow
  refine s_iload_n C e_Rows_isRow_0 rfl ?_
  refine s_iconst C e_Rows_isRow_1 (v := (0 : Int32)) ic_0 ?_
  refine s_bipush C e_Rows_isRow_2 (v := (7 : Int32)) bp_7 ?_
  refine s_callN_3 C (c_P_within C.inj _ _ _ _) wv_P_within g_0 ⟨by decide, by decide⟩ rfl (Nat.le_of_ble_eq_true rfl) e_Rows_isRow_4 (fun v1 σ2 => ?_)
  exact s_zret C e_Rows_isRow_7
theorem c_Rows_isRow {l : Launch} {D : va_G} {k : Nat → ClassId} {q : Nat → Nat} (hq : Inj ZX q)  (σ : St) (x1 : Int32) : Ct l ZX D k q yX5_isRow cX5_isRow 2 (some .boolean) 1 22 [.ref (q 1), .int x1] σ (m_Rows_isRow σ x1) :=
  Ct_of hq lcX (by decide) (Nat.le_of_ble_eq_true rfl) (fun _ _ _ _ _ _ _ _ _ _ C => w_Rows_isRow C σ x1)
set_option maxRecDepth 100000 in
theorem w_P_finding {X : CX} (C : Cx X ZX RX6 cX6_finding 2 (some .int) 0 0)  (σ : St) (x1 : Int32) : Sm X ZX 2 (some .int) σ [(0, .ref (cq X 0)), (1, .int x1)] 0 [] (m_P_finding σ x1) := by
  unfold m_P_finding
  refine s_aload_n C e_P_finding_0 rfl ?_
  refine s_iload_n C e_P_finding_1 rfl ?_
  refine s_put C fc_6 zx_lt_0 (zx_0 _ _ _) 7 (by decide) (zxp_0_7 _ _ _ _) (Nat.le_of_ble_eq_true rfl) e_P_finding_2 g_4 rfl rfl (fun σ1 => ?_)
  refine s_ldcw C e_P_finding_5 g_5 ?_
  refine s_iload_n C e_P_finding_8 rfl ?_
  refine s_isub C e_P_finding_9 ?_
  exact s_iret C e_P_finding_10
theorem c_P_finding {l : Launch} {D : va_G} {k : Nat → ClassId} {q : Nat → Nat} (hq : Inj ZX q)  (σ : St) (x1 : Int32) : Ct l ZX D k q yX6_finding cX6_finding 2 (some .int) 0 0 [.ref (q 0), .int x1] σ (m_P_finding σ x1) :=
  Ct_of hq lcX (by decide) (Nat.le_of_ble_eq_true rfl) (fun _ _ _ _ _ _ _ _ _ _ C => w_P_finding C σ x1)
set_option maxRecDepth 100000 in
theorem w_Rows_lay_B17 {X : CX} (C : Cx X ZX RX5 cX5_lay 5 none 0 0)  (r17 : St → Int32 → Int32 → Rt) (hr17 : ∀ (σ : St) (x1 : Int32) (x4 : Int32), Sm X ZX 5 none σ [(0, .ref (cq X 1)), (1, .int x1), (4, .int x4)] 17 [] (r17 σ x1 x4)) (σ : St) (x1 : Int32) (x4 : Int32) : Sm X ZX 5 none σ [(0, .ref (cq X 1)), (1, .int x1), (4, .int x4)] 17 [] (m_Rows_lay_B17 r17 σ x1 x4) := by
  unfold m_Rows_lay_B17
  refine s_iload C e_Rows_lay_17 rfl ?_
  refine s_bipush C e_Rows_lay_19 (v := (40 : Int32)) bp_40 ?_
  refine s_icmp_ge (tgt := 40) C e_Rows_lay_21 rfl ?_ ?_
  · exact s_vret C e_Rows_lay_40
  · refine s_aload_n C e_Rows_lay_24 rfl ?_
    refine s_get C fc_5 zx_lt_1 (zx_1 _ _ _) 2 (by decide) e_Rows_lay_25 g_8 rfl ?_
    refine s_iload_n C e_Rows_lay_28 rfl ?_
    refine s_aald (c := 3) (ty := .array .int) C gIt zx_lt_4 (zx_4 _ _ _) rfl rfl zxf_4 e_Rows_lay_29 (fun hi29 => ?_)
    refine s_iload C e_Rows_lay_30 rfl ?_
    refine s_iconst C e_Rows_lay_32 (v := (0 : Int32)) ic_0 ?_
    refine s_iast C (zi_lt (isI_g hi29)) (zi (isI_g hi29)) e_Rows_lay_33 (fun σ1 => ?_)
    refine s_iinc C e_Rows_lay_34 (v := (1 : Int32)) rfl (by decide) ii_1 ?_
    refine s_goto (tgt := 17) C e_Rows_lay_37 rfl ?_
    exact s_cut (hr17 _ _ _) ⟨rfl, rfl, rfl, trivial⟩
theorem w_Rows_lay_L17 {X : CX} (C : Cx X ZX RX5 cX5_lay 5 none 0 0)   : ∀ (n : Nat) (σ : St) (x1 : Int32) (x4 : Int32), Sm X ZX 5 none σ [(0, .ref (cq X 1)), (1, .int x1), (4, .int x4)] 17 [] (m_Rows_lay_L17 n σ x1 x4)
  | 0, _, _, _ => s_none
  | n + 1, σ, x1, x4 => w_Rows_lay_B17 C (m_Rows_lay_L17 n) (w_Rows_lay_L17 C n) σ x1 x4
set_option maxRecDepth 100000 in
theorem w_Rows_lay {X : CX} (C : Cx X ZX RX5 cX5_lay 5 none 0 0)  (σ : St) (x1 : Int32) (x2 : Int32) (x3 : Int32) : Sm X ZX 5 none σ [(0, .ref (cq X 1)), (1, .int x1), (2, .int x2), (3, .int x3)] 0 [] (m_Rows_lay σ x1 x2 x3) := by
  unfold m_Rows_lay
  refine s_aload_n C e_Rows_lay_0 rfl ?_
  refine s_get C fc_5 zx_lt_1 (zx_1 _ _ _) 0 (by decide) e_Rows_lay_1 g_6 rfl ?_
  refine s_iload_n C e_Rows_lay_4 rfl ?_
  refine s_iload_n C e_Rows_lay_5 rfl ?_
  refine s_iast C zx_lt_2 zx_2 e_Rows_lay_6 (fun σ1 => ?_)
  refine s_aload_n C e_Rows_lay_7 rfl ?_
  refine s_get C fc_5 zx_lt_1 (zx_1 _ _ _) 1 (by decide) e_Rows_lay_8 g_7 rfl ?_
  refine s_iload_n C e_Rows_lay_11 rfl ?_
  refine s_iload_n C e_Rows_lay_12 rfl ?_
  refine s_iast C zx_lt_3 zx_3 e_Rows_lay_13 (fun σ2 => ?_)
  refine s_iconst C e_Rows_lay_14 (v := (0 : Int32)) ic_0 ?_
  refine s_istore C e_Rows_lay_15 (by decide) ?_
  exact s_cut (w_Rows_lay_L17 C FU _ _ _) ⟨rfl, rfl, rfl, trivial⟩
theorem c_Rows_lay {l : Launch} {D : va_G} {k : Nat → ClassId} {q : Nat → Nat} (hq : Inj ZX q)  (σ : St) (x1 : Int32) (x2 : Int32) (x3 : Int32) : Ct l ZX D k q yX5_lay cX5_lay 5 none 0 0 [.ref (q 1), .int x1, .int x2, .int x3] σ (m_Rows_lay σ x1 x2 x3) :=
  Ct_of hq lcX (by decide) (Nat.le_of_ble_eq_true rfl) (fun _ _ _ _ _ _ _ _ _ _ C => w_Rows_lay C σ x1 x2 x3)
set_option maxRecDepth 100000 in
theorem w_P_foundNothing {X : CX} (C : Cx X ZX RX6 cX6_foundNothing 2 (some .int) 0 0)  (σ : St) (x1 : Int32) : Sm X ZX 2 (some .int) σ [(0, .ref (cq X 0)), (1, .int x1)] 0 [] (m_P_foundNothing σ x1) := by
  unfold m_P_foundNothing
  refine s_aload_n C e_P_foundNothing_0 rfl ?_
  refine s_iconst C e_P_foundNothing_1 (v := (0 : Int32)) ic_0 ?_
  refine s_put C fc_6 zx_lt_0 (zx_0 _ _ _) 7 (by decide) (zxp_0_7 _ _ _ _) (Nat.le_of_ble_eq_true rfl) e_P_foundNothing_2 g_4 rfl rfl (fun σ1 => ?_)
  refine s_iload_n C e_P_foundNothing_5 rfl ?_
  exact s_iret C e_P_foundNothing_6
theorem c_P_foundNothing {l : Launch} {D : va_G} {k : Nat → ClassId} {q : Nat → Nat} (hq : Inj ZX q)  (σ : St) (x1 : Int32) : Ct l ZX D k q yX6_foundNothing cX6_foundNothing 2 (some .int) 0 0 [.ref (q 0), .int x1] σ (m_P_foundNothing σ x1) :=
  Ct_of hq lcX (by decide) (Nat.le_of_ble_eq_true rfl) (fun _ _ _ _ _ _ _ _ _ _ C => w_P_foundNothing C σ x1)
set_option maxRecDepth 100000 in
theorem w_P_row {X : CX} (C : Cx X ZX RX6 cX6_row 4 (some .int) 2 43)  (σ : St) (x1 : Int32) (x2 : Int32) (x3 : Int32) : Sm X ZX 4 (some .int) σ [(0, .ref (cq X 0)), (1, .int x1), (2, .int x2), (3, .int x3)] 0 [] (m_P_row σ x1 x2 x3) := by
  unfold m_P_row
  refine s_aload_n C e_P_row_0 rfl ?_
  refine s_get C fc_6 zx_lt_0 (zx_0 _ _ _) 0 (by decide) e_P_row_1 g_9 rfl ?_
  refine s_iload_n C e_P_row_4 rfl ?_
  refine s_callV_1 C (c_Rows_isRow C.inj _ _) wv_Rows_isRow g_25 ⟨by decide, by decide⟩ fc_5 rfl zx_lt_1 (zx_1 _ _ _) rfl (Nat.le_of_ble_eq_true rfl) e_P_row_5 (fun v1 σ2 => ?_)
  refine s_if_eq (tgt := 26) C e_P_row_8 rfl ?_ ?_
  · refine s_ldc C e_P_row_26 g_10 ?_
    exact s_iret C e_P_row_28
  · refine s_iload_n C e_P_row_11 rfl ?_
    refine s_iconst C e_P_row_12 (v := (0 : Int32)) ic_0 ?_
    refine s_iconst C e_P_row_13 (v := (2 : Int32)) ic_2 ?_
    refine s_callS_3 C (c_P_within C.inj _ _ _ _) wv_P_within g_24 ⟨by decide, by decide⟩ rfl (Nat.le_of_ble_eq_true rfl) e_P_row_14 (fun v3 σ4 => ?_)
    refine s_if_eq (tgt := 26) C e_P_row_17 rfl ?_ ?_
    · refine s_ldc C e_P_row_26 g_10 ?_
      exact s_iret C e_P_row_28
    · refine s_iload_n C e_P_row_20 rfl ?_
      refine s_bipush C e_P_row_21 (v := (40 : Int32)) bp_40 ?_
      refine s_icmp_le (tgt := 29) C e_P_row_23 rfl ?_ ?_
      · refine s_iload_n C e_P_row_29 rfl ?_
        refine s_if_ge (tgt := 39) C e_P_row_30 rfl ?_ ?_
        · refine s_aload_n C e_P_row_39 rfl ?_
          refine s_get C fc_6 zx_lt_0 (zx_0 _ _ _) 0 (by decide) e_P_row_40 g_9 rfl ?_
          refine s_iload_n C e_P_row_43 rfl ?_
          refine s_iload_n C e_P_row_44 rfl ?_
          refine s_iload_n C e_P_row_45 rfl ?_
          refine s_callVv_3 C (c_Rows_lay C.inj _ _ _ _) wv_Rows_lay g_15 ⟨by decide, by decide⟩ fc_5 rfl zx_lt_1 (zx_1 _ _ _) rfl (Nat.le_of_ble_eq_true rfl) e_P_row_46 (fun v5 σ6 => ?_)
          refine s_aload_n C e_P_row_49 rfl ?_
          refine s_iload_n C e_P_row_50 rfl ?_
          refine s_callV_1 C (c_P_foundNothing C.inj _ _) wv_P_foundNothing g_11 ⟨by decide, by decide⟩ fc_6 rfl zx_lt_0 (zx_0 _ _ _) rfl (Nat.le_of_ble_eq_true rfl) e_P_row_51 (fun v7 σ8 => ?_)
          exact s_iret C e_P_row_54
        · refine s_aload_n C e_P_row_33 rfl ?_
          refine s_iconst C e_P_row_34 (v := (4 : Int32)) ic_4 ?_
          refine s_callV_1 C (c_P_finding C.inj _ _) wv_P_finding g_20 ⟨by decide, by decide⟩ fc_6 rfl zx_lt_0 (zx_0 _ _ _) rfl (Nat.le_of_ble_eq_true rfl) e_P_row_35 (fun v9 σ10 => ?_)
          exact s_iret C e_P_row_38
      · refine s_ldc C e_P_row_26 g_10 ?_
        exact s_iret C e_P_row_28
theorem c_P_row {l : Launch} {D : va_G} {k : Nat → ClassId} {q : Nat → Nat} (hq : Inj ZX q)  (σ : St) (x1 : Int32) (x2 : Int32) (x3 : Int32) : Ct l ZX D k q yX6_row cX6_row 4 (some .int) 2 43 [.ref (q 0), .int x1, .int x2, .int x3] σ (m_P_row σ x1 x2 x3) :=
  Ct_of hq lcX (by decide) (Nat.le_of_ble_eq_true rfl) (fun _ _ _ _ _ _ _ _ _ _ C => w_P_row C σ x1 x2 x3)
set_option maxRecDepth 100000 in
theorem w_Rows_isMissing {X : CX} (C : Cx X ZX RX5 cX5_isMissing 2 (some .boolean) 0 0)  (σ : St) (x1 : Int32) : Sm X ZX 2 (some .boolean) σ [(0, .ref (cq X 1)), (1, .int x1)] 0 [] (m_Rows_isMissing σ x1) := by
  unfold m_Rows_isMissing
  refine s_aload_n C e_Rows_isMissing_0 rfl ?_
  refine s_get C fc_5 zx_lt_1 (zx_1 _ _ _) 0 (by decide) e_Rows_isMissing_1 g_6 rfl ?_
  refine s_iload_n C e_Rows_isMissing_4 rfl ?_
  refine s_iald C zx_lt_2 zx_2 e_Rows_isMissing_5 ?_
  refine s_iconst C e_Rows_isMissing_6 (v := (-1 : Int32)) ic_m1 ?_
  refine s_icmp_ne (tgt := 14) C e_Rows_isMissing_7 rfl ?_ ?_
  · refine s_iconst C e_Rows_isMissing_10 (v := (1 : Int32)) ic_1 ?_
    refine s_goto (tgt := 15) C e_Rows_isMissing_11 rfl ?_
    exact s_zret C e_Rows_isMissing_15
  · refine s_iconst C e_Rows_isMissing_14 (v := (0 : Int32)) ic_0 ?_
    exact s_zret C e_Rows_isMissing_15
theorem c_Rows_isMissing {l : Launch} {D : va_G} {k : Nat → ClassId} {q : Nat → Nat} (hq : Inj ZX q)  (σ : St) (x1 : Int32) : Ct l ZX D k q yX5_isMissing cX5_isMissing 2 (some .boolean) 0 0 [.ref (q 1), .int x1] σ (m_Rows_isMissing σ x1) :=
  Ct_of hq lcX (by decide) (Nat.le_of_ble_eq_true rfl) (fun _ _ _ _ _ _ _ _ _ _ C => w_Rows_isMissing C σ x1)
set_option maxRecDepth 100000 in
theorem w_Rows_hasPlaces {X : CX} (C : Cx X ZX RX5 cX5_hasPlaces 4 (some .boolean) 0 0)  (σ : St) (x1 : Int32) (x2 : Int32) (x3 : Int32) : Sm X ZX 4 (some .boolean) σ [(0, .ref (cq X 1)), (1, .int x1), (2, .int x2), (3, .int x3)] 0 [] (m_Rows_hasPlaces σ x1 x2 x3) := by
  unfold m_Rows_hasPlaces
  refine s_iload_n C e_Rows_hasPlaces_0 rfl ?_
  refine s_if_lt (tgt := 24) C e_Rows_hasPlaces_1 rfl ?_ ?_
  · refine s_iconst C e_Rows_hasPlaces_24 (v := (0 : Int32)) ic_0 ?_
    exact s_zret C e_Rows_hasPlaces_25
  · refine s_iload_n C e_Rows_hasPlaces_4 rfl ?_
    refine s_if_lt (tgt := 24) C e_Rows_hasPlaces_5 rfl ?_ ?_
    · refine s_iconst C e_Rows_hasPlaces_24 (v := (0 : Int32)) ic_0 ?_
      exact s_zret C e_Rows_hasPlaces_25
    · refine s_iload_n C e_Rows_hasPlaces_8 rfl ?_
      refine s_aload_n C e_Rows_hasPlaces_9 rfl ?_
      refine s_get C fc_5 zx_lt_1 (zx_1 _ _ _) 1 (by decide) e_Rows_hasPlaces_10 g_7 rfl ?_
      refine s_iload_n C e_Rows_hasPlaces_13 rfl ?_
      refine s_iald C zx_lt_3 zx_3 e_Rows_hasPlaces_14 ?_
      refine s_iload_n C e_Rows_hasPlaces_15 rfl ?_
      refine s_isub C e_Rows_hasPlaces_16 ?_
      refine s_icmp_gt (tgt := 24) C e_Rows_hasPlaces_17 rfl ?_ ?_
      · refine s_iconst C e_Rows_hasPlaces_24 (v := (0 : Int32)) ic_0 ?_
        exact s_zret C e_Rows_hasPlaces_25
      · refine s_iconst C e_Rows_hasPlaces_20 (v := (1 : Int32)) ic_1 ?_
        refine s_goto (tgt := 25) C e_Rows_hasPlaces_21 rfl ?_
        exact s_zret C e_Rows_hasPlaces_25
theorem c_Rows_hasPlaces {l : Launch} {D : va_G} {k : Nat → ClassId} {q : Nat → Nat} (hq : Inj ZX q)  (σ : St) (x1 : Int32) (x2 : Int32) (x3 : Int32) : Ct l ZX D k q yX5_hasPlaces cX5_hasPlaces 4 (some .boolean) 0 0 [.ref (q 1), .int x1, .int x2, .int x3] σ (m_Rows_hasPlaces σ x1 x2 x3) :=
  Ct_of hq lcX (by decide) (Nat.le_of_ble_eq_true rfl) (fun _ _ _ _ _ _ _ _ _ _ C => w_Rows_hasPlaces C σ x1 x2 x3)
set_option maxRecDepth 100000 in
theorem w_Rows_put_B33 {X : CX} (C : Cx X ZX RX5 cX5_put 5 (some .int) 0 0)   (σ : St) (x1 : Int32) (x2 : Int32) (x4 : Int32) : Sm X ZX 5 (some .int) σ [(0, .ref (cq X 1)), (1, .int x1), (2, .int x2), (4, .int x4)] 33 [] (m_Rows_put_B33 σ x1 x2 x4) := by
  unfold m_Rows_put_B33
  refine s_aload_n C e_Rows_put_33 rfl ?_
  refine s_get C fc_5 zx_lt_1 (zx_1 _ _ _) 2 (by decide) e_Rows_put_34 g_8 rfl ?_
  refine s_iload_n C e_Rows_put_37 rfl ?_
  refine s_aald (c := 3) (ty := .array .int) C gIt zx_lt_4 (zx_4 _ _ _) rfl rfl zxf_4 e_Rows_put_38 (fun hi38 => ?_)
  refine s_iload_n C e_Rows_put_39 rfl ?_
  refine s_iload C e_Rows_put_40 rfl ?_
  refine s_iast C (zi_lt (isI_g hi38)) (zi (isI_g hi38)) e_Rows_put_42 (fun σ1 => ?_)
  refine s_iload C e_Rows_put_43 rfl ?_
  exact s_iret C e_Rows_put_45
set_option maxRecDepth 100000 in
theorem w_Rows_put {X : CX} (C : Cx X ZX RX5 cX5_put 5 (some .int) 0 0)  (σ : St) (x1 : Int32) (x2 : Int32) (x3 : Int32) : Sm X ZX 5 (some .int) σ [(0, .ref (cq X 1)), (1, .int x1), (2, .int x2), (3, .int x3)] 0 [] (m_Rows_put σ x1 x2 x3) := by
  unfold m_Rows_put
  refine s_iload_n C e_Rows_put_0 rfl ?_
  refine s_istore C e_Rows_put_1 (by decide) ?_
  refine s_aload_n C e_Rows_put_3 rfl ?_
  refine s_get C fc_5 zx_lt_1 (zx_1 _ _ _) 0 (by decide) e_Rows_put_4 g_6 rfl ?_
  refine s_iload_n C e_Rows_put_7 rfl ?_
  refine s_iald C zx_lt_2 zx_2 e_Rows_put_8 ?_
  refine s_if_ne (tgt := 19) C e_Rows_put_9 rfl ?_ ?_
  · refine s_iload_n C e_Rows_put_12 rfl ?_
    refine s_i2b C e_Rows_put_13 ?_
    refine s_nm (fun y2 => ?_)
    refine s_istore C e_Rows_put_14 (by decide) ?_
    refine s_goto (tgt := 33) C e_Rows_put_16 rfl ?_
    exact s_cut (w_Rows_put_B33 C _ _ _ _) ⟨rfl, rfl, rfl, rfl, trivial⟩
  · refine s_aload_n C e_Rows_put_19 rfl ?_
    refine s_get C fc_5 zx_lt_1 (zx_1 _ _ _) 0 (by decide) e_Rows_put_20 g_6 rfl ?_
    refine s_iload_n C e_Rows_put_23 rfl ?_
    refine s_iald C zx_lt_2 zx_2 e_Rows_put_24 ?_
    refine s_iconst C e_Rows_put_25 (v := (1 : Int32)) ic_1 ?_
    refine s_icmp_ne (tgt := 33) C e_Rows_put_26 rfl ?_ ?_
    · refine s_iload_n C e_Rows_put_29 rfl ?_
      refine s_i2s C e_Rows_put_30 ?_
      refine s_nm (fun y1 => ?_)
      refine s_istore C e_Rows_put_31 (by decide) ?_
      exact s_cut (w_Rows_put_B33 C _ _ _ _) ⟨rfl, rfl, rfl, rfl, trivial⟩
    · exact s_cut (w_Rows_put_B33 C _ _ _ _) ⟨rfl, rfl, rfl, rfl, trivial⟩
theorem c_Rows_put {l : Launch} {D : va_G} {k : Nat → ClassId} {q : Nat → Nat} (hq : Inj ZX q)  (σ : St) (x1 : Int32) (x2 : Int32) (x3 : Int32) : Ct l ZX D k q yX5_put cX5_put 5 (some .int) 0 0 [.ref (q 1), .int x1, .int x2, .int x3] σ (m_Rows_put σ x1 x2 x3) :=
  Ct_of hq lcX (by decide) (Nat.le_of_ble_eq_true rfl) (fun _ _ _ _ _ _ _ _ _ _ C => w_Rows_put C σ x1 x2 x3)
set_option maxRecDepth 100000 in
theorem w_P_set {X : CX} (C : Cx X ZX RX6 cX6_set 4 (some .int) 2 43)  (σ : St) (x1 : Int32) (x2 : Int32) (x3 : Int32) : Sm X ZX 4 (some .int) σ [(0, .ref (cq X 0)), (1, .int x1), (2, .int x2), (3, .int x3)] 0 [] (m_P_set σ x1 x2 x3) := by
  unfold m_P_set
  refine s_aload_n C e_P_set_0 rfl ?_
  refine s_get C fc_6 zx_lt_0 (zx_0 _ _ _) 0 (by decide) e_P_set_1 g_9 rfl ?_
  refine s_iload_n C e_P_set_4 rfl ?_
  refine s_callV_1 C (c_Rows_isRow C.inj _ _) wv_Rows_isRow g_25 ⟨by decide, by decide⟩ fc_5 rfl zx_lt_1 (zx_1 _ _ _) rfl (Nat.le_of_ble_eq_true rfl) e_P_set_5 (fun v1 σ2 => ?_)
  refine s_if_ne (tgt := 14) C e_P_set_8 rfl ?_ ?_
  · refine s_ldc C e_P_set_11 g_10 ?_
    exact s_iret C e_P_set_13
  · refine s_aload_n C e_P_set_14 rfl ?_
    refine s_get C fc_6 zx_lt_0 (zx_0 _ _ _) 0 (by decide) e_P_set_15 g_9 rfl ?_
    refine s_iload_n C e_P_set_18 rfl ?_
    refine s_callV_1 C (c_Rows_isMissing C.inj _ _) wv_Rows_isMissing g_37 ⟨by decide, by decide⟩ fc_5 rfl zx_lt_1 (zx_1 _ _ _) rfl (Nat.le_of_ble_eq_true rfl) e_P_set_19 (fun v3 σ4 => ?_)
    refine s_if_eq (tgt := 31) C e_P_set_22 rfl ?_ ?_
    · refine s_aload_n C e_P_set_31 rfl ?_
      refine s_get C fc_6 zx_lt_0 (zx_0 _ _ _) 0 (by decide) e_P_set_32 g_9 rfl ?_
      refine s_iload_n C e_P_set_35 rfl ?_
      refine s_iload_n C e_P_set_36 rfl ?_
      refine s_iconst C e_P_set_37 (v := (1 : Int32)) ic_1 ?_
      refine s_callV_3 C (c_Rows_hasPlaces C.inj _ _ _ _) wv_Rows_hasPlaces g_33 ⟨by decide, by decide⟩ fc_5 rfl zx_lt_1 (zx_1 _ _ _) rfl (Nat.le_of_ble_eq_true rfl) e_P_set_38 (fun v5 σ6 => ?_)
      refine s_if_ne (tgt := 50) C e_P_set_41 rfl ?_ ?_
      · refine s_aload_n C e_P_set_44 rfl ?_
        refine s_iconst C e_P_set_45 (v := (2 : Int32)) ic_2 ?_
        refine s_callV_1 C (c_P_finding C.inj _ _) wv_P_finding g_20 ⟨by decide, by decide⟩ fc_6 rfl zx_lt_0 (zx_0 _ _ _) rfl (Nat.le_of_ble_eq_true rfl) e_P_set_46 (fun v11 σ12 => ?_)
        exact s_iret C e_P_set_49
      · refine s_aload_n C e_P_set_50 rfl ?_
        refine s_aload_n C e_P_set_51 rfl ?_
        refine s_get C fc_6 zx_lt_0 (zx_0 _ _ _) 0 (by decide) e_P_set_52 g_9 rfl ?_
        refine s_iload_n C e_P_set_55 rfl ?_
        refine s_iload_n C e_P_set_56 rfl ?_
        refine s_iload_n C e_P_set_57 rfl ?_
        refine s_callV_3 C (c_Rows_put C.inj _ _ _ _) wv_Rows_put g_29 ⟨by decide, by decide⟩ fc_5 rfl zx_lt_1 (zx_1 _ _ _) rfl (Nat.le_of_ble_eq_true rfl) e_P_set_58 (fun v7 σ8 => ?_)
        refine s_callV_1 C (c_P_foundNothing C.inj _ _) wv_P_foundNothing g_11 ⟨by decide, by decide⟩ fc_6 rfl zx_lt_0 (zx_0 _ _ _) rfl (Nat.le_of_ble_eq_true rfl) e_P_set_61 (fun v9 σ10 => ?_)
        exact s_iret C e_P_set_64
    · refine s_aload_n C e_P_set_25 rfl ?_
      refine s_iconst C e_P_set_26 (v := (1 : Int32)) ic_1 ?_
      refine s_callV_1 C (c_P_finding C.inj _ _) wv_P_finding g_20 ⟨by decide, by decide⟩ fc_6 rfl zx_lt_0 (zx_0 _ _ _) rfl (Nat.le_of_ble_eq_true rfl) e_P_set_27 (fun v13 σ14 => ?_)
      exact s_iret C e_P_set_30
theorem c_P_set {l : Launch} {D : va_G} {k : Nat → ClassId} {q : Nat → Nat} (hq : Inj ZX q)  (σ : St) (x1 : Int32) (x2 : Int32) (x3 : Int32) : Ct l ZX D k q yX6_set cX6_set 4 (some .int) 2 43 [.ref (q 0), .int x1, .int x2, .int x3] σ (m_P_set σ x1 x2 x3) :=
  Ct_of hq lcX (by decide) (Nat.le_of_ble_eq_true rfl) (fun _ _ _ _ _ _ _ _ _ _ C => w_P_set C σ x1 x2 x3)
set_option maxRecDepth 100000 in
theorem w_P_copy_B47 {X : CX} (C : Cx X ZX RX6 cX6_copy 6 (some .int) 2 43)   (σ : St)  : Sm X ZX 6 (some .int) σ [(0, .ref (cq X 0))] 47 [] (m_P_copy_B47 σ) := by
  unfold m_P_copy_B47
  refine s_aload_n C e_P_copy_47 rfl ?_
  refine s_iconst C e_P_copy_48 (v := (1 : Int32)) ic_1 ?_
  refine s_callV_1 C (c_P_finding C.inj _ _) wv_P_finding g_20 ⟨by decide, by decide⟩ fc_6 rfl zx_lt_0 (zx_0 _ _ _) rfl (Nat.le_of_ble_eq_true rfl) e_P_copy_49 (fun v1 σ2 => ?_)
  exact s_iret C e_P_copy_52
set_option maxRecDepth 100000 in
theorem w_P_copy_B109 {X : CX} (C : Cx X ZX RX6 cX6_copy 6 (some .int) 2 43)   (σ : St)  : Sm X ZX 6 (some .int) σ [(0, .ref (cq X 0))] 109 [] (m_P_copy_B109 σ) := by
  unfold m_P_copy_B109
  refine s_aload_n C e_P_copy_109 rfl ?_
  refine s_iconst C e_P_copy_110 (v := (2 : Int32)) ic_2 ?_
  refine s_callV_1 C (c_P_finding C.inj _ _) wv_P_finding g_20 ⟨by decide, by decide⟩ fc_6 rfl zx_lt_0 (zx_0 _ _ _) rfl (Nat.le_of_ble_eq_true rfl) e_P_copy_111 (fun v1 σ2 => ?_)
  exact s_iret C e_P_copy_114
set_option maxRecDepth 100000 in
theorem w_P_copy {X : CX} (C : Cx X ZX RX6 cX6_copy 6 (some .int) 2 43)  (σ : St) (x1 : Int32) (x2 : Int32) (x3 : Int32) (x4 : Int32) (x5 : Int32) : Sm X ZX 6 (some .int) σ [(0, .ref (cq X 0)), (1, .int x1), (2, .int x2), (3, .int x3), (4, .int x4), (5, .int x5)] 0 [] (m_P_copy σ x1 x2 x3 x4 x5) := by
  unfold m_P_copy
  refine s_aload_n C e_P_copy_0 rfl ?_
  refine s_get C fc_6 zx_lt_0 (zx_0 _ _ _) 0 (by decide) e_P_copy_1 g_9 rfl ?_
  refine s_iload_n C e_P_copy_4 rfl ?_
  refine s_callV_1 C (c_Rows_isRow C.inj _ _) wv_Rows_isRow g_25 ⟨by decide, by decide⟩ fc_5 rfl zx_lt_1 (zx_1 _ _ _) rfl (Nat.le_of_ble_eq_true rfl) e_P_copy_5 (fun v1 σ2 => ?_)
  refine s_if_eq (tgt := 22) C e_P_copy_8 rfl ?_ ?_
  · refine s_ldc C e_P_copy_22 g_10 ?_
    exact s_iret C e_P_copy_24
  · refine s_aload_n C e_P_copy_11 rfl ?_
    refine s_get C fc_6 zx_lt_0 (zx_0 _ _ _) 0 (by decide) e_P_copy_12 g_9 rfl ?_
    refine s_iload_n C e_P_copy_15 rfl ?_
    refine s_callV_1 C (c_Rows_isRow C.inj _ _) wv_Rows_isRow g_25 ⟨by decide, by decide⟩ fc_5 rfl zx_lt_1 (zx_1 _ _ _) rfl (Nat.le_of_ble_eq_true rfl) e_P_copy_16 (fun v3 σ4 => ?_)
    refine s_if_ne (tgt := 25) C e_P_copy_19 rfl ?_ ?_
    · refine s_ldc C e_P_copy_22 g_10 ?_
      exact s_iret C e_P_copy_24
    · refine s_aload_n C e_P_copy_25 rfl ?_
      refine s_get C fc_6 zx_lt_0 (zx_0 _ _ _) 0 (by decide) e_P_copy_26 g_9 rfl ?_
      refine s_iload_n C e_P_copy_29 rfl ?_
      refine s_callV_1 C (c_Rows_isMissing C.inj _ _) wv_Rows_isMissing g_37 ⟨by decide, by decide⟩ fc_5 rfl zx_lt_1 (zx_1 _ _ _) rfl (Nat.le_of_ble_eq_true rfl) e_P_copy_30 (fun v5 σ6 => ?_)
      refine s_if_ne (tgt := 47) C e_P_copy_33 rfl ?_ ?_
      · refine s_aload_n C e_P_copy_36 rfl ?_
        refine s_get C fc_6 zx_lt_0 (zx_0 _ _ _) 0 (by decide) e_P_copy_37 g_9 rfl ?_
        refine s_iload_n C e_P_copy_40 rfl ?_
        refine s_callV_1 C (c_Rows_isMissing C.inj _ _) wv_Rows_isMissing g_37 ⟨by decide, by decide⟩ fc_5 rfl zx_lt_1 (zx_1 _ _ _) rfl (Nat.le_of_ble_eq_true rfl) e_P_copy_41 (fun v7 σ8 => ?_)
        refine s_if_eq (tgt := 53) C e_P_copy_44 rfl ?_ ?_
        · refine s_aload_n C e_P_copy_53 rfl ?_
          refine s_get C fc_6 zx_lt_0 (zx_0 _ _ _) 0 (by decide) e_P_copy_54 g_9 rfl ?_
          refine s_get C fc_5 zx_lt_1 (zx_1 _ _ _) 0 (by decide) e_P_copy_57 g_41 rfl ?_
          refine s_iload_n C e_P_copy_60 rfl ?_
          refine s_iald C zx_lt_2 zx_2 e_P_copy_61 ?_
          refine s_aload_n C e_P_copy_62 rfl ?_
          refine s_get C fc_6 zx_lt_0 (zx_0 _ _ _) 0 (by decide) e_P_copy_63 g_9 rfl ?_
          refine s_get C fc_5 zx_lt_1 (zx_1 _ _ _) 0 (by decide) e_P_copy_66 g_41 rfl ?_
          refine s_iload_n C e_P_copy_69 rfl ?_
          refine s_iald C zx_lt_2 zx_2 e_P_copy_70 ?_
          refine s_icmp_eq (tgt := 80) C e_P_copy_71 rfl ?_ ?_
          · refine s_aload_n C e_P_copy_80 rfl ?_
            refine s_get C fc_6 zx_lt_0 (zx_0 _ _ _) 0 (by decide) e_P_copy_81 g_9 rfl ?_
            refine s_iload_n C e_P_copy_84 rfl ?_
            refine s_iload_n C e_P_copy_85 rfl ?_
            refine s_iload C e_P_copy_86 rfl ?_
            refine s_callV_3 C (c_Rows_hasPlaces C.inj _ _ _ _) wv_Rows_hasPlaces g_33 ⟨by decide, by decide⟩ fc_5 rfl zx_lt_1 (zx_1 _ _ _) rfl (Nat.le_of_ble_eq_true rfl) e_P_copy_88 (fun v9 σ10 => ?_)
            refine s_if_eq (tgt := 109) C e_P_copy_91 rfl ?_ ?_
            · exact s_cut (w_P_copy_B109 C _) ⟨rfl, trivial⟩
            · refine s_aload_n C e_P_copy_94 rfl ?_
              refine s_get C fc_6 zx_lt_0 (zx_0 _ _ _) 0 (by decide) e_P_copy_95 g_9 rfl ?_
              refine s_iload_n C e_P_copy_98 rfl ?_
              refine s_iload C e_P_copy_99 rfl ?_
              refine s_iload C e_P_copy_101 rfl ?_
              refine s_callV_3 C (c_Rows_hasPlaces C.inj _ _ _ _) wv_Rows_hasPlaces g_33 ⟨by decide, by decide⟩ fc_5 rfl zx_lt_1 (zx_1 _ _ _) rfl (Nat.le_of_ble_eq_true rfl) e_P_copy_103 (fun v11 σ12 => ?_)
              refine s_if_ne (tgt := 115) C e_P_copy_106 rfl ?_ ?_
              · exact s_cut (w_P_copy_B109 C _) ⟨rfl, trivial⟩
              · refine s_aload_n C e_P_copy_115 rfl ?_
                refine s_get C fc_6 zx_lt_0 (zx_0 _ _ _) 0 (by decide) e_P_copy_116 g_9 rfl ?_
                refine s_get C fc_5 zx_lt_1 (zx_1 _ _ _) 2 (by decide) e_P_copy_119 g_42 rfl ?_
                refine s_iload_n C e_P_copy_122 rfl ?_
                refine s_aald (c := 3) (ty := .array .int) C gIt zx_lt_4 (zx_4 _ _ _) rfl rfl zxf_4 e_P_copy_123 (fun hi123 => ?_)
                refine s_iload_n C e_P_copy_124 rfl ?_
                refine s_aload_n C e_P_copy_125 rfl ?_
                refine s_get C fc_6 zx_lt_0 (zx_0 _ _ _) 0 (by decide) e_P_copy_126 g_9 rfl ?_
                refine s_get C fc_5 zx_lt_1 (zx_1 _ _ _) 2 (by decide) e_P_copy_129 g_42 rfl ?_
                refine s_iload_n C e_P_copy_132 rfl ?_
                refine s_aald (c := 3) (ty := .array .int) C gIt zx_lt_4 (zx_4 _ _ _) rfl rfl zxf_4 e_P_copy_133 (fun hi133 => ?_)
                refine s_iload C e_P_copy_134 rfl ?_
                refine s_iload C e_P_copy_136 rfl ?_
                refine s_copy C (zi_lt (isI_g hi123)) (zi_lt (isI_g hi133)) (zi (isI_g hi123)) (zi (isI_g hi133)) g_43 ws_copy ⟨Nat.le_of_ble_eq_true rfl, Nat.le_of_ble_eq_true rfl⟩ e_P_copy_138 (fun σ13 => ?_)
                refine s_aload_n C e_P_copy_141 rfl ?_
                refine s_iload C e_P_copy_142 rfl ?_
                refine s_callV_1 C (c_P_foundNothing C.inj _ _) wv_P_foundNothing g_11 ⟨by decide, by decide⟩ fc_6 rfl zx_lt_0 (zx_0 _ _ _) rfl (Nat.le_of_ble_eq_true rfl) e_P_copy_144 (fun v14 σ15 => ?_)
                exact s_iret C e_P_copy_147
          · refine s_aload_n C e_P_copy_74 rfl ?_
            refine s_iconst C e_P_copy_75 (v := (5 : Int32)) ic_5 ?_
            refine s_callV_1 C (c_P_finding C.inj _ _) wv_P_finding g_20 ⟨by decide, by decide⟩ fc_6 rfl zx_lt_0 (zx_0 _ _ _) rfl (Nat.le_of_ble_eq_true rfl) e_P_copy_76 (fun v16 σ17 => ?_)
            exact s_iret C e_P_copy_79
        · exact s_cut (w_P_copy_B47 C _) ⟨rfl, trivial⟩
      · exact s_cut (w_P_copy_B47 C _) ⟨rfl, trivial⟩
theorem c_P_copy {l : Launch} {D : va_G} {k : Nat → ClassId} {q : Nat → Nat} (hq : Inj ZX q)  (σ : St) (x1 : Int32) (x2 : Int32) (x3 : Int32) (x4 : Int32) (x5 : Int32) : Ct l ZX D k q yX6_copy cX6_copy 6 (some .int) 2 43 [.ref (q 0), .int x1, .int x2, .int x3, .int x4, .int x5] σ (m_P_copy σ x1 x2 x3 x4 x5) :=
  Ct_of hq lcX (by decide) (Nat.le_of_ble_eq_true rfl) (fun _ _ _ _ _ _ _ _ _ _ C => w_P_copy C σ x1 x2 x3 x4 x5)
set_option maxRecDepth 100000 in
theorem w_Rows_remove {X : CX} (C : Cx X ZX RX5 cX5_remove 2 (some .int) 0 0)  (σ : St) (x1 : Int32) : Sm X ZX 2 (some .int) σ [(0, .ref (cq X 1)), (1, .int x1)] 0 [] (m_Rows_remove σ x1) := by
  unfold m_Rows_remove
  refine s_aload_n C e_Rows_remove_0 rfl ?_
  refine s_get C fc_5 zx_lt_1 (zx_1 _ _ _) 0 (by decide) e_Rows_remove_1 g_6 rfl ?_
  refine s_iload_n C e_Rows_remove_4 rfl ?_
  refine s_iconst C e_Rows_remove_5 (v := (-1 : Int32)) ic_m1 ?_
  refine s_iast C zx_lt_2 zx_2 e_Rows_remove_6 (fun σ1 => ?_)
  refine s_aload_n C e_Rows_remove_7 rfl ?_
  refine s_get C fc_5 zx_lt_1 (zx_1 _ _ _) 1 (by decide) e_Rows_remove_8 g_7 rfl ?_
  refine s_iload_n C e_Rows_remove_11 rfl ?_
  refine s_iald C zx_lt_3 zx_3 e_Rows_remove_12 ?_
  exact s_iret C e_Rows_remove_13
theorem c_Rows_remove {l : Launch} {D : va_G} {k : Nat → ClassId} {q : Nat → Nat} (hq : Inj ZX q)  (σ : St) (x1 : Int32) : Ct l ZX D k q yX5_remove cX5_remove 2 (some .int) 0 0 [.ref (q 1), .int x1] σ (m_Rows_remove σ x1) :=
  Ct_of hq lcX (by decide) (Nat.le_of_ble_eq_true rfl) (fun _ _ _ _ _ _ _ _ _ _ C => w_Rows_remove C σ x1)
set_option maxRecDepth 100000 in
theorem w_P_drop {X : CX} (C : Cx X ZX RX6 cX6_drop 2 (some .int) 2 43)  (σ : St) (x1 : Int32) : Sm X ZX 2 (some .int) σ [(0, .ref (cq X 0)), (1, .int x1)] 0 [] (m_P_drop σ x1) := by
  unfold m_P_drop
  refine s_aload_n C e_P_drop_0 rfl ?_
  refine s_get C fc_6 zx_lt_0 (zx_0 _ _ _) 0 (by decide) e_P_drop_1 g_9 rfl ?_
  refine s_iload_n C e_P_drop_4 rfl ?_
  refine s_callV_1 C (c_Rows_isRow C.inj _ _) wv_Rows_isRow g_25 ⟨by decide, by decide⟩ fc_5 rfl zx_lt_1 (zx_1 _ _ _) rfl (Nat.le_of_ble_eq_true rfl) e_P_drop_5 (fun v1 σ2 => ?_)
  refine s_if_ne (tgt := 14) C e_P_drop_8 rfl ?_ ?_
  · refine s_ldc C e_P_drop_11 g_10 ?_
    exact s_iret C e_P_drop_13
  · refine s_aload_n C e_P_drop_14 rfl ?_
    refine s_get C fc_6 zx_lt_0 (zx_0 _ _ _) 0 (by decide) e_P_drop_15 g_9 rfl ?_
    refine s_iload_n C e_P_drop_18 rfl ?_
    refine s_callV_1 C (c_Rows_isMissing C.inj _ _) wv_Rows_isMissing g_37 ⟨by decide, by decide⟩ fc_5 rfl zx_lt_1 (zx_1 _ _ _) rfl (Nat.le_of_ble_eq_true rfl) e_P_drop_19 (fun v3 σ4 => ?_)
    refine s_if_eq (tgt := 31) C e_P_drop_22 rfl ?_ ?_
    · refine s_aload_n C e_P_drop_31 rfl ?_
      refine s_aload_n C e_P_drop_32 rfl ?_
      refine s_get C fc_6 zx_lt_0 (zx_0 _ _ _) 0 (by decide) e_P_drop_33 g_9 rfl ?_
      refine s_iload_n C e_P_drop_36 rfl ?_
      refine s_callV_1 C (c_Rows_remove C.inj _ _) wv_Rows_remove g_44 ⟨by decide, by decide⟩ fc_5 rfl zx_lt_1 (zx_1 _ _ _) rfl (Nat.le_of_ble_eq_true rfl) e_P_drop_37 (fun v5 σ6 => ?_)
      refine s_callV_1 C (c_P_foundNothing C.inj _ _) wv_P_foundNothing g_11 ⟨by decide, by decide⟩ fc_6 rfl zx_lt_0 (zx_0 _ _ _) rfl (Nat.le_of_ble_eq_true rfl) e_P_drop_40 (fun v7 σ8 => ?_)
      exact s_iret C e_P_drop_43
    · refine s_aload_n C e_P_drop_25 rfl ?_
      refine s_iconst C e_P_drop_26 (v := (1 : Int32)) ic_1 ?_
      refine s_callV_1 C (c_P_finding C.inj _ _) wv_P_finding g_20 ⟨by decide, by decide⟩ fc_6 rfl zx_lt_0 (zx_0 _ _ _) rfl (Nat.le_of_ble_eq_true rfl) e_P_drop_27 (fun v9 σ10 => ?_)
      exact s_iret C e_P_drop_30
theorem c_P_drop {l : Launch} {D : va_G} {k : Nat → ClassId} {q : Nat → Nat} (hq : Inj ZX q)  (σ : St) (x1 : Int32) : Ct l ZX D k q yX6_drop cX6_drop 2 (some .int) 2 43 [.ref (q 0), .int x1] σ (m_P_drop σ x1) :=
  Ct_of hq lcX (by decide) (Nat.le_of_ble_eq_true rfl) (fun _ _ _ _ _ _ _ _ _ _ C => w_P_drop C σ x1)
set_option maxRecDepth 100000 in
theorem w_Reader_append {X : CX} (C : Cx X ZX RX4 cX4_append 2 (some .int) 0 0)  (σ : St) (x1 : Int32) : Sm X ZX 2 (some .int) σ [(0, .ref (cq X 13)), (1, .int x1)] 0 [] (m_Reader_append σ x1) := by
  unfold m_Reader_append
  refine s_aload_n C e_Reader_append_0 rfl ?_
  refine s_get C fc_4 zx_lt_13 (zx_13 _ _ _) 1 (by decide) e_Reader_append_1 g_48 rfl ?_
  refine s_sipush C e_Reader_append_4 (v := (130 : Int32)) sp_130 ?_
  refine s_icmp_ge (tgt := 30) C e_Reader_append_7 rfl ?_ ?_
  · refine s_aload_n C e_Reader_append_30 rfl ?_
    refine s_get C fc_4 zx_lt_13 (zx_13 _ _ _) 1 (by decide) e_Reader_append_31 g_48 rfl ?_
    exact s_iret C e_Reader_append_34
  · refine s_aload_n C e_Reader_append_10 rfl ?_
    refine s_get C fc_4 zx_lt_13 (zx_13 _ _ _) 0 (by decide) e_Reader_append_11 g_49 rfl ?_
    refine s_aload_n C e_Reader_append_14 rfl ?_
    refine s_get C fc_4 zx_lt_13 (zx_13 _ _ _) 1 (by decide) e_Reader_append_15 g_48 rfl ?_
    refine s_iload_n C e_Reader_append_18 rfl ?_
    refine s_iast C zx_lt_14 zx_14 e_Reader_append_19 (fun σ1 => ?_)
    refine s_aload_n C e_Reader_append_20 rfl ?_
    refine s_dup C e_Reader_append_21 rfl ?_
    refine s_get C fc_4 zx_lt_13 (zx_13 _ _ _) 1 (by decide) e_Reader_append_22 g_48 rfl ?_
    refine s_iconst C e_Reader_append_25 (v := (1 : Int32)) ic_1 ?_
    refine s_iadd C e_Reader_append_26 ?_
    refine s_put C fc_4 zx_lt_13 (zx_13 _ _ _) 1 (by decide) (zxp_13_1 _ _ _ _) (Nat.le_of_ble_eq_true rfl) e_Reader_append_27 g_48 rfl rfl (fun σ2 => ?_)
    refine s_aload_n C e_Reader_append_30 rfl ?_
    refine s_get C fc_4 zx_lt_13 (zx_13 _ _ _) 1 (by decide) e_Reader_append_31 g_48 rfl ?_
    exact s_iret C e_Reader_append_34
theorem c_Reader_append {l : Launch} {D : va_G} {k : Nat → ClassId} {q : Nat → Nat} (hq : Inj ZX q)  (σ : St) (x1 : Int32) : Ct l ZX D k q yX4_append cX4_append 2 (some .int) 0 0 [.ref (q 13), .int x1] σ (m_Reader_append σ x1) :=
  Ct_of hq lcX (by decide) (Nat.le_of_ble_eq_true rfl) (fun _ _ _ _ _ _ _ _ _ _ C => w_Reader_append C σ x1)
set_option maxRecDepth 100000 in
theorem w_P_feed {X : CX} (C : Cx X ZX RX6 cX6_feed 2 (some .int) 1 22)  (σ : St) (x1 : Int32) : Sm X ZX 2 (some .int) σ [(0, .ref (cq X 0)), (1, .int x1)] 0 [] (m_P_feed σ x1) := by
  unfold m_P_feed
  refine s_iload_n C e_P_feed_0 rfl ?_
  refine s_iconst C e_P_feed_1 (v := (0 : Int32)) ic_0 ?_
  refine s_sipush C e_P_feed_2 (v := (255 : Int32)) sp_255 ?_
  refine s_callS_3 C (c_P_within C.inj _ _ _ _) wv_P_within g_24 ⟨by decide, by decide⟩ rfl (Nat.le_of_ble_eq_true rfl) e_P_feed_5 (fun v1 σ2 => ?_)
  refine s_if_ne (tgt := 14) C e_P_feed_8 rfl ?_ ?_
  · refine s_ldc C e_P_feed_11 g_10 ?_
    exact s_iret C e_P_feed_13
  · refine s_aload_n C e_P_feed_14 rfl ?_
    refine s_get C fc_6 zx_lt_0 (zx_0 _ _ _) 1 (by decide) e_P_feed_15 g_50 rfl ?_
    refine s_get C fc_4 zx_lt_13 (zx_13 _ _ _) 1 (by decide) e_P_feed_18 g_51 rfl ?_
    refine s_sipush C e_P_feed_21 (v := (130 : Int32)) sp_130 ?_
    refine s_icmp_lt (tgt := 30) C e_P_feed_24 rfl ?_ ?_
    · refine s_aload_n C e_P_feed_30 rfl ?_
      refine s_get C fc_6 zx_lt_0 (zx_0 _ _ _) 1 (by decide) e_P_feed_31 g_50 rfl ?_
      refine s_iload_n C e_P_feed_34 rfl ?_
      refine s_callV_1 C (c_Reader_append C.inj _ _) wv_Reader_append g_52 ⟨by decide, by decide⟩ fc_4 rfl zx_lt_13 (zx_13 _ _ _) rfl (Nat.le_of_ble_eq_true rfl) e_P_feed_35 (fun v3 σ4 => ?_)
      exact s_iret C e_P_feed_38
    · refine s_ldc C e_P_feed_27 g_57 ?_
      exact s_iret C e_P_feed_29
theorem c_P_feed {l : Launch} {D : va_G} {k : Nat → ClassId} {q : Nat → Nat} (hq : Inj ZX q)  (σ : St) (x1 : Int32) : Ct l ZX D k q yX6_feed cX6_feed 2 (some .int) 1 22 [.ref (q 0), .int x1] σ (m_P_feed σ x1) :=
  Ct_of hq lcX (by decide) (Nat.le_of_ble_eq_true rfl) (fun _ _ _ _ _ _ _ _ _ _ C => w_P_feed C σ x1)
set_option maxRecDepth 100000 in
theorem w_Board_makeEmpty {X : CX} (C : Cx X ZX RX1 cX1_makeEmpty 1 none 0 0) {b : Nat} (hb : isB b) (σ : St)  : Sm X ZX 1 none σ [(0, .ref (cq X b))] 0 [] (m_Board_makeEmpty b σ) := by
  unfold m_Board_makeEmpty
  refine s_aload_n C e_Board_makeEmpty_0 rfl ?_
  refine s_iconst C e_Board_makeEmpty_1 (v := (0 : Int32)) ic_0 ?_
  refine s_put C fc_1 (zb_lt hb) (zb hb _ _ _) 0 (by decide) (zbp_0 hb _ _ _ _) (Nat.le_of_ble_eq_true rfl) e_Board_makeEmpty_2 g_58 rfl rfl (fun σ1 => ?_)
  refine s_aload_n C e_Board_makeEmpty_5 rfl ?_
  refine s_iconst C e_Board_makeEmpty_6 (v := (0 : Int32)) ic_0 ?_
  refine s_put C fc_1 (zb_lt hb) (zb hb _ _ _) 1 (by decide) (zbp_1 hb _ _ _ _) (Nat.le_of_ble_eq_true rfl) e_Board_makeEmpty_7 g_59 rfl rfl (fun σ2 => ?_)
  refine s_aload_n C e_Board_makeEmpty_10 rfl ?_
  refine s_iconst C e_Board_makeEmpty_11 (v := (0 : Int32)) ic_0 ?_
  refine s_put C fc_1 (zb_lt hb) (zb hb _ _ _) 2 (by decide) (zbp_2 hb _ _ _ _) (Nat.le_of_ble_eq_true rfl) e_Board_makeEmpty_12 g_60 rfl rfl (fun σ3 => ?_)
  refine s_aload_n C e_Board_makeEmpty_15 rfl ?_
  refine s_iconst C e_Board_makeEmpty_16 (v := (0 : Int32)) ic_0 ?_
  refine s_put C fc_1 (zb_lt hb) (zb hb _ _ _) 3 (by decide) (zbp_3 hb _ _ _ _) (Nat.le_of_ble_eq_true rfl) e_Board_makeEmpty_17 g_61 rfl rfl (fun σ4 => ?_)
  refine s_aload_n C e_Board_makeEmpty_20 rfl ?_
  refine s_iconst C e_Board_makeEmpty_21 (v := (0 : Int32)) ic_0 ?_
  refine s_put C fc_1 (zb_lt hb) (zb hb _ _ _) 4 (by decide) (zbp_4 hb _ _ _ _) (Nat.le_of_ble_eq_true rfl) e_Board_makeEmpty_22 g_62 rfl rfl (fun σ5 => ?_)
  refine s_aload_n C e_Board_makeEmpty_25 rfl ?_
  refine s_iconst C e_Board_makeEmpty_26 (v := (1 : Int32)) ic_1 ?_
  refine s_putZ C fc_1 (zb_lt hb) (zb hb _ _ _) 5 (by decide) (zbp_5 hb _ _ _ _) (Nat.le_of_ble_eq_true rfl) e_Board_makeEmpty_27 g_63 rfl rfl (fun σ6 => ?_)
  exact s_vret C e_Board_makeEmpty_30
theorem c_Board_makeEmpty {l : Launch} {D : va_G} {k : Nat → ClassId} {q : Nat → Nat} (hq : Inj ZX q) {b : Nat} (hb : isB b) (σ : St)  : Ct l ZX D k q yX1_makeEmpty cX1_makeEmpty 1 none 0 0 [.ref (q b)] σ (m_Board_makeEmpty b σ) :=
  Ct_of hq lcX (by decide) (Nat.le_of_ble_eq_true rfl) (fun _ _ _ _ _ _ _ _ _ _ C => w_Board_makeEmpty C hb σ)
set_option maxRecDepth 100000 in
theorem w_Reader_isNext {X : CX} (C : Cx X ZX RX4 cX4_isNext 2 (some .boolean) 0 0)  (σ : St) (x1 : Int32) : Sm X ZX 2 (some .boolean) σ [(0, .ref (cq X 13)), (1, .int x1)] 0 [] (m_Reader_isNext σ x1) := by
  unfold m_Reader_isNext
  refine s_aload_n C e_Reader_isNext_0 rfl ?_
  refine s_get C fc_4 zx_lt_13 (zx_13 _ _ _) 4 (by decide) e_Reader_isNext_1 g_64 rfl ?_
  refine s_aload_n C e_Reader_isNext_4 rfl ?_
  refine s_get C fc_4 zx_lt_13 (zx_13 _ _ _) 1 (by decide) e_Reader_isNext_5 g_48 rfl ?_
  refine s_icmp_ge (tgt := 28) C e_Reader_isNext_8 rfl ?_ ?_
  · refine s_iconst C e_Reader_isNext_28 (v := (0 : Int32)) ic_0 ?_
    exact s_zret C e_Reader_isNext_29
  · refine s_aload_n C e_Reader_isNext_11 rfl ?_
    refine s_get C fc_4 zx_lt_13 (zx_13 _ _ _) 0 (by decide) e_Reader_isNext_12 g_49 rfl ?_
    refine s_aload_n C e_Reader_isNext_15 rfl ?_
    refine s_get C fc_4 zx_lt_13 (zx_13 _ _ _) 4 (by decide) e_Reader_isNext_16 g_64 rfl ?_
    refine s_iald C zx_lt_14 zx_14 e_Reader_isNext_19 ?_
    refine s_iload_n C e_Reader_isNext_20 rfl ?_
    refine s_icmp_ne (tgt := 28) C e_Reader_isNext_21 rfl ?_ ?_
    · refine s_iconst C e_Reader_isNext_24 (v := (1 : Int32)) ic_1 ?_
      refine s_goto (tgt := 29) C e_Reader_isNext_25 rfl ?_
      exact s_zret C e_Reader_isNext_29
    · refine s_iconst C e_Reader_isNext_28 (v := (0 : Int32)) ic_0 ?_
      exact s_zret C e_Reader_isNext_29
theorem c_Reader_isNext {l : Launch} {D : va_G} {k : Nat → ClassId} {q : Nat → Nat} (hq : Inj ZX q)  (σ : St) (x1 : Int32) : Ct l ZX D k q yX4_isNext cX4_isNext 2 (some .boolean) 0 0 [.ref (q 13), .int x1] σ (m_Reader_isNext σ x1) :=
  Ct_of hq lcX (by decide) (Nat.le_of_ble_eq_true rfl) (fun _ _ _ _ _ _ _ _ _ _ C => w_Reader_isNext C σ x1)
set_option maxRecDepth 100000 in
theorem w_Reader_faultAt {X : CX} (C : Cx X ZX RX4 cX4_faultAt 3 (some .boolean) 0 0)  (σ : St) (x1 : Int32) (x2 : Int32) : Sm X ZX 3 (some .boolean) σ [(0, .ref (cq X 13)), (1, .int x1), (2, .int x2)] 0 [] (m_Reader_faultAt σ x1 x2) := by
  unfold m_Reader_faultAt
  refine s_aload_n C e_Reader_faultAt_0 rfl ?_
  refine s_iload_n C e_Reader_faultAt_1 rfl ?_
  refine s_put C fc_4 zx_lt_13 (zx_13 _ _ _) 3 (by decide) (zxp_13_3 _ _ _ _) (Nat.le_of_ble_eq_true rfl) e_Reader_faultAt_2 g_65 rfl rfl (fun σ1 => ?_)
  refine s_aload_n C e_Reader_faultAt_5 rfl ?_
  refine s_iload_n C e_Reader_faultAt_6 rfl ?_
  refine s_put C fc_4 zx_lt_13 (zx_13 _ _ _) 2 (by decide) (zxp_13_2 _ _ _ _) (Nat.le_of_ble_eq_true rfl) e_Reader_faultAt_7 g_66 rfl rfl (fun σ2 => ?_)
  refine s_iconst C e_Reader_faultAt_10 (v := (0 : Int32)) ic_0 ?_
  exact s_zret C e_Reader_faultAt_11
theorem c_Reader_faultAt {l : Launch} {D : va_G} {k : Nat → ClassId} {q : Nat → Nat} (hq : Inj ZX q)  (σ : St) (x1 : Int32) (x2 : Int32) : Ct l ZX D k q yX4_faultAt cX4_faultAt 3 (some .boolean) 0 0 [.ref (q 13), .int x1, .int x2] σ (m_Reader_faultAt σ x1 x2) :=
  Ct_of hq lcX (by decide) (Nat.le_of_ble_eq_true rfl) (fun _ _ _ _ _ _ _ _ _ _ C => w_Reader_faultAt C σ x1 x2)
set_option maxRecDepth 100000 in
theorem w_Reader_takes {X : CX} (C : Cx X ZX RX4 cX4_takes 2 (some .boolean) 1 22)  (σ : St) (x1 : Int32) : Sm X ZX 2 (some .boolean) σ [(0, .ref (cq X 13)), (1, .int x1)] 0 [] (m_Reader_takes σ x1) := by
  unfold m_Reader_takes
  refine s_aload_n C e_Reader_takes_0 rfl ?_
  refine s_iload_n C e_Reader_takes_1 rfl ?_
  refine s_callV_1 C (c_Reader_isNext C.inj _ _) wv_Reader_isNext g_71 ⟨by decide, by decide⟩ fc_4 rfl zx_lt_13 (zx_13 _ _ _) rfl (Nat.le_of_ble_eq_true rfl) e_Reader_takes_2 (fun v1 σ2 => ?_)
  refine s_if_ne (tgt := 18) C e_Reader_takes_5 rfl ?_ ?_
  · refine s_aload_n C e_Reader_takes_8 rfl ?_
    refine s_aload_n C e_Reader_takes_9 rfl ?_
    refine s_get C fc_4 zx_lt_13 (zx_13 _ _ _) 4 (by decide) e_Reader_takes_10 g_64 rfl ?_
    refine s_iconst C e_Reader_takes_13 (v := (1 : Int32)) ic_1 ?_
    refine s_callV_2 C (c_Reader_faultAt C.inj _ _ _) wv_Reader_faultAt g_67 ⟨by decide, by decide⟩ fc_4 rfl zx_lt_13 (zx_13 _ _ _) rfl (Nat.le_of_ble_eq_true rfl) e_Reader_takes_14 (fun v4 σ5 => ?_)
    exact s_zret C e_Reader_takes_17
  · refine s_aload_n C e_Reader_takes_18 rfl ?_
    refine s_dup C e_Reader_takes_19 rfl ?_
    refine s_get C fc_4 zx_lt_13 (zx_13 _ _ _) 4 (by decide) e_Reader_takes_20 g_64 rfl ?_
    refine s_iconst C e_Reader_takes_23 (v := (1 : Int32)) ic_1 ?_
    refine s_iadd C e_Reader_takes_24 ?_
    refine s_put C fc_4 zx_lt_13 (zx_13 _ _ _) 4 (by decide) (zxp_13_4 _ _ _ _) (Nat.le_of_ble_eq_true rfl) e_Reader_takes_25 g_64 rfl rfl (fun σ3 => ?_)
    refine s_iconst C e_Reader_takes_28 (v := (1 : Int32)) ic_1 ?_
    exact s_zret C e_Reader_takes_29
theorem c_Reader_takes {l : Launch} {D : va_G} {k : Nat → ClassId} {q : Nat → Nat} (hq : Inj ZX q)  (σ : St) (x1 : Int32) : Ct l ZX D k q yX4_takes cX4_takes 2 (some .boolean) 1 22 [.ref (q 13), .int x1] σ (m_Reader_takes σ x1) :=
  Ct_of hq lcX (by decide) (Nat.le_of_ble_eq_true rfl) (fun _ _ _ _ _ _ _ _ _ _ C => w_Reader_takes C σ x1)
set_option maxRecDepth 100000 in
theorem w_Reader_takesNumber_B109 {X : CX} (C : Cx X ZX RX4 cX4_takesNumber 5 (some .boolean) 1 22)   (σ : St) (x3 : Int32) : Sm X ZX 5 (some .boolean) σ [(0, .ref (cq X 13)), (3, .int x3)] 109 [] (m_Reader_takesNumber_B109 σ x3) := by
  unfold m_Reader_takesNumber_B109
  refine s_aload_n C e_Reader_takesNumber_109 rfl ?_
  refine s_iload_n C e_Reader_takesNumber_110 rfl ?_
  refine s_iconst C e_Reader_takesNumber_111 (v := (1 : Int32)) ic_1 ?_
  refine s_callV_2 C (c_Reader_faultAt C.inj _ _ _) wv_Reader_faultAt g_67 ⟨by decide, by decide⟩ fc_4 rfl zx_lt_13 (zx_13 _ _ _) rfl (Nat.le_of_ble_eq_true rfl) e_Reader_takesNumber_112 (fun v1 σ2 => ?_)
  exact s_zret C e_Reader_takesNumber_115
set_option maxRecDepth 100000 in
theorem w_Reader_takesNumber_B89 {X : CX} (C : Cx X ZX RX4 cX4_takesNumber 5 (some .boolean) 1 22)   (σ : St) (x1 : Int32) (x2 : Int32) (x3 : Int32) : Sm X ZX 5 (some .boolean) σ [(0, .ref (cq X 13)), (1, .int x1), (2, .int x2), (3, .int x3)] 89 [] (m_Reader_takesNumber_B89 σ x1 x2 x3) := by
  unfold m_Reader_takesNumber_B89
  refine s_aload_n C e_Reader_takesNumber_89 rfl ?_
  refine s_get C fc_4 zx_lt_13 (zx_13 _ _ _) 4 (by decide) e_Reader_takesNumber_90 g_64 rfl ?_
  refine s_iload_n C e_Reader_takesNumber_93 rfl ?_
  refine s_isub C e_Reader_takesNumber_94 ?_
  refine s_nm (fun y1 => ?_)
  refine s_istore C e_Reader_takesNumber_95 (by decide) ?_
  refine s_iload C e_Reader_takesNumber_97 rfl ?_
  refine s_iconst C e_Reader_takesNumber_99 (v := (1 : Int32)) ic_1 ?_
  refine s_icmp_lt (tgt := 109) C e_Reader_takesNumber_100 rfl ?_ ?_
  · exact s_cut (w_Reader_takesNumber_B109 C _ _) ⟨rfl, rfl, trivial⟩
  · refine s_iload C e_Reader_takesNumber_103 rfl ?_
    refine s_iconst C e_Reader_takesNumber_105 (v := (2 : Int32)) ic_2 ?_
    refine s_icmp_le (tgt := 116) C e_Reader_takesNumber_106 rfl ?_ ?_
    · refine s_aload_n C e_Reader_takesNumber_116 rfl ?_
      refine s_get C fc_4 zx_lt_13 (zx_13 _ _ _) 5 (by decide) e_Reader_takesNumber_117 g_75 rfl ?_
      refine s_iload_n C e_Reader_takesNumber_120 rfl ?_
      refine s_iload_n C e_Reader_takesNumber_121 rfl ?_
      refine s_callN_3 C (c_P_within C.inj _ _ _ _) wv_P_within g_76 ⟨by decide, by decide⟩ rfl (Nat.le_of_ble_eq_true rfl) e_Reader_takesNumber_122 (fun v2 σ3 => ?_)
      refine s_if_ne (tgt := 137) C e_Reader_takesNumber_125 rfl ?_ ?_
      · refine s_aload_n C e_Reader_takesNumber_128 rfl ?_
        refine s_iload_n C e_Reader_takesNumber_129 rfl ?_
        refine s_iconst C e_Reader_takesNumber_130 (v := (2 : Int32)) ic_2 ?_
        refine s_callV_2 C (c_Reader_faultAt C.inj _ _ _) wv_Reader_faultAt g_67 ⟨by decide, by decide⟩ fc_4 rfl zx_lt_13 (zx_13 _ _ _) rfl (Nat.le_of_ble_eq_true rfl) e_Reader_takesNumber_131 (fun v4 σ5 => ?_)
        refine s_if_eq (tgt := 141) C e_Reader_takesNumber_134 rfl ?_ ?_
        · refine s_iconst C e_Reader_takesNumber_141 (v := (0 : Int32)) ic_0 ?_
          exact s_zret C e_Reader_takesNumber_142
        · refine s_iconst C e_Reader_takesNumber_137 (v := (1 : Int32)) ic_1 ?_
          refine s_goto (tgt := 142) C e_Reader_takesNumber_138 rfl ?_
          exact s_zret C e_Reader_takesNumber_142
      · refine s_iconst C e_Reader_takesNumber_137 (v := (1 : Int32)) ic_1 ?_
        refine s_goto (tgt := 142) C e_Reader_takesNumber_138 rfl ?_
        exact s_zret C e_Reader_takesNumber_142
    · exact s_cut (w_Reader_takesNumber_B109 C _ _) ⟨rfl, rfl, trivial⟩
set_option maxRecDepth 100000 in
theorem w_Reader_takesNumber_B13 {X : CX} (C : Cx X ZX RX4 cX4_takesNumber 5 (some .boolean) 1 22)  (r13 : St → Int32 → Int32 → Int32 → Int32 → Rt) (hr13 : ∀ (σ : St) (x1 : Int32) (x2 : Int32) (x3 : Int32) (x4 : Int32), Sm X ZX 5 (some .boolean) σ [(0, .ref (cq X 13)), (1, .int x1), (2, .int x2), (3, .int x3), (4, .int x4)] 13 [] (r13 σ x1 x2 x3 x4)) (σ : St) (x1 : Int32) (x2 : Int32) (x3 : Int32) (x4 : Int32) : Sm X ZX 5 (some .boolean) σ [(0, .ref (cq X 13)), (1, .int x1), (2, .int x2), (3, .int x3), (4, .int x4)] 13 [] (m_Reader_takesNumber_B13 r13 σ x1 x2 x3 x4) := by
  unfold m_Reader_takesNumber_B13
  refine s_iload C e_Reader_takesNumber_13 rfl ?_
  refine s_iconst C e_Reader_takesNumber_15 (v := (3 : Int32)) ic_3 ?_
  refine s_icmp_ge (tgt := 89) C e_Reader_takesNumber_16 rfl ?_ ?_
  · exact s_cut (w_Reader_takesNumber_B89 C _ _ _ _) ⟨rfl, rfl, rfl, rfl, trivial⟩
  · refine s_aload_n C e_Reader_takesNumber_19 rfl ?_
    refine s_get C fc_4 zx_lt_13 (zx_13 _ _ _) 4 (by decide) e_Reader_takesNumber_20 g_64 rfl ?_
    refine s_aload_n C e_Reader_takesNumber_23 rfl ?_
    refine s_get C fc_4 zx_lt_13 (zx_13 _ _ _) 1 (by decide) e_Reader_takesNumber_24 g_48 rfl ?_
    refine s_icmp_ge (tgt := 89) C e_Reader_takesNumber_27 rfl ?_ ?_
    · exact s_cut (w_Reader_takesNumber_B89 C _ _ _ _) ⟨rfl, rfl, rfl, rfl, trivial⟩
    · refine s_aload_n C e_Reader_takesNumber_30 rfl ?_
      refine s_get C fc_4 zx_lt_13 (zx_13 _ _ _) 0 (by decide) e_Reader_takesNumber_31 g_49 rfl ?_
      refine s_aload_n C e_Reader_takesNumber_34 rfl ?_
      refine s_get C fc_4 zx_lt_13 (zx_13 _ _ _) 4 (by decide) e_Reader_takesNumber_35 g_64 rfl ?_
      refine s_iald C zx_lt_14 zx_14 e_Reader_takesNumber_38 ?_
      refine s_bipush C e_Reader_takesNumber_39 (v := (48 : Int32)) bp_48 ?_
      refine s_bipush C e_Reader_takesNumber_41 (v := (57 : Int32)) bp_57 ?_
      refine s_callN_3 C (c_P_within C.inj _ _ _ _) wv_P_within g_76 ⟨by decide, by decide⟩ rfl (Nat.le_of_ble_eq_true rfl) e_Reader_takesNumber_43 (fun v1 σ2 => ?_)
      refine s_if_eq (tgt := 89) C e_Reader_takesNumber_46 rfl ?_ ?_
      · exact s_cut (w_Reader_takesNumber_B89 C _ _ _ _) ⟨rfl, rfl, rfl, rfl, trivial⟩
      · refine s_aload_n C e_Reader_takesNumber_49 rfl ?_
        refine s_aload_n C e_Reader_takesNumber_50 rfl ?_
        refine s_get C fc_4 zx_lt_13 (zx_13 _ _ _) 5 (by decide) e_Reader_takesNumber_51 g_75 rfl ?_
        refine s_bipush C e_Reader_takesNumber_54 (v := (10 : Int32)) bp_10 ?_
        refine s_imul C e_Reader_takesNumber_56 ?_
        refine s_aload_n C e_Reader_takesNumber_57 rfl ?_
        refine s_get C fc_4 zx_lt_13 (zx_13 _ _ _) 0 (by decide) e_Reader_takesNumber_58 g_49 rfl ?_
        refine s_aload_n C e_Reader_takesNumber_61 rfl ?_
        refine s_get C fc_4 zx_lt_13 (zx_13 _ _ _) 4 (by decide) e_Reader_takesNumber_62 g_64 rfl ?_
        refine s_iald C zx_lt_14 zx_14 e_Reader_takesNumber_65 ?_
        refine s_iadd C e_Reader_takesNumber_66 ?_
        refine s_bipush C e_Reader_takesNumber_67 (v := (48 : Int32)) bp_48 ?_
        refine s_isub C e_Reader_takesNumber_69 ?_
        refine s_put C fc_4 zx_lt_13 (zx_13 _ _ _) 5 (by decide) (zxp_13_5 _ _ _ _) (Nat.le_of_ble_eq_true rfl) e_Reader_takesNumber_70 g_75 rfl rfl (fun σ3 => ?_)
        refine s_aload_n C e_Reader_takesNumber_73 rfl ?_
        refine s_dup C e_Reader_takesNumber_74 rfl ?_
        refine s_get C fc_4 zx_lt_13 (zx_13 _ _ _) 4 (by decide) e_Reader_takesNumber_75 g_64 rfl ?_
        refine s_iconst C e_Reader_takesNumber_78 (v := (1 : Int32)) ic_1 ?_
        refine s_iadd C e_Reader_takesNumber_79 ?_
        refine s_put C fc_4 zx_lt_13 (zx_13 _ _ _) 4 (by decide) (zxp_13_4 _ _ _ _) (Nat.le_of_ble_eq_true rfl) e_Reader_takesNumber_80 g_64 rfl rfl (fun σ4 => ?_)
        refine s_iinc C e_Reader_takesNumber_83 (v := (1 : Int32)) rfl (by decide) ii_1 ?_
        refine s_goto (tgt := 13) C e_Reader_takesNumber_86 rfl ?_
        exact s_cut (hr13 _ _ _ _ _) ⟨rfl, rfl, rfl, rfl, rfl, trivial⟩
theorem w_Reader_takesNumber_L13 {X : CX} (C : Cx X ZX RX4 cX4_takesNumber 5 (some .boolean) 1 22)   : ∀ (n : Nat) (σ : St) (x1 : Int32) (x2 : Int32) (x3 : Int32) (x4 : Int32), Sm X ZX 5 (some .boolean) σ [(0, .ref (cq X 13)), (1, .int x1), (2, .int x2), (3, .int x3), (4, .int x4)] 13 [] (m_Reader_takesNumber_L13 n σ x1 x2 x3 x4)
  | 0, _, _, _, _, _ => s_none
  | n + 1, σ, x1, x2, x3, x4 => w_Reader_takesNumber_B13 C (m_Reader_takesNumber_L13 n) (w_Reader_takesNumber_L13 C n) σ x1 x2 x3 x4
set_option maxRecDepth 100000 in
theorem w_Reader_takesNumber {X : CX} (C : Cx X ZX RX4 cX4_takesNumber 5 (some .boolean) 1 22)  (σ : St) (x1 : Int32) (x2 : Int32) : Sm X ZX 5 (some .boolean) σ [(0, .ref (cq X 13)), (1, .int x1), (2, .int x2)] 0 [] (m_Reader_takesNumber σ x1 x2) := by
  unfold m_Reader_takesNumber
  refine s_aload_n C e_Reader_takesNumber_0 rfl ?_
  refine s_get C fc_4 zx_lt_13 (zx_13 _ _ _) 4 (by decide) e_Reader_takesNumber_1 g_64 rfl ?_
  refine s_nm (fun y1 => ?_)
  refine s_istore_n C e_Reader_takesNumber_4 (by decide) ?_
  refine s_aload_n C e_Reader_takesNumber_5 rfl ?_
  refine s_iconst C e_Reader_takesNumber_6 (v := (0 : Int32)) ic_0 ?_
  refine s_put C fc_4 zx_lt_13 (zx_13 _ _ _) 5 (by decide) (zxp_13_5 _ _ _ _) (Nat.le_of_ble_eq_true rfl) e_Reader_takesNumber_7 g_75 rfl rfl (fun σ2 => ?_)
  refine s_iconst C e_Reader_takesNumber_10 (v := (0 : Int32)) ic_0 ?_
  refine s_istore C e_Reader_takesNumber_11 (by decide) ?_
  exact s_cut (w_Reader_takesNumber_L13 C FU _ _ _ _ _) ⟨rfl, rfl, rfl, rfl, rfl, trivial⟩
theorem c_Reader_takesNumber {l : Launch} {D : va_G} {k : Nat → ClassId} {q : Nat → Nat} (hq : Inj ZX q)  (σ : St) (x1 : Int32) (x2 : Int32) : Ct l ZX D k q yX4_takesNumber cX4_takesNumber 5 (some .boolean) 1 22 [.ref (q 13), .int x1, .int x2] σ (m_Reader_takesNumber σ x1 x2) :=
  Ct_of hq lcX (by decide) (Nat.le_of_ble_eq_true rfl) (fun _ _ _ _ _ _ _ _ _ _ C => w_Reader_takesNumber C σ x1 x2)
set_option maxRecDepth 100000 in
theorem w_Reader_readLaw {X : CX} (C : Cx X ZX RX4 cX4_readLaw 2 (some .boolean) 2 46) {o : Nat} (ho : isB o) (σ : St)  : Sm X ZX 2 (some .boolean) σ [(0, .ref (cq X 13)), (1, .ref (cq X o))] 0 [] (m_Reader_readLaw o σ) := by
  unfold m_Reader_readLaw
  refine s_aload_n C e_Reader_readLaw_0 rfl ?_
  refine s_bipush C e_Reader_readLaw_1 (v := (109 : Int32)) bp_109 ?_
  refine s_callV_1 C (c_Reader_takes C.inj _ _) wv_Reader_takes g_78 ⟨by decide, by decide⟩ fc_4 rfl zx_lt_13 (zx_13 _ _ _) rfl (Nat.le_of_ble_eq_true rfl) e_Reader_readLaw_3 (fun v1 σ2 => ?_)
  refine s_if_eq (tgt := 19) C e_Reader_readLaw_6 rfl ?_ ?_
  · refine s_iconst C e_Reader_readLaw_19 (v := (0 : Int32)) ic_0 ?_
    exact s_zret C e_Reader_readLaw_20
  · refine s_aload_n C e_Reader_readLaw_9 rfl ?_
    refine s_iconst C e_Reader_readLaw_10 (v := (0 : Int32)) ic_0 ?_
    refine s_bipush C e_Reader_readLaw_11 (v := (15 : Int32)) bp_15 ?_
    refine s_callV_2 C (c_Reader_takesNumber C.inj _ _ _) wv_Reader_takesNumber g_82 ⟨by decide, by decide⟩ fc_4 rfl zx_lt_13 (zx_13 _ _ _) rfl (Nat.le_of_ble_eq_true rfl) e_Reader_readLaw_13 (fun v3 σ4 => ?_)
    refine s_if_ne (tgt := 21) C e_Reader_readLaw_16 rfl ?_ ?_
    · refine s_iconst C e_Reader_readLaw_19 (v := (0 : Int32)) ic_0 ?_
      exact s_zret C e_Reader_readLaw_20
    · refine s_aload_n C e_Reader_readLaw_21 rfl ?_
      refine s_aload_n C e_Reader_readLaw_22 rfl ?_
      refine s_get C fc_4 zx_lt_13 (zx_13 _ _ _) 5 (by decide) e_Reader_readLaw_23 g_75 rfl ?_
      refine s_put C fc_1 (zb_lt ho) (zb ho _ _ _) 2 (by decide) (zbp_2 ho _ _ _ _) (Nat.le_of_ble_eq_true rfl) e_Reader_readLaw_26 g_77 rfl rfl (fun σ5 => ?_)
      refine s_aload_n C e_Reader_readLaw_29 rfl ?_
      refine s_bipush C e_Reader_readLaw_30 (v := (59 : Int32)) bp_59 ?_
      refine s_callV_1 C (c_Reader_takes C.inj _ _) wv_Reader_takes g_78 ⟨by decide, by decide⟩ fc_4 rfl zx_lt_13 (zx_13 _ _ _) rfl (Nat.le_of_ble_eq_true rfl) e_Reader_readLaw_32 (fun v6 σ7 => ?_)
      exact s_zret C e_Reader_readLaw_35
theorem c_Reader_readLaw {l : Launch} {D : va_G} {k : Nat → ClassId} {q : Nat → Nat} (hq : Inj ZX q) {o : Nat} (ho : isB o) (σ : St)  : Ct l ZX D k q yX4_readLaw cX4_readLaw 2 (some .boolean) 2 46 [.ref (q 13), .ref (q o)] σ (m_Reader_readLaw o σ) :=
  Ct_of hq lcX (by decide) (Nat.le_of_ble_eq_true rfl) (fun _ _ _ _ _ _ _ _ _ _ C => w_Reader_readLaw C ho σ)
set_option maxRecDepth 100000 in
theorem w_Reader_readCell {X : CX} (C : Cx X ZX RX4 cX4_readCell 2 (some .boolean) 2 46) {o : Nat} (ho : isB o) (σ : St)  : Sm X ZX 2 (some .boolean) σ [(0, .ref (cq X 13)), (1, .ref (cq X o))] 0 [] (m_Reader_readCell o σ) := by
  unfold m_Reader_readCell
  refine s_aload_n C e_Reader_readCell_0 rfl ?_
  refine s_get C fc_1 (zb_lt ho) (zb ho _ _ _) 0 (by decide) e_Reader_readCell_1 g_86 rfl ?_
  refine s_bipush C e_Reader_readCell_4 (v := (16 : Int32)) bp_16 ?_
  refine s_icmp_lt (tgt := 19) C e_Reader_readCell_6 rfl ?_ ?_
  · refine s_aload_n C e_Reader_readCell_19 rfl ?_
    refine s_bipush C e_Reader_readCell_20 (v := (99 : Int32)) bp_99 ?_
    refine s_callV_1 C (c_Reader_takes C.inj _ _) wv_Reader_takes g_78 ⟨by decide, by decide⟩ fc_4 rfl zx_lt_13 (zx_13 _ _ _) rfl (Nat.le_of_ble_eq_true rfl) e_Reader_readCell_22 (fun v1 σ2 => ?_)
    refine s_if_eq (tgt := 38) C e_Reader_readCell_25 rfl ?_ ?_
    · refine s_iconst C e_Reader_readCell_38 (v := (0 : Int32)) ic_0 ?_
      exact s_zret C e_Reader_readCell_39
    · refine s_aload_n C e_Reader_readCell_28 rfl ?_
      refine s_iconst C e_Reader_readCell_29 (v := (0 : Int32)) ic_0 ?_
      refine s_bipush C e_Reader_readCell_30 (v := (9 : Int32)) bp_9 ?_
      refine s_callV_2 C (c_Reader_takesNumber C.inj _ _ _) wv_Reader_takesNumber g_82 ⟨by decide, by decide⟩ fc_4 rfl zx_lt_13 (zx_13 _ _ _) rfl (Nat.le_of_ble_eq_true rfl) e_Reader_readCell_32 (fun v3 σ4 => ?_)
      refine s_if_ne (tgt := 40) C e_Reader_readCell_35 rfl ?_ ?_
      · refine s_iconst C e_Reader_readCell_38 (v := (0 : Int32)) ic_0 ?_
        exact s_zret C e_Reader_readCell_39
      · refine s_aload_n C e_Reader_readCell_40 rfl ?_
        refine s_get C fc_1 (zb_lt ho) (zb ho _ _ _) 6 (by decide) e_Reader_readCell_41 g_87 rfl ?_
        refine s_aload_n C e_Reader_readCell_44 rfl ?_
        refine s_get C fc_1 (zb_lt ho) (zb ho _ _ _) 0 (by decide) e_Reader_readCell_45 g_86 rfl ?_
        refine s_aload_n C e_Reader_readCell_48 rfl ?_
        refine s_get C fc_4 zx_lt_13 (zx_13 _ _ _) 5 (by decide) e_Reader_readCell_49 g_75 rfl ?_
        refine s_iast C (zb1_lt ho) (zb1 ho) e_Reader_readCell_52 (fun σ5 => ?_)
        refine s_aload_n C e_Reader_readCell_53 rfl ?_
        refine s_dup C e_Reader_readCell_54 rfl ?_
        refine s_get C fc_1 (zb_lt ho) (zb ho _ _ _) 0 (by decide) e_Reader_readCell_55 g_86 rfl ?_
        refine s_iconst C e_Reader_readCell_58 (v := (1 : Int32)) ic_1 ?_
        refine s_iadd C e_Reader_readCell_59 ?_
        refine s_put C fc_1 (zb_lt ho) (zb ho _ _ _) 0 (by decide) (zbp_0 ho _ _ _ _) (Nat.le_of_ble_eq_true rfl) e_Reader_readCell_60 g_86 rfl rfl (fun σ6 => ?_)
        refine s_aload_n C e_Reader_readCell_63 rfl ?_
        refine s_bipush C e_Reader_readCell_64 (v := (59 : Int32)) bp_59 ?_
        refine s_callV_1 C (c_Reader_takes C.inj _ _) wv_Reader_takes g_78 ⟨by decide, by decide⟩ fc_4 rfl zx_lt_13 (zx_13 _ _ _) rfl (Nat.le_of_ble_eq_true rfl) e_Reader_readCell_66 (fun v7 σ8 => ?_)
        exact s_zret C e_Reader_readCell_69
  · refine s_aload_n C e_Reader_readCell_9 rfl ?_
    refine s_aload_n C e_Reader_readCell_10 rfl ?_
    refine s_get C fc_4 zx_lt_13 (zx_13 _ _ _) 4 (by decide) e_Reader_readCell_11 g_64 rfl ?_
    refine s_iconst C e_Reader_readCell_14 (v := (3 : Int32)) ic_3 ?_
    refine s_callV_2 C (c_Reader_faultAt C.inj _ _ _) wv_Reader_faultAt g_67 ⟨by decide, by decide⟩ fc_4 rfl zx_lt_13 (zx_13 _ _ _) rfl (Nat.le_of_ble_eq_true rfl) e_Reader_readCell_15 (fun v9 σ10 => ?_)
    exact s_zret C e_Reader_readCell_18
theorem c_Reader_readCell {l : Launch} {D : va_G} {k : Nat → ClassId} {q : Nat → Nat} (hq : Inj ZX q) {o : Nat} (ho : isB o) (σ : St)  : Ct l ZX D k q yX4_readCell cX4_readCell 2 (some .boolean) 2 46 [.ref (q 13), .ref (q o)] σ (m_Reader_readCell o σ) :=
  Ct_of hq lcX (by decide) (Nat.le_of_ble_eq_true rfl) (fun _ _ _ _ _ _ _ _ _ _ C => w_Reader_readCell C ho σ)
set_option maxRecDepth 100000 in
theorem w_Reader_readCells_B33 {X : CX} (C : Cx X ZX RX4 cX4_readCells 3 (some .boolean) 3 67) {o : Nat} (ho : isB o)  (σ : St)  : Sm X ZX 3 (some .boolean) σ [(0, .ref (cq X 13)), (1, .ref (cq X o))] 33 [] (m_Reader_readCells_B33 o σ) := by
  unfold m_Reader_readCells_B33
  refine s_aload_n C e_Reader_readCells_33 rfl ?_
  refine s_get C fc_1 (zb_lt ho) (zb ho _ _ _) 0 (by decide) e_Reader_readCells_34 g_86 rfl ?_
  refine s_iconst C e_Reader_readCells_37 (v := (4 : Int32)) ic_4 ?_
  refine s_icmp_ge (tgt := 53) C e_Reader_readCells_38 rfl ?_ ?_
  · refine s_iconst C e_Reader_readCells_53 (v := (1 : Int32)) ic_1 ?_
    refine s_goto (tgt := 58) C e_Reader_readCells_54 rfl ?_
    exact s_zret C e_Reader_readCells_58
  · refine s_aload_n C e_Reader_readCells_41 rfl ?_
    refine s_aload_n C e_Reader_readCells_42 rfl ?_
    refine s_get C fc_4 zx_lt_13 (zx_13 _ _ _) 4 (by decide) e_Reader_readCells_43 g_64 rfl ?_
    refine s_iconst C e_Reader_readCells_46 (v := (1 : Int32)) ic_1 ?_
    refine s_callV_2 C (c_Reader_faultAt C.inj _ _ _) wv_Reader_faultAt g_67 ⟨by decide, by decide⟩ fc_4 rfl zx_lt_13 (zx_13 _ _ _) rfl (Nat.le_of_ble_eq_true rfl) e_Reader_readCells_47 (fun v1 σ2 => ?_)
    refine s_if_eq (tgt := 57) C e_Reader_readCells_50 rfl ?_ ?_
    · refine s_iconst C e_Reader_readCells_57 (v := (0 : Int32)) ic_0 ?_
      exact s_zret C e_Reader_readCells_58
    · refine s_iconst C e_Reader_readCells_53 (v := (1 : Int32)) ic_1 ?_
      refine s_goto (tgt := 58) C e_Reader_readCells_54 rfl ?_
      exact s_zret C e_Reader_readCells_58
set_option maxRecDepth 100000 in
theorem w_Reader_readCells_B2 {X : CX} (C : Cx X ZX RX4 cX4_readCells 3 (some .boolean) 3 67) {o : Nat} (ho : isB o) (r2 : St → Int32 → Rt) (hr2 : ∀ (σ : St) (x2 : Int32), Sm X ZX 3 (some .boolean) σ [(0, .ref (cq X 13)), (1, .ref (cq X o)), (2, .int x2)] 2 [] (r2 σ x2)) (σ : St) (x2 : Int32) : Sm X ZX 3 (some .boolean) σ [(0, .ref (cq X 13)), (1, .ref (cq X o)), (2, .int x2)] 2 [] (m_Reader_readCells_B2 o r2 σ x2) := by
  unfold m_Reader_readCells_B2
  refine s_iload_n C e_Reader_readCells_2 rfl ?_
  refine s_bipush C e_Reader_readCells_3 (v := (16 : Int32)) bp_16 ?_
  refine s_icmp_gt (tgt := 33) C e_Reader_readCells_5 rfl ?_ ?_
  · exact s_cut (w_Reader_readCells_B33 C ho _) ⟨rfl, rfl, trivial⟩
  · refine s_aload_n C e_Reader_readCells_8 rfl ?_
    refine s_bipush C e_Reader_readCells_9 (v := (99 : Int32)) bp_99 ?_
    refine s_callV_1 C (c_Reader_isNext C.inj _ _) wv_Reader_isNext g_71 ⟨by decide, by decide⟩ fc_4 rfl zx_lt_13 (zx_13 _ _ _) rfl (Nat.le_of_ble_eq_true rfl) e_Reader_readCells_11 (fun v1 σ2 => ?_)
    refine s_if_eq (tgt := 33) C e_Reader_readCells_14 rfl ?_ ?_
    · exact s_cut (w_Reader_readCells_B33 C ho _) ⟨rfl, rfl, trivial⟩
    · refine s_aload_n C e_Reader_readCells_17 rfl ?_
      refine s_aload_n C e_Reader_readCells_18 rfl ?_
      refine s_callV_1 C (c_Reader_readCell C.inj ho _) wv_Reader_readCell g_88 ⟨by decide, by decide⟩ fc_4 rfl zx_lt_13 (zx_13 _ _ _) rfl (Nat.le_of_ble_eq_true rfl) e_Reader_readCells_19 (fun v3 σ4 => ?_)
      refine s_if_ne (tgt := 27) C e_Reader_readCells_22 rfl ?_ ?_
      · refine s_iconst C e_Reader_readCells_25 (v := (0 : Int32)) ic_0 ?_
        exact s_zret C e_Reader_readCells_26
      · refine s_iinc C e_Reader_readCells_27 (v := (1 : Int32)) rfl (by decide) ii_1 ?_
        refine s_goto (tgt := 2) C e_Reader_readCells_30 rfl ?_
        exact s_cut (hr2 _ _) ⟨rfl, rfl, rfl, trivial⟩
theorem w_Reader_readCells_L2 {X : CX} (C : Cx X ZX RX4 cX4_readCells 3 (some .boolean) 3 67) {o : Nat} (ho : isB o)  : ∀ (n : Nat) (σ : St) (x2 : Int32), Sm X ZX 3 (some .boolean) σ [(0, .ref (cq X 13)), (1, .ref (cq X o)), (2, .int x2)] 2 [] (m_Reader_readCells_L2 o n σ x2)
  | 0, _, _ => s_none
  | n + 1, σ, x2 => w_Reader_readCells_B2 C ho (m_Reader_readCells_L2 o n) (w_Reader_readCells_L2 C ho n) σ x2
set_option maxRecDepth 100000 in
theorem w_Reader_readCells {X : CX} (C : Cx X ZX RX4 cX4_readCells 3 (some .boolean) 3 67) {o : Nat} (ho : isB o) (σ : St)  : Sm X ZX 3 (some .boolean) σ [(0, .ref (cq X 13)), (1, .ref (cq X o))] 0 [] (m_Reader_readCells o σ) := by
  unfold m_Reader_readCells
  refine s_iconst C e_Reader_readCells_0 (v := (0 : Int32)) ic_0 ?_
  refine s_istore_n C e_Reader_readCells_1 (by decide) ?_
  exact s_cut (w_Reader_readCells_L2 C ho FU _ _) ⟨rfl, rfl, rfl, trivial⟩
theorem c_Reader_readCells {l : Launch} {D : va_G} {k : Nat → ClassId} {q : Nat → Nat} (hq : Inj ZX q) {o : Nat} (ho : isB o) (σ : St)  : Ct l ZX D k q yX4_readCells cX4_readCells 3 (some .boolean) 3 67 [.ref (q 13), .ref (q o)] σ (m_Reader_readCells o σ) :=
  Ct_of hq lcX (by decide) (Nat.le_of_ble_eq_true rfl) (fun _ _ _ _ _ _ _ _ _ _ C => w_Reader_readCells C ho σ)
set_option maxRecDepth 100000 in
theorem w_Reader_kindOf {X : CX} (C : Cx X ZX RX4 cX4_kindOf 1 (some .int) 0 0)  (σ : St) (x0 : Int32) : Sm X ZX 1 (some .int) σ [(0, .int x0)] 0 [] (m_Reader_kindOf σ x0) := by
  unfold m_Reader_kindOf
  refine s_iload_n C e_Reader_kindOf_0 rfl ?_
  refine s_split (fun h1_97 => ?_) (fun h1_97 => ?_)
  · refine s_look (off := 51) (tgt := 52) C e_Reader_kindOf_1 rfl (by rw [h1_97]; rfl) rfl ?_
    refine s_iconst C e_Reader_kindOf_52 (v := (1 : Int32)) ic_1 ?_
    exact s_iret C e_Reader_kindOf_53
  · skip
    refine s_split (fun h1_111 => ?_) (fun h1_111 => ?_)
    · refine s_look (off := 57) (tgt := 58) C e_Reader_kindOf_1 rfl (by rw [h1_111]; rfl) rfl ?_
      refine s_iconst C e_Reader_kindOf_58 (v := (4 : Int32)) ic_4 ?_
      exact s_iret C e_Reader_kindOf_59
    · skip
      refine s_split (fun h1_114 => ?_) (fun h1_114 => ?_)
      · refine s_look (off := 55) (tgt := 56) C e_Reader_kindOf_1 rfl (by rw [h1_114]; rfl) rfl ?_
        refine s_iconst C e_Reader_kindOf_56 (v := (3 : Int32)) ic_3 ?_
        exact s_iret C e_Reader_kindOf_57
      · skip
        refine s_split (fun h1_115 => ?_) (fun h1_115 => ?_)
        · refine s_look (off := 53) (tgt := 54) C e_Reader_kindOf_1 rfl (by rw [h1_115]; rfl) rfl ?_
          refine s_iconst C e_Reader_kindOf_54 (v := (2 : Int32)) ic_2 ?_
          exact s_iret C e_Reader_kindOf_55
        · skip
          refine s_split (fun h1_119 => ?_) (fun h1_119 => ?_)
          · refine s_look (off := 59) (tgt := 60) C e_Reader_kindOf_1 rfl (by rw [h1_119]; rfl) rfl ?_
            refine s_iconst C e_Reader_kindOf_60 (v := (5 : Int32)) ic_5 ?_
            exact s_iret C e_Reader_kindOf_61
          · skip
            refine s_look (off := 61) (tgt := 62) C e_Reader_kindOf_1 rfl (by simp [Op.lookupswitch.offset, Ne.symm (ne_i (z := 97) rfl h1_97), Ne.symm (ne_i (z := 111) rfl h1_111), Ne.symm (ne_i (z := 114) rfl h1_114), Ne.symm (ne_i (z := 115) rfl h1_115), Ne.symm (ne_i (z := 119) rfl h1_119)]) rfl ?_
            refine s_iconst C e_Reader_kindOf_62 (v := (0 : Int32)) ic_0 ?_
            exact s_iret C e_Reader_kindOf_63
theorem c_Reader_kindOf {l : Launch} {D : va_G} {k : Nat → ClassId} {q : Nat → Nat} (hq : Inj ZX q)  (σ : St) (x0 : Int32) : Ct l ZX D k q yX4_kindOf cX4_kindOf 1 (some .int) 0 0 [.int x0] σ (m_Reader_kindOf σ x0) :=
  Ct_of hq lcX (by decide) (Nat.le_of_ble_eq_true rfl) (fun _ _ _ _ _ _ _ _ _ _ C => w_Reader_kindOf C σ x0)
set_option maxRecDepth 100000 in
theorem w_Board_owner_B2 {X : CX} (C : Cx X ZX RX1 cX1_owner 3 (some .int) 0 0) {b : Nat} (hb : isB b) (r2 : St → Int32 → Int32 → Rt) (hr2 : ∀ (σ : St) (x1 : Int32) (x2 : Int32), Sm X ZX 3 (some .int) σ [(0, .ref (cq X b)), (1, .int x1), (2, .int x2)] 2 [] (r2 σ x1 x2)) (σ : St) (x1 : Int32) (x2 : Int32) : Sm X ZX 3 (some .int) σ [(0, .ref (cq X b)), (1, .int x1), (2, .int x2)] 2 [] (m_Board_owner_B2 b r2 σ x1 x2) := by
  unfold m_Board_owner_B2
  refine s_iload_n C e_Board_owner_2 rfl ?_
  refine s_aload_n C e_Board_owner_3 rfl ?_
  refine s_get C fc_1 (zb_lt hb) (zb hb _ _ _) 1 (by decide) e_Board_owner_4 g_59 rfl ?_
  refine s_icmp_ge (tgt := 28) C e_Board_owner_7 rfl ?_ ?_
  · refine s_ldc C e_Board_owner_28 g_92 ?_
    exact s_iret C e_Board_owner_30
  · refine s_aload_n C e_Board_owner_10 rfl ?_
    refine s_get C fc_1 (zb_lt hb) (zb hb _ _ _) 7 (by decide) e_Board_owner_11 g_93 rfl ?_
    refine s_iload_n C e_Board_owner_14 rfl ?_
    refine s_iald C (zb2_lt hb) (zb2 hb) e_Board_owner_15 ?_
    refine s_iload_n C e_Board_owner_16 rfl ?_
    refine s_icmp_ne (tgt := 22) C e_Board_owner_17 rfl ?_ ?_
    · refine s_iload_n C e_Board_owner_20 rfl ?_
      exact s_iret C e_Board_owner_21
    · refine s_iinc C e_Board_owner_22 (v := (1 : Int32)) rfl (by decide) ii_1 ?_
      refine s_goto (tgt := 2) C e_Board_owner_25 rfl ?_
      exact s_cut (hr2 _ _ _) ⟨rfl, rfl, rfl, trivial⟩
theorem w_Board_owner_L2 {X : CX} (C : Cx X ZX RX1 cX1_owner 3 (some .int) 0 0) {b : Nat} (hb : isB b)  : ∀ (n : Nat) (σ : St) (x1 : Int32) (x2 : Int32), Sm X ZX 3 (some .int) σ [(0, .ref (cq X b)), (1, .int x1), (2, .int x2)] 2 [] (m_Board_owner_L2 b n σ x1 x2)
  | 0, _, _, _ => s_none
  | n + 1, σ, x1, x2 => w_Board_owner_B2 C hb (m_Board_owner_L2 b n) (w_Board_owner_L2 C hb n) σ x1 x2
set_option maxRecDepth 100000 in
theorem w_Board_owner {X : CX} (C : Cx X ZX RX1 cX1_owner 3 (some .int) 0 0) {b : Nat} (hb : isB b) (σ : St) (x1 : Int32) : Sm X ZX 3 (some .int) σ [(0, .ref (cq X b)), (1, .int x1)] 0 [] (m_Board_owner b σ x1) := by
  unfold m_Board_owner
  refine s_iconst C e_Board_owner_0 (v := (0 : Int32)) ic_0 ?_
  refine s_istore_n C e_Board_owner_1 (by decide) ?_
  exact s_cut (w_Board_owner_L2 C hb FU _ _ _) ⟨rfl, rfl, rfl, trivial⟩
theorem c_Board_owner {l : Launch} {D : va_G} {k : Nat → ClassId} {q : Nat → Nat} (hq : Inj ZX q) {b : Nat} (hb : isB b) (σ : St) (x1 : Int32) : Ct l ZX D k q yX1_owner cX1_owner 3 (some .int) 0 0 [.ref (q b), .int x1] σ (m_Board_owner b σ x1) :=
  Ct_of hq lcX (by decide) (Nat.le_of_ble_eq_true rfl) (fun _ _ _ _ _ _ _ _ _ _ C => w_Board_owner C hb σ x1)
set_option maxRecDepth 100000 in
theorem w_Reader_readHome {X : CX} (C : Cx X ZX RX4 cX4_readHome 3 (some .boolean) 2 46) {o : Nat} (ho : isB o) (σ : St)  : Sm X ZX 3 (some .boolean) σ [(0, .ref (cq X 13)), (1, .ref (cq X o))] 0 [] (m_Reader_readHome o σ) := by
  unfold m_Reader_readHome
  refine s_aload_n C e_Reader_readHome_0 rfl ?_
  refine s_get C fc_4 zx_lt_13 (zx_13 _ _ _) 4 (by decide) e_Reader_readHome_1 g_64 rfl ?_
  refine s_nm (fun y1 => ?_)
  refine s_istore_n C e_Reader_readHome_4 (by decide) ?_
  refine s_aload_n C e_Reader_readHome_5 rfl ?_
  refine s_iconst C e_Reader_readHome_6 (v := (0 : Int32)) ic_0 ?_
  refine s_aload_n C e_Reader_readHome_7 rfl ?_
  refine s_get C fc_1 (zb_lt ho) (zb ho _ _ _) 0 (by decide) e_Reader_readHome_8 g_86 rfl ?_
  refine s_iconst C e_Reader_readHome_11 (v := (1 : Int32)) ic_1 ?_
  refine s_isub C e_Reader_readHome_12 ?_
  refine s_callV_2 C (c_Reader_takesNumber C.inj _ _ _) wv_Reader_takesNumber g_82 ⟨by decide, by decide⟩ fc_4 rfl zx_lt_13 (zx_13 _ _ _) rfl (Nat.le_of_ble_eq_true rfl) e_Reader_readHome_13 (fun v2 σ3 => ?_)
  refine s_if_ne (tgt := 21) C e_Reader_readHome_16 rfl ?_ ?_
  · refine s_iconst C e_Reader_readHome_19 (v := (0 : Int32)) ic_0 ?_
    exact s_zret C e_Reader_readHome_20
  · refine s_aload_n C e_Reader_readHome_21 rfl ?_
    refine s_aload_n C e_Reader_readHome_22 rfl ?_
    refine s_get C fc_4 zx_lt_13 (zx_13 _ _ _) 5 (by decide) e_Reader_readHome_23 g_75 rfl ?_
    refine s_callV_1 C (c_Board_owner C.inj ho _ _) wv_Board_owner g_98 ⟨by decide, by decide⟩ fc_1 rfl (zb_lt ho) (zb ho _ _ _) rfl (Nat.le_of_ble_eq_true rfl) e_Reader_readHome_26 (fun v4 σ5 => ?_)
    refine s_ldc C e_Reader_readHome_29 g_94 ?_
    refine s_icmp_eq (tgt := 41) C e_Reader_readHome_31 rfl ?_ ?_
    · refine s_aload_n C e_Reader_readHome_41 rfl ?_
      refine s_get C fc_1 (zb_lt ho) (zb ho _ _ _) 7 (by decide) e_Reader_readHome_42 g_95 rfl ?_
      refine s_aload_n C e_Reader_readHome_45 rfl ?_
      refine s_get C fc_1 (zb_lt ho) (zb ho _ _ _) 1 (by decide) e_Reader_readHome_46 g_96 rfl ?_
      refine s_aload_n C e_Reader_readHome_49 rfl ?_
      refine s_get C fc_4 zx_lt_13 (zx_13 _ _ _) 5 (by decide) e_Reader_readHome_50 g_75 rfl ?_
      refine s_iast C (zb2_lt ho) (zb2 ho) e_Reader_readHome_53 (fun σ6 => ?_)
      refine s_aload_n C e_Reader_readHome_54 rfl ?_
      refine s_get C fc_1 (zb_lt ho) (zb ho _ _ _) 11 (by decide) e_Reader_readHome_55 g_97 rfl ?_
      refine s_aload_n C e_Reader_readHome_58 rfl ?_
      refine s_get C fc_1 (zb_lt ho) (zb ho _ _ _) 1 (by decide) e_Reader_readHome_59 g_96 rfl ?_
      refine s_aload_n C e_Reader_readHome_62 rfl ?_
      refine s_get C fc_4 zx_lt_13 (zx_13 _ _ _) 5 (by decide) e_Reader_readHome_63 g_75 rfl ?_
      refine s_iast C (zb6_lt ho) (zb6 ho) e_Reader_readHome_66 (fun σ7 => ?_)
      refine s_iconst C e_Reader_readHome_67 (v := (1 : Int32)) ic_1 ?_
      exact s_zret C e_Reader_readHome_68
    · refine s_aload_n C e_Reader_readHome_34 rfl ?_
      refine s_iload_n C e_Reader_readHome_35 rfl ?_
      refine s_iconst C e_Reader_readHome_36 (v := (2 : Int32)) ic_2 ?_
      refine s_callV_2 C (c_Reader_faultAt C.inj _ _ _) wv_Reader_faultAt g_67 ⟨by decide, by decide⟩ fc_4 rfl zx_lt_13 (zx_13 _ _ _) rfl (Nat.le_of_ble_eq_true rfl) e_Reader_readHome_37 (fun v8 σ9 => ?_)
      exact s_zret C e_Reader_readHome_40
theorem c_Reader_readHome {l : Launch} {D : va_G} {k : Nat → ClassId} {q : Nat → Nat} (hq : Inj ZX q) {o : Nat} (ho : isB o) (σ : St)  : Ct l ZX D k q yX4_readHome cX4_readHome 3 (some .boolean) 2 46 [.ref (q 13), .ref (q o)] σ (m_Reader_readHome o σ) :=
  Ct_of hq lcX (by decide) (Nat.le_of_ble_eq_true rfl) (fun _ _ _ _ _ _ _ _ _ _ C => w_Reader_readHome C ho σ)
set_option maxRecDepth 100000 in
theorem w_Reader_readPin_B27 {X : CX} (C : Cx X ZX RX4 cX4_readPin 4 (some .boolean) 3 68) {o : Nat} (ho : isB o)  (σ : St) (s0 : Int32) : Sm X ZX 4 (some .boolean) σ [(0, .ref (cq X 13)), (1, .ref (cq X o))] 27 [.int s0] (m_Reader_readPin_B27 o σ s0) := by
  unfold m_Reader_readPin_B27
  refine s_istore_n C e_Reader_readPin_27 (by decide) ?_
  refine s_iload_n C e_Reader_readPin_28 rfl ?_
  refine s_if_ne (tgt := 42) C e_Reader_readPin_29 rfl ?_ ?_
  · refine s_aload_n C e_Reader_readPin_32 rfl ?_
    refine s_aload_n C e_Reader_readPin_33 rfl ?_
    refine s_get C fc_4 zx_lt_13 (zx_13 _ _ _) 4 (by decide) e_Reader_readPin_34 g_64 rfl ?_
    refine s_iconst C e_Reader_readPin_37 (v := (1 : Int32)) ic_1 ?_
    refine s_callV_2 C (c_Reader_faultAt C.inj _ _ _) wv_Reader_faultAt g_67 ⟨by decide, by decide⟩ fc_4 rfl zx_lt_13 (zx_13 _ _ _) rfl (Nat.le_of_ble_eq_true rfl) e_Reader_readPin_38 (fun v21 σ22 => ?_)
    exact s_zret C e_Reader_readPin_41
  · refine s_aload_n C e_Reader_readPin_42 rfl ?_
    refine s_get C fc_1 (zb_lt ho) (zb ho _ _ _) 1 (by decide) e_Reader_readPin_43 g_96 rfl ?_
    refine s_bipush C e_Reader_readPin_46 (v := (7 : Int32)) bp_7 ?_
    refine s_icmp_lt (tgt := 61) C e_Reader_readPin_48 rfl ?_ ?_
    · refine s_aload_n C e_Reader_readPin_61 rfl ?_
      refine s_dup C e_Reader_readPin_62 rfl ?_
      refine s_get C fc_4 zx_lt_13 (zx_13 _ _ _) 4 (by decide) e_Reader_readPin_63 g_64 rfl ?_
      refine s_iconst C e_Reader_readPin_66 (v := (1 : Int32)) ic_1 ?_
      refine s_iadd C e_Reader_readPin_67 ?_
      refine s_put C fc_4 zx_lt_13 (zx_13 _ _ _) 4 (by decide) (zxp_13_4 _ _ _ _) (Nat.le_of_ble_eq_true rfl) e_Reader_readPin_68 g_64 rfl rfl (fun σ1 => ?_)
      refine s_aload_n C e_Reader_readPin_71 rfl ?_
      refine s_get C fc_1 (zb_lt ho) (zb ho _ _ _) 1 (by decide) e_Reader_readPin_72 g_96 rfl ?_
      refine s_nm (fun y2 => ?_)
      refine s_istore_n C e_Reader_readPin_75 (by decide) ?_
      refine s_aload_n C e_Reader_readPin_76 rfl ?_
      refine s_get C fc_1 (zb_lt ho) (zb ho _ _ _) 10 (by decide) e_Reader_readPin_77 g_106 rfl ?_
      refine s_iload_n C e_Reader_readPin_80 rfl ?_
      refine s_iload_n C e_Reader_readPin_81 rfl ?_
      refine s_iast C (zb5_lt ho) (zb5 ho) e_Reader_readPin_82 (fun σ3 => ?_)
      refine s_aload_n C e_Reader_readPin_83 rfl ?_
      refine s_aload_n C e_Reader_readPin_84 rfl ?_
      refine s_callV_1 C (c_Reader_readHome C.inj ho _) wv_Reader_readHome g_109 ⟨by decide, by decide⟩ fc_4 rfl zx_lt_13 (zx_13 _ _ _) rfl (Nat.le_of_ble_eq_true rfl) e_Reader_readPin_85 (fun v4 σ5 => ?_)
      refine s_if_eq (tgt := 110) C e_Reader_readPin_88 rfl ?_ ?_
      · refine s_iconst C e_Reader_readPin_110 (v := (0 : Int32)) ic_0 ?_
        exact s_zret C e_Reader_readPin_111
      · refine s_aload_n C e_Reader_readPin_91 rfl ?_
        refine s_bipush C e_Reader_readPin_92 (v := (44 : Int32)) bp_44 ?_
        refine s_callV_1 C (c_Reader_takes C.inj _ _) wv_Reader_takes g_78 ⟨by decide, by decide⟩ fc_4 rfl zx_lt_13 (zx_13 _ _ _) rfl (Nat.le_of_ble_eq_true rfl) e_Reader_readPin_94 (fun v6 σ7 => ?_)
        refine s_if_eq (tgt := 110) C e_Reader_readPin_97 rfl ?_ ?_
        · refine s_iconst C e_Reader_readPin_110 (v := (0 : Int32)) ic_0 ?_
          exact s_zret C e_Reader_readPin_111
        · refine s_aload_n C e_Reader_readPin_100 rfl ?_
          refine s_iconst C e_Reader_readPin_101 (v := (1 : Int32)) ic_1 ?_
          refine s_bipush C e_Reader_readPin_102 (v := (9 : Int32)) bp_9 ?_
          refine s_callV_2 C (c_Reader_takesNumber C.inj _ _ _) wv_Reader_takesNumber g_82 ⟨by decide, by decide⟩ fc_4 rfl zx_lt_13 (zx_13 _ _ _) rfl (Nat.le_of_ble_eq_true rfl) e_Reader_readPin_104 (fun v8 σ9 => ?_)
          refine s_if_ne (tgt := 112) C e_Reader_readPin_107 rfl ?_ ?_
          · refine s_iconst C e_Reader_readPin_110 (v := (0 : Int32)) ic_0 ?_
            exact s_zret C e_Reader_readPin_111
          · refine s_aload_n C e_Reader_readPin_112 rfl ?_
            refine s_get C fc_1 (zb_lt ho) (zb ho _ _ _) 8 (by decide) e_Reader_readPin_113 g_107 rfl ?_
            refine s_iload_n C e_Reader_readPin_116 rfl ?_
            refine s_aload_n C e_Reader_readPin_117 rfl ?_
            refine s_get C fc_4 zx_lt_13 (zx_13 _ _ _) 5 (by decide) e_Reader_readPin_118 g_75 rfl ?_
            refine s_iast C (zb3_lt ho) (zb3 ho) e_Reader_readPin_121 (fun σ10 => ?_)
            refine s_aload_n C e_Reader_readPin_122 rfl ?_
            refine s_bipush C e_Reader_readPin_123 (v := (44 : Int32)) bp_44 ?_
            refine s_callV_1 C (c_Reader_takes C.inj _ _) wv_Reader_takes g_78 ⟨by decide, by decide⟩ fc_4 rfl zx_lt_13 (zx_13 _ _ _) rfl (Nat.le_of_ble_eq_true rfl) e_Reader_readPin_125 (fun v11 σ12 => ?_)
            refine s_if_eq (tgt := 140) C e_Reader_readPin_128 rfl ?_ ?_
            · refine s_iconst C e_Reader_readPin_140 (v := (0 : Int32)) ic_0 ?_
              exact s_zret C e_Reader_readPin_141
            · refine s_aload_n C e_Reader_readPin_131 rfl ?_
              refine s_iconst C e_Reader_readPin_132 (v := (0 : Int32)) ic_0 ?_
              refine s_iconst C e_Reader_readPin_133 (v := (3 : Int32)) ic_3 ?_
              refine s_callV_2 C (c_Reader_takesNumber C.inj _ _ _) wv_Reader_takesNumber g_82 ⟨by decide, by decide⟩ fc_4 rfl zx_lt_13 (zx_13 _ _ _) rfl (Nat.le_of_ble_eq_true rfl) e_Reader_readPin_134 (fun v13 σ14 => ?_)
              refine s_if_ne (tgt := 142) C e_Reader_readPin_137 rfl ?_ ?_
              · refine s_iconst C e_Reader_readPin_140 (v := (0 : Int32)) ic_0 ?_
                exact s_zret C e_Reader_readPin_141
              · refine s_aload_n C e_Reader_readPin_142 rfl ?_
                refine s_get C fc_1 (zb_lt ho) (zb ho _ _ _) 9 (by decide) e_Reader_readPin_143 g_108 rfl ?_
                refine s_iload_n C e_Reader_readPin_146 rfl ?_
                refine s_aload_n C e_Reader_readPin_147 rfl ?_
                refine s_get C fc_4 zx_lt_13 (zx_13 _ _ _) 5 (by decide) e_Reader_readPin_148 g_75 rfl ?_
                refine s_iast C (zb4_lt ho) (zb4 ho) e_Reader_readPin_151 (fun σ15 => ?_)
                refine s_aload_n C e_Reader_readPin_152 rfl ?_
                refine s_dup C e_Reader_readPin_153 rfl ?_
                refine s_get C fc_1 (zb_lt ho) (zb ho _ _ _) 1 (by decide) e_Reader_readPin_154 g_96 rfl ?_
                refine s_iconst C e_Reader_readPin_157 (v := (1 : Int32)) ic_1 ?_
                refine s_iadd C e_Reader_readPin_158 ?_
                refine s_put C fc_1 (zb_lt ho) (zb ho _ _ _) 1 (by decide) (zbp_1 ho _ _ _ _) (Nat.le_of_ble_eq_true rfl) e_Reader_readPin_159 g_96 rfl rfl (fun σ16 => ?_)
                refine s_aload_n C e_Reader_readPin_162 rfl ?_
                refine s_bipush C e_Reader_readPin_163 (v := (59 : Int32)) bp_59 ?_
                refine s_callV_1 C (c_Reader_takes C.inj _ _) wv_Reader_takes g_78 ⟨by decide, by decide⟩ fc_4 rfl zx_lt_13 (zx_13 _ _ _) rfl (Nat.le_of_ble_eq_true rfl) e_Reader_readPin_165 (fun v17 σ18 => ?_)
                exact s_zret C e_Reader_readPin_168
    · refine s_aload_n C e_Reader_readPin_51 rfl ?_
      refine s_aload_n C e_Reader_readPin_52 rfl ?_
      refine s_get C fc_4 zx_lt_13 (zx_13 _ _ _) 4 (by decide) e_Reader_readPin_53 g_64 rfl ?_
      refine s_iconst C e_Reader_readPin_56 (v := (3 : Int32)) ic_3 ?_
      refine s_callV_2 C (c_Reader_faultAt C.inj _ _ _) wv_Reader_faultAt g_67 ⟨by decide, by decide⟩ fc_4 rfl zx_lt_13 (zx_13 _ _ _) rfl (Nat.le_of_ble_eq_true rfl) e_Reader_readPin_57 (fun v19 σ20 => ?_)
      exact s_zret C e_Reader_readPin_60
set_option maxRecDepth 100000 in
theorem w_Reader_readPin {X : CX} (C : Cx X ZX RX4 cX4_readPin 4 (some .boolean) 3 68) {o : Nat} (ho : isB o) (σ : St)  : Sm X ZX 4 (some .boolean) σ [(0, .ref (cq X 13)), (1, .ref (cq X o))] 0 [] (m_Reader_readPin o σ) := by
  unfold m_Reader_readPin
  refine s_aload_n C e_Reader_readPin_0 rfl ?_
  refine s_get C fc_4 zx_lt_13 (zx_13 _ _ _) 4 (by decide) e_Reader_readPin_1 g_64 rfl ?_
  refine s_aload_n C e_Reader_readPin_4 rfl ?_
  refine s_get C fc_4 zx_lt_13 (zx_13 _ _ _) 1 (by decide) e_Reader_readPin_5 g_48 rfl ?_
  refine s_icmp_ge (tgt := 26) C e_Reader_readPin_8 rfl ?_ ?_
  · refine s_iconst C e_Reader_readPin_26 (v := (0 : Int32)) ic_0 ?_
    exact s_cut (w_Reader_readPin_B27 C ho _ _) ⟨rfl, rfl, trivial⟩
  · refine s_aload_n C e_Reader_readPin_11 rfl ?_
    refine s_get C fc_4 zx_lt_13 (zx_13 _ _ _) 0 (by decide) e_Reader_readPin_12 g_49 rfl ?_
    refine s_aload_n C e_Reader_readPin_15 rfl ?_
    refine s_get C fc_4 zx_lt_13 (zx_13 _ _ _) 4 (by decide) e_Reader_readPin_16 g_64 rfl ?_
    refine s_iald C zx_lt_14 zx_14 e_Reader_readPin_19 ?_
    refine s_callS_1 C (c_Reader_kindOf C.inj _ _) wv_Reader_kindOf g_103 ⟨by decide, by decide⟩ rfl (Nat.le_of_ble_eq_true rfl) e_Reader_readPin_20 (fun v1 σ2 => ?_)
    refine s_goto (tgt := 27) C e_Reader_readPin_23 rfl ?_
    exact s_cut (w_Reader_readPin_B27 C ho _ _) ⟨rfl, rfl, trivial⟩
theorem c_Reader_readPin {l : Launch} {D : va_G} {k : Nat → ClassId} {q : Nat → Nat} (hq : Inj ZX q) {o : Nat} (ho : isB o) (σ : St)  : Ct l ZX D k q yX4_readPin cX4_readPin 4 (some .boolean) 3 68 [.ref (q 13), .ref (q o)] σ (m_Reader_readPin o σ) :=
  Ct_of hq lcX (by decide) (Nat.le_of_ble_eq_true rfl) (fun _ _ _ _ _ _ _ _ _ _ C => w_Reader_readPin C ho σ)
set_option maxRecDepth 100000 in
theorem w_Reader_readPins_B2 {X : CX} (C : Cx X ZX RX4 cX4_readPins 3 (some .boolean) 4 91) {o : Nat} (ho : isB o) (r2 : St → Int32 → Rt) (hr2 : ∀ (σ : St) (x2 : Int32), Sm X ZX 3 (some .boolean) σ [(0, .ref (cq X 13)), (1, .ref (cq X o)), (2, .int x2)] 2 [] (r2 σ x2)) (σ : St) (x2 : Int32) : Sm X ZX 3 (some .boolean) σ [(0, .ref (cq X 13)), (1, .ref (cq X o)), (2, .int x2)] 2 [] (m_Reader_readPins_B2 o r2 σ x2) := by
  unfold m_Reader_readPins_B2
  refine s_iload_n C e_Reader_readPins_2 rfl ?_
  refine s_bipush C e_Reader_readPins_3 (v := (7 : Int32)) bp_7 ?_
  refine s_icmp_gt (tgt := 35) C e_Reader_readPins_5 rfl ?_ ?_
  · refine s_iconst C e_Reader_readPins_35 (v := (1 : Int32)) ic_1 ?_
    exact s_zret C e_Reader_readPins_36
  · refine s_aload_n C e_Reader_readPins_8 rfl ?_
    refine s_get C fc_4 zx_lt_13 (zx_13 _ _ _) 4 (by decide) e_Reader_readPins_9 g_64 rfl ?_
    refine s_aload_n C e_Reader_readPins_12 rfl ?_
    refine s_get C fc_4 zx_lt_13 (zx_13 _ _ _) 1 (by decide) e_Reader_readPins_13 g_48 rfl ?_
    refine s_icmp_ge (tgt := 35) C e_Reader_readPins_16 rfl ?_ ?_
    · refine s_iconst C e_Reader_readPins_35 (v := (1 : Int32)) ic_1 ?_
      exact s_zret C e_Reader_readPins_36
    · refine s_aload_n C e_Reader_readPins_19 rfl ?_
      refine s_aload_n C e_Reader_readPins_20 rfl ?_
      refine s_callV_1 C (c_Reader_readPin C.inj ho _) wv_Reader_readPin g_113 ⟨by decide, by decide⟩ fc_4 rfl zx_lt_13 (zx_13 _ _ _) rfl (Nat.le_of_ble_eq_true rfl) e_Reader_readPins_21 (fun v1 σ2 => ?_)
      refine s_if_ne (tgt := 29) C e_Reader_readPins_24 rfl ?_ ?_
      · refine s_iconst C e_Reader_readPins_27 (v := (0 : Int32)) ic_0 ?_
        exact s_zret C e_Reader_readPins_28
      · refine s_iinc C e_Reader_readPins_29 (v := (1 : Int32)) rfl (by decide) ii_1 ?_
        refine s_goto (tgt := 2) C e_Reader_readPins_32 rfl ?_
        exact s_cut (hr2 _ _) ⟨rfl, rfl, rfl, trivial⟩
theorem w_Reader_readPins_L2 {X : CX} (C : Cx X ZX RX4 cX4_readPins 3 (some .boolean) 4 91) {o : Nat} (ho : isB o)  : ∀ (n : Nat) (σ : St) (x2 : Int32), Sm X ZX 3 (some .boolean) σ [(0, .ref (cq X 13)), (1, .ref (cq X o)), (2, .int x2)] 2 [] (m_Reader_readPins_L2 o n σ x2)
  | 0, _, _ => s_none
  | n + 1, σ, x2 => w_Reader_readPins_B2 C ho (m_Reader_readPins_L2 o n) (w_Reader_readPins_L2 C ho n) σ x2
set_option maxRecDepth 100000 in
theorem w_Reader_readPins {X : CX} (C : Cx X ZX RX4 cX4_readPins 3 (some .boolean) 4 91) {o : Nat} (ho : isB o) (σ : St)  : Sm X ZX 3 (some .boolean) σ [(0, .ref (cq X 13)), (1, .ref (cq X o))] 0 [] (m_Reader_readPins o σ) := by
  unfold m_Reader_readPins
  refine s_iconst C e_Reader_readPins_0 (v := (0 : Int32)) ic_0 ?_
  refine s_istore_n C e_Reader_readPins_1 (by decide) ?_
  exact s_cut (w_Reader_readPins_L2 C ho FU _ _) ⟨rfl, rfl, rfl, trivial⟩
theorem c_Reader_readPins {l : Launch} {D : va_G} {k : Nat → ClassId} {q : Nat → Nat} (hq : Inj ZX q) {o : Nat} (ho : isB o) (σ : St)  : Ct l ZX D k q yX4_readPins cX4_readPins 3 (some .boolean) 4 91 [.ref (q 13), .ref (q o)] σ (m_Reader_readPins o σ) :=
  Ct_of hq lcX (by decide) (Nat.le_of_ble_eq_true rfl) (fun _ _ _ _ _ _ _ _ _ _ C => w_Reader_readPins C ho σ)
set_option maxRecDepth 100000 in
theorem w_Reader_readInto {X : CX} (C : Cx X ZX RX4 cX4_readInto 2 (some .boolean) 5 113) {o : Nat} (ho : isB o) (σ : St)  : Sm X ZX 2 (some .boolean) σ [(0, .ref (cq X 13)), (1, .ref (cq X o))] 0 [] (m_Reader_readInto o σ) := by
  unfold m_Reader_readInto
  refine s_aload_n C e_Reader_readInto_0 rfl ?_
  refine s_iconst C e_Reader_readInto_1 (v := (0 : Int32)) ic_0 ?_
  refine s_put C fc_4 zx_lt_13 (zx_13 _ _ _) 4 (by decide) (zxp_13_4 _ _ _ _) (Nat.le_of_ble_eq_true rfl) e_Reader_readInto_2 g_64 rfl rfl (fun σ1 => ?_)
  refine s_aload_n C e_Reader_readInto_5 rfl ?_
  refine s_callVv_0 C (c_Board_makeEmpty C.inj ho _) wv_Board_makeEmpty g_129 ⟨by decide, by decide⟩ fc_1 rfl (zb_lt ho) (zb ho _ _ _) rfl (Nat.le_of_ble_eq_true rfl) e_Reader_readInto_6 (fun v2 σ3 => ?_)
  refine s_aload_n C e_Reader_readInto_9 rfl ?_
  refine s_aload_n C e_Reader_readInto_10 rfl ?_
  refine s_callV_1 C (c_Reader_readLaw C.inj ho _) wv_Reader_readLaw g_125 ⟨by decide, by decide⟩ fc_4 rfl zx_lt_13 (zx_13 _ _ _) rfl (Nat.le_of_ble_eq_true rfl) e_Reader_readInto_11 (fun v4 σ5 => ?_)
  refine s_if_eq (tgt := 37) C e_Reader_readInto_14 rfl ?_ ?_
  · refine s_iconst C e_Reader_readInto_37 (v := (0 : Int32)) ic_0 ?_
    exact s_zret C e_Reader_readInto_38
  · refine s_aload_n C e_Reader_readInto_17 rfl ?_
    refine s_aload_n C e_Reader_readInto_18 rfl ?_
    refine s_callV_1 C (c_Reader_readCells C.inj ho _) wv_Reader_readCells g_121 ⟨by decide, by decide⟩ fc_4 rfl zx_lt_13 (zx_13 _ _ _) rfl (Nat.le_of_ble_eq_true rfl) e_Reader_readInto_19 (fun v6 σ7 => ?_)
    refine s_if_eq (tgt := 37) C e_Reader_readInto_22 rfl ?_ ?_
    · refine s_iconst C e_Reader_readInto_37 (v := (0 : Int32)) ic_0 ?_
      exact s_zret C e_Reader_readInto_38
    · refine s_aload_n C e_Reader_readInto_25 rfl ?_
      refine s_aload_n C e_Reader_readInto_26 rfl ?_
      refine s_callV_1 C (c_Reader_readPins C.inj ho _) wv_Reader_readPins g_117 ⟨by decide, by decide⟩ fc_4 rfl zx_lt_13 (zx_13 _ _ _) rfl (Nat.le_of_ble_eq_true rfl) e_Reader_readInto_27 (fun v8 σ9 => ?_)
      refine s_if_eq (tgt := 37) C e_Reader_readInto_30 rfl ?_ ?_
      · refine s_iconst C e_Reader_readInto_37 (v := (0 : Int32)) ic_0 ?_
        exact s_zret C e_Reader_readInto_38
      · refine s_iconst C e_Reader_readInto_33 (v := (1 : Int32)) ic_1 ?_
        refine s_goto (tgt := 38) C e_Reader_readInto_34 rfl ?_
        exact s_zret C e_Reader_readInto_38
theorem c_Reader_readInto {l : Launch} {D : va_G} {k : Nat → ClassId} {q : Nat → Nat} (hq : Inj ZX q) {o : Nat} (ho : isB o) (σ : St)  : Ct l ZX D k q yX4_readInto cX4_readInto 2 (some .boolean) 5 113 [.ref (q 13), .ref (q o)] σ (m_Reader_readInto o σ) :=
  Ct_of hq lcX (by decide) (Nat.le_of_ble_eq_true rfl) (fun _ _ _ _ _ _ _ _ _ _ C => w_Reader_readInto C ho σ)
set_option maxRecDepth 100000 in
theorem w_Reader_clear {X : CX} (C : Cx X ZX RX4 cX4_clear 1 none 0 0)  (σ : St)  : Sm X ZX 1 none σ [(0, .ref (cq X 13))] 0 [] (m_Reader_clear σ) := by
  unfold m_Reader_clear
  refine s_aload_n C e_Reader_clear_0 rfl ?_
  refine s_iconst C e_Reader_clear_1 (v := (0 : Int32)) ic_0 ?_
  refine s_put C fc_4 zx_lt_13 (zx_13 _ _ _) 1 (by decide) (zxp_13_1 _ _ _ _) (Nat.le_of_ble_eq_true rfl) e_Reader_clear_2 g_48 rfl rfl (fun σ1 => ?_)
  exact s_vret C e_Reader_clear_5
theorem c_Reader_clear {l : Launch} {D : va_G} {k : Nat → ClassId} {q : Nat → Nat} (hq : Inj ZX q)  (σ : St)  : Ct l ZX D k q yX4_clear cX4_clear 1 none 0 0 [.ref (q 13)] σ (m_Reader_clear σ) :=
  Ct_of hq lcX (by decide) (Nat.le_of_ble_eq_true rfl) (fun _ _ _ _ _ _ _ _ _ _ C => w_Reader_clear C σ)
set_option maxRecDepth 100000 in
theorem w_Board_takeFrom {X : CX} (C : Cx X ZX RX1 cX1_takeFrom 2 none 1 26) {b : Nat} (hb : isB b) {o : Nat} (ho : isB o) (σ : St)  : Sm X ZX 2 none σ [(0, .ref (cq X b)), (1, .ref (cq X o))] 0 [] (m_Board_takeFrom b o σ) := by
  unfold m_Board_takeFrom
  refine s_aload_n C e_Board_takeFrom_0 rfl ?_
  refine s_aload_n C e_Board_takeFrom_1 rfl ?_
  refine s_get C fc_1 (zb_lt ho) (zb ho _ _ _) 0 (by decide) e_Board_takeFrom_2 g_58 rfl ?_
  refine s_put C fc_1 (zb_lt hb) (zb hb _ _ _) 0 (by decide) (zbp_0 hb _ _ _ _) (Nat.le_of_ble_eq_true rfl) e_Board_takeFrom_5 g_58 rfl rfl (fun σ1 => ?_)
  refine s_aload_n C e_Board_takeFrom_8 rfl ?_
  refine s_aload_n C e_Board_takeFrom_9 rfl ?_
  refine s_get C fc_1 (zb_lt ho) (zb ho _ _ _) 1 (by decide) e_Board_takeFrom_10 g_59 rfl ?_
  refine s_put C fc_1 (zb_lt hb) (zb hb _ _ _) 1 (by decide) (zbp_1 hb _ _ _ _) (Nat.le_of_ble_eq_true rfl) e_Board_takeFrom_13 g_59 rfl rfl (fun σ2 => ?_)
  refine s_aload_n C e_Board_takeFrom_16 rfl ?_
  refine s_aload_n C e_Board_takeFrom_17 rfl ?_
  refine s_get C fc_1 (zb_lt ho) (zb ho _ _ _) 2 (by decide) e_Board_takeFrom_18 g_60 rfl ?_
  refine s_put C fc_1 (zb_lt hb) (zb hb _ _ _) 2 (by decide) (zbp_2 hb _ _ _ _) (Nat.le_of_ble_eq_true rfl) e_Board_takeFrom_21 g_60 rfl rfl (fun σ3 => ?_)
  refine s_aload_n C e_Board_takeFrom_24 rfl ?_
  refine s_aload_n C e_Board_takeFrom_25 rfl ?_
  refine s_get C fc_1 (zb_lt ho) (zb ho _ _ _) 3 (by decide) e_Board_takeFrom_26 g_61 rfl ?_
  refine s_put C fc_1 (zb_lt hb) (zb hb _ _ _) 3 (by decide) (zbp_3 hb _ _ _ _) (Nat.le_of_ble_eq_true rfl) e_Board_takeFrom_29 g_61 rfl rfl (fun σ4 => ?_)
  refine s_aload_n C e_Board_takeFrom_32 rfl ?_
  refine s_aload_n C e_Board_takeFrom_33 rfl ?_
  refine s_get C fc_1 (zb_lt ho) (zb ho _ _ _) 4 (by decide) e_Board_takeFrom_34 g_62 rfl ?_
  refine s_put C fc_1 (zb_lt hb) (zb hb _ _ _) 4 (by decide) (zbp_4 hb _ _ _ _) (Nat.le_of_ble_eq_true rfl) e_Board_takeFrom_37 g_62 rfl rfl (fun σ5 => ?_)
  refine s_aload_n C e_Board_takeFrom_40 rfl ?_
  refine s_aload_n C e_Board_takeFrom_41 rfl ?_
  refine s_get C fc_1 (zb_lt ho) (zb ho _ _ _) 5 (by decide) e_Board_takeFrom_42 g_63 rfl ?_
  refine s_putZ C fc_1 (zb_lt hb) (zb hb _ _ _) 5 (by decide) (zbp_5 hb _ _ _ _) (Nat.le_of_ble_eq_true rfl) e_Board_takeFrom_45 g_63 rfl rfl (fun σ6 => ?_)
  refine s_aload_n C e_Board_takeFrom_48 rfl ?_
  refine s_get C fc_1 (zb_lt ho) (zb ho _ _ _) 6 (by decide) e_Board_takeFrom_49 g_133 rfl ?_
  refine s_iconst C e_Board_takeFrom_52 (v := (0 : Int32)) ic_0 ?_
  refine s_aload_n C e_Board_takeFrom_53 rfl ?_
  refine s_get C fc_1 (zb_lt hb) (zb hb _ _ _) 6 (by decide) e_Board_takeFrom_54 g_133 rfl ?_
  refine s_iconst C e_Board_takeFrom_57 (v := (0 : Int32)) ic_0 ?_
  refine s_bipush C e_Board_takeFrom_58 (v := (16 : Int32)) bp_16 ?_
  refine s_copy C (zb1_lt ho) (zb1_lt hb) (zb1 ho) (zb1 hb) g_134 ws_copy ⟨Nat.le_of_ble_eq_true rfl, Nat.le_of_ble_eq_true rfl⟩ e_Board_takeFrom_60 (fun σ7 => ?_)
  refine s_aload_n C e_Board_takeFrom_63 rfl ?_
  refine s_get C fc_1 (zb_lt ho) (zb ho _ _ _) 7 (by decide) e_Board_takeFrom_64 g_93 rfl ?_
  refine s_iconst C e_Board_takeFrom_67 (v := (0 : Int32)) ic_0 ?_
  refine s_aload_n C e_Board_takeFrom_68 rfl ?_
  refine s_get C fc_1 (zb_lt hb) (zb hb _ _ _) 7 (by decide) e_Board_takeFrom_69 g_93 rfl ?_
  refine s_iconst C e_Board_takeFrom_72 (v := (0 : Int32)) ic_0 ?_
  refine s_bipush C e_Board_takeFrom_73 (v := (7 : Int32)) bp_7 ?_
  refine s_copy C (zb2_lt ho) (zb2_lt hb) (zb2 ho) (zb2 hb) g_134 ws_copy ⟨Nat.le_of_ble_eq_true rfl, Nat.le_of_ble_eq_true rfl⟩ e_Board_takeFrom_75 (fun σ8 => ?_)
  refine s_aload_n C e_Board_takeFrom_78 rfl ?_
  refine s_get C fc_1 (zb_lt ho) (zb ho _ _ _) 8 (by decide) e_Board_takeFrom_79 g_135 rfl ?_
  refine s_iconst C e_Board_takeFrom_82 (v := (0 : Int32)) ic_0 ?_
  refine s_aload_n C e_Board_takeFrom_83 rfl ?_
  refine s_get C fc_1 (zb_lt hb) (zb hb _ _ _) 8 (by decide) e_Board_takeFrom_84 g_135 rfl ?_
  refine s_iconst C e_Board_takeFrom_87 (v := (0 : Int32)) ic_0 ?_
  refine s_bipush C e_Board_takeFrom_88 (v := (7 : Int32)) bp_7 ?_
  refine s_copy C (zb3_lt ho) (zb3_lt hb) (zb3 ho) (zb3 hb) g_134 ws_copy ⟨Nat.le_of_ble_eq_true rfl, Nat.le_of_ble_eq_true rfl⟩ e_Board_takeFrom_90 (fun σ9 => ?_)
  refine s_aload_n C e_Board_takeFrom_93 rfl ?_
  refine s_get C fc_1 (zb_lt ho) (zb ho _ _ _) 9 (by decide) e_Board_takeFrom_94 g_136 rfl ?_
  refine s_iconst C e_Board_takeFrom_97 (v := (0 : Int32)) ic_0 ?_
  refine s_aload_n C e_Board_takeFrom_98 rfl ?_
  refine s_get C fc_1 (zb_lt hb) (zb hb _ _ _) 9 (by decide) e_Board_takeFrom_99 g_136 rfl ?_
  refine s_iconst C e_Board_takeFrom_102 (v := (0 : Int32)) ic_0 ?_
  refine s_bipush C e_Board_takeFrom_103 (v := (7 : Int32)) bp_7 ?_
  refine s_copy C (zb4_lt ho) (zb4_lt hb) (zb4 ho) (zb4 hb) g_134 ws_copy ⟨Nat.le_of_ble_eq_true rfl, Nat.le_of_ble_eq_true rfl⟩ e_Board_takeFrom_105 (fun σ10 => ?_)
  refine s_aload_n C e_Board_takeFrom_108 rfl ?_
  refine s_get C fc_1 (zb_lt ho) (zb ho _ _ _) 10 (by decide) e_Board_takeFrom_109 g_137 rfl ?_
  refine s_iconst C e_Board_takeFrom_112 (v := (0 : Int32)) ic_0 ?_
  refine s_aload_n C e_Board_takeFrom_113 rfl ?_
  refine s_get C fc_1 (zb_lt hb) (zb hb _ _ _) 10 (by decide) e_Board_takeFrom_114 g_137 rfl ?_
  refine s_iconst C e_Board_takeFrom_117 (v := (0 : Int32)) ic_0 ?_
  refine s_bipush C e_Board_takeFrom_118 (v := (7 : Int32)) bp_7 ?_
  refine s_copy C (zb5_lt ho) (zb5_lt hb) (zb5 ho) (zb5 hb) g_134 ws_copy ⟨Nat.le_of_ble_eq_true rfl, Nat.le_of_ble_eq_true rfl⟩ e_Board_takeFrom_120 (fun σ11 => ?_)
  refine s_aload_n C e_Board_takeFrom_123 rfl ?_
  refine s_get C fc_1 (zb_lt ho) (zb ho _ _ _) 11 (by decide) e_Board_takeFrom_124 g_138 rfl ?_
  refine s_iconst C e_Board_takeFrom_127 (v := (0 : Int32)) ic_0 ?_
  refine s_aload_n C e_Board_takeFrom_128 rfl ?_
  refine s_get C fc_1 (zb_lt hb) (zb hb _ _ _) 11 (by decide) e_Board_takeFrom_129 g_138 rfl ?_
  refine s_iconst C e_Board_takeFrom_132 (v := (0 : Int32)) ic_0 ?_
  refine s_bipush C e_Board_takeFrom_133 (v := (7 : Int32)) bp_7 ?_
  refine s_copy C (zb6_lt ho) (zb6_lt hb) (zb6 ho) (zb6 hb) g_134 ws_copy ⟨Nat.le_of_ble_eq_true rfl, Nat.le_of_ble_eq_true rfl⟩ e_Board_takeFrom_135 (fun σ12 => ?_)
  exact s_vret C e_Board_takeFrom_138
theorem c_Board_takeFrom {l : Launch} {D : va_G} {k : Nat → ClassId} {q : Nat → Nat} (hq : Inj ZX q) {b : Nat} (hb : isB b) {o : Nat} (ho : isB o) (σ : St)  : Ct l ZX D k q yX1_takeFrom cX1_takeFrom 2 none 1 26 [.ref (q b), .ref (q o)] σ (m_Board_takeFrom b o σ) :=
  Ct_of hq lcX (by decide) (Nat.le_of_ble_eq_true rfl) (fun _ _ _ _ _ _ _ _ _ _ C => w_Board_takeFrom C hb ho σ)
set_option maxRecDepth 100000 in
theorem w_Past_forget {X : CX} (C : Cx X ZX RX3 cX3_forget 1 none 0 0)  (σ : St)  : Sm X ZX 1 none σ [(0, .ref (cq X 16))] 0 [] (m_Past_forget σ) := by
  unfold m_Past_forget
  refine s_aload_n C e_Past_forget_0 rfl ?_
  refine s_iconst C e_Past_forget_1 (v := (0 : Int32)) ic_0 ?_
  refine s_put C fc_3 zx_lt_16 (zx_16 _ _ _) 0 (by decide) (zxp_16_0 _ _ _ _) (Nat.le_of_ble_eq_true rfl) e_Past_forget_2 g_139 rfl rfl (fun σ1 => ?_)
  exact s_vret C e_Past_forget_5
theorem c_Past_forget {l : Launch} {D : va_G} {k : Nat → ClassId} {q : Nat → Nat} (hq : Inj ZX q)  (σ : St)  : Ct l ZX D k q yX3_forget cX3_forget 1 none 0 0 [.ref (q 16)] σ (m_Past_forget σ) :=
  Ct_of hq lcX (by decide) (Nat.le_of_ble_eq_true rfl) (fun _ _ _ _ _ _ _ _ _ _ C => w_Past_forget C σ)
set_option maxRecDepth 100000 in
theorem w_P_map {X : CX} (C : Cx X ZX RX6 cX6_map 2 (some .int) 6 134)  (σ : St)  : Sm X ZX 2 (some .int) σ [(0, .ref (cq X 0))] 0 [] (m_P_map σ) := by
  unfold m_P_map
  refine s_aload_n C e_P_map_0 rfl ?_
  refine s_get C fc_6 zx_lt_0 (zx_0 _ _ _) 1 (by decide) e_P_map_1 g_50 rfl ?_
  refine s_aload_n C e_P_map_4 rfl ?_
  refine s_get C fc_6 zx_lt_0 (zx_0 _ _ _) 3 (by decide) e_P_map_5 g_140 rfl ?_
  refine s_get C fc_2 zx_lt_15 (zx_15 _ _ _) 0 (by decide) e_P_map_8 g_141 rfl ?_
  refine s_callV_1 C (c_Reader_readInto C.inj hb28 _) wv_Reader_readInto g_160 ⟨by decide, by decide⟩ fc_4 rfl zx_lt_13 (zx_13 _ _ _) rfl (Nat.le_of_ble_eq_true rfl) e_P_map_11 (fun v1 σ2 => ?_)
  refine s_istore_n C e_P_map_14 (by decide) ?_
  refine s_aload_n C e_P_map_15 rfl ?_
  refine s_get C fc_6 zx_lt_0 (zx_0 _ _ _) 1 (by decide) e_P_map_16 g_50 rfl ?_
  refine s_callVv_0 C (c_Reader_clear C.inj _) wv_Reader_clear g_156 ⟨by decide, by decide⟩ fc_4 rfl zx_lt_13 (zx_13 _ _ _) rfl (Nat.le_of_ble_eq_true rfl) e_P_map_19 (fun v3 σ4 => ?_)
  refine s_iload_n C e_P_map_22 rfl ?_
  refine s_if_ne (tgt := 37) C e_P_map_23 rfl ?_ ?_
  · refine s_ldc C e_P_map_26 g_154 ?_
    refine s_aload_n C e_P_map_28 rfl ?_
    refine s_get C fc_6 zx_lt_0 (zx_0 _ _ _) 1 (by decide) e_P_map_29 g_50 rfl ?_
    refine s_get C fc_4 zx_lt_13 (zx_13 _ _ _) 3 (by decide) e_P_map_32 g_155 rfl ?_
    refine s_isub C e_P_map_35 ?_
    exact s_iret C e_P_map_36
  · refine s_aload_n C e_P_map_37 rfl ?_
    refine s_get C fc_6 zx_lt_0 (zx_0 _ _ _) 2 (by decide) e_P_map_38 g_142 rfl ?_
    refine s_aload_n C e_P_map_41 rfl ?_
    refine s_get C fc_6 zx_lt_0 (zx_0 _ _ _) 3 (by decide) e_P_map_42 g_140 rfl ?_
    refine s_get C fc_2 zx_lt_15 (zx_15 _ _ _) 0 (by decide) e_P_map_45 g_141 rfl ?_
    refine s_callVv_1 C (c_Board_takeFrom C.inj hb21 hb28 _) wv_Board_takeFrom g_150 ⟨by decide, by decide⟩ fc_1 rfl (zb_lt hb21) (zb hb21 _ _ _) rfl (Nat.le_of_ble_eq_true rfl) e_P_map_48 (fun v5 σ6 => ?_)
    refine s_aload_n C e_P_map_51 rfl ?_
    refine s_get C fc_6 zx_lt_0 (zx_0 _ _ _) 4 (by decide) e_P_map_52 g_143 rfl ?_
    refine s_callVv_0 C (c_Past_forget C.inj _) wv_Past_forget g_145 ⟨by decide, by decide⟩ fc_3 rfl zx_lt_16 (zx_16 _ _ _) rfl (Nat.le_of_ble_eq_true rfl) e_P_map_55 (fun v7 σ8 => ?_)
    refine s_aload_n C e_P_map_58 rfl ?_
    refine s_get C fc_6 zx_lt_0 (zx_0 _ _ _) 2 (by decide) e_P_map_59 g_142 rfl ?_
    refine s_get C fc_1 (zb_lt hb21) (zb hb21 _ _ _) 1 (by decide) e_P_map_62 g_144 rfl ?_
    exact s_iret C e_P_map_65
theorem c_P_map {l : Launch} {D : va_G} {k : Nat → ClassId} {q : Nat → Nat} (hq : Inj ZX q)  (σ : St)  : Ct l ZX D k q yX6_map cX6_map 2 (some .int) 6 134 [.ref (q 0)] σ (m_P_map σ) :=
  Ct_of hq lcX (by decide) (Nat.le_of_ble_eq_true rfl) (fun _ _ _ _ _ _ _ _ _ _ C => w_P_map C σ)
set_option maxRecDepth 100000 in
theorem w_P_fault {X : CX} (C : Cx X ZX RX6 cX6_fault 1 (some .int) 0 0)  (σ : St)  : Sm X ZX 1 (some .int) σ [(0, .ref (cq X 0))] 0 [] (m_P_fault σ) := by
  unfold m_P_fault
  refine s_aload_n C e_P_fault_0 rfl ?_
  refine s_get C fc_6 zx_lt_0 (zx_0 _ _ _) 1 (by decide) e_P_fault_1 g_50 rfl ?_
  refine s_get C fc_4 zx_lt_13 (zx_13 _ _ _) 2 (by decide) e_P_fault_4 g_164 rfl ?_
  exact s_iret C e_P_fault_7
theorem c_P_fault {l : Launch} {D : va_G} {k : Nat → ClassId} {q : Nat → Nat} (hq : Inj ZX q)  (σ : St)  : Ct l ZX D k q yX6_fault cX6_fault 1 (some .int) 0 0 [.ref (q 0)] σ (m_P_fault σ) :=
  Ct_of hq lcX (by decide) (Nat.le_of_ble_eq_true rfl) (fun _ _ _ _ _ _ _ _ _ _ C => w_P_fault C σ)
set_option maxRecDepth 100000 in
theorem w_Board_stands {X : CX} (C : Cx X ZX RX1 cX1_stands 1 (some .boolean) 0 0) {b : Nat} (hb : isB b) (σ : St)  : Sm X ZX 1 (some .boolean) σ [(0, .ref (cq X b))] 0 [] (m_Board_stands b σ) := by
  unfold m_Board_stands
  refine s_aload_n C e_Board_stands_0 rfl ?_
  refine s_get C fc_1 (zb_lt hb) (zb hb _ _ _) 0 (by decide) e_Board_stands_1 g_58 rfl ?_
  refine s_if_le (tgt := 11) C e_Board_stands_4 rfl ?_ ?_
  · refine s_iconst C e_Board_stands_11 (v := (0 : Int32)) ic_0 ?_
    exact s_zret C e_Board_stands_12
  · refine s_iconst C e_Board_stands_7 (v := (1 : Int32)) ic_1 ?_
    refine s_goto (tgt := 12) C e_Board_stands_8 rfl ?_
    exact s_zret C e_Board_stands_12
theorem c_Board_stands {l : Launch} {D : va_G} {k : Nat → ClassId} {q : Nat → Nat} (hq : Inj ZX q) {b : Nat} (hb : isB b) (σ : St)  : Ct l ZX D k q yX1_stands cX1_stands 1 (some .boolean) 0 0 [.ref (q b)] σ (m_Board_stands b σ) :=
  Ct_of hq lcX (by decide) (Nat.le_of_ble_eq_true rfl) (fun _ _ _ _ _ _ _ _ _ _ C => w_Board_stands C hb σ)
set_option maxRecDepth 100000 in
theorem w_Past_keep {X : CX} (C : Cx X ZX RX3 cX3_keep 2 none 2 47) {o : Nat} (ho : isB o) (σ : St)  : Sm X ZX 2 none σ [(0, .ref (cq X 16)), (1, .ref (cq X o))] 0 [] (m_Past_keep o σ) := by
  unfold m_Past_keep
  refine s_aload_n C e_Past_keep_0 rfl ?_
  refine s_get C fc_3 zx_lt_16 (zx_16 _ _ _) 2 (by decide) e_Past_keep_1 g_165 rfl ?_
  refine s_aload_n C e_Past_keep_4 rfl ?_
  refine s_get C fc_3 zx_lt_16 (zx_16 _ _ _) 1 (by decide) e_Past_keep_5 g_166 rfl ?_
  refine s_aload_n C e_Past_keep_8 rfl ?_
  refine s_get C fc_3 zx_lt_16 (zx_16 _ _ _) 0 (by decide) e_Past_keep_9 g_139 rfl ?_
  refine s_iadd C e_Past_keep_12 ?_
  refine s_bipush C e_Past_keep_13 (v := (24 : Int32)) bp_24 ?_
  refine s_irem C e_Past_keep_15 ?_
  refine s_aald (c := 2) (ty := .object "PinBoards$Board") C gPast zx_lt_17 (zx_17 _ _ _) rfl rfl zxf_17 e_Past_keep_16 (fun hi16 => ?_)
  refine s_aload_n C e_Past_keep_17 rfl ?_
  refine s_callVv_1 C (c_Board_takeFrom C.inj (hb_past hi16) ho _) wv_Board_takeFrom g_167 ⟨by decide, by decide⟩ fc_1 rfl (zb_lt (hb_past hi16)) (zb (hb_past hi16) _ _ _) rfl (Nat.le_of_ble_eq_true rfl) e_Past_keep_18 (fun v1 σ2 => ?_)
  refine s_aload_n C e_Past_keep_21 rfl ?_
  refine s_get C fc_3 zx_lt_16 (zx_16 _ _ _) 0 (by decide) e_Past_keep_22 g_139 rfl ?_
  refine s_bipush C e_Past_keep_25 (v := (24 : Int32)) bp_24 ?_
  refine s_icmp_ge (tgt := 43) C e_Past_keep_27 rfl ?_ ?_
  · refine s_aload_n C e_Past_keep_43 rfl ?_
    refine s_aload_n C e_Past_keep_44 rfl ?_
    refine s_get C fc_3 zx_lt_16 (zx_16 _ _ _) 1 (by decide) e_Past_keep_45 g_166 rfl ?_
    refine s_iconst C e_Past_keep_48 (v := (1 : Int32)) ic_1 ?_
    refine s_iadd C e_Past_keep_49 ?_
    refine s_bipush C e_Past_keep_50 (v := (24 : Int32)) bp_24 ?_
    refine s_irem C e_Past_keep_52 ?_
    refine s_put C fc_3 zx_lt_16 (zx_16 _ _ _) 1 (by decide) (zxp_16_1 _ _ _ _) (Nat.le_of_ble_eq_true rfl) e_Past_keep_53 g_166 rfl rfl (fun σ3 => ?_)
    exact s_vret C e_Past_keep_56
  · refine s_aload_n C e_Past_keep_30 rfl ?_
    refine s_dup C e_Past_keep_31 rfl ?_
    refine s_get C fc_3 zx_lt_16 (zx_16 _ _ _) 0 (by decide) e_Past_keep_32 g_139 rfl ?_
    refine s_iconst C e_Past_keep_35 (v := (1 : Int32)) ic_1 ?_
    refine s_iadd C e_Past_keep_36 ?_
    refine s_put C fc_3 zx_lt_16 (zx_16 _ _ _) 0 (by decide) (zxp_16_0 _ _ _ _) (Nat.le_of_ble_eq_true rfl) e_Past_keep_37 g_139 rfl rfl (fun σ4 => ?_)
    refine s_goto (tgt := 56) C e_Past_keep_40 rfl ?_
    exact s_vret C e_Past_keep_56
theorem c_Past_keep {l : Launch} {D : va_G} {k : Nat → ClassId} {q : Nat → Nat} (hq : Inj ZX q) {o : Nat} (ho : isB o) (σ : St)  : Ct l ZX D k q yX3_keep cX3_keep 2 none 2 47 [.ref (q 16), .ref (q o)] σ (m_Past_keep o σ) :=
  Ct_of hq lcX (by decide) (Nat.le_of_ble_eq_true rfl) (fun _ _ _ _ _ _ _ _ _ _ C => w_Past_keep C ho σ)
set_option maxRecDepth 100000 in
theorem w_P_isSet {X : CX} (C : Cx X ZX RX6 cX6_isSet 2 (some .boolean) 0 0)  (σ : St) (x0 : Int32) (x1 : Int32) : Sm X ZX 2 (some .boolean) σ [(0, .int x0), (1, .int x1)] 0 [] (m_P_isSet σ x0 x1) := by
  unfold m_P_isSet
  refine s_iload_n C e_P_isSet_0 rfl ?_
  refine s_iload_n C e_P_isSet_1 rfl ?_
  refine s_ishr C e_P_isSet_2 ?_
  refine s_iconst C e_P_isSet_3 (v := (1 : Int32)) ic_1 ?_
  refine s_iand C e_P_isSet_4 ?_
  refine s_iconst C e_P_isSet_5 (v := (1 : Int32)) ic_1 ?_
  refine s_icmp_ne (tgt := 13) C e_P_isSet_6 rfl ?_ ?_
  · refine s_iconst C e_P_isSet_9 (v := (1 : Int32)) ic_1 ?_
    refine s_goto (tgt := 14) C e_P_isSet_10 rfl ?_
    exact s_zret C e_P_isSet_14
  · refine s_iconst C e_P_isSet_13 (v := (0 : Int32)) ic_0 ?_
    exact s_zret C e_P_isSet_14
theorem c_P_isSet {l : Launch} {D : va_G} {k : Nat → ClassId} {q : Nat → Nat} (hq : Inj ZX q)  (σ : St) (x0 : Int32) (x1 : Int32) : Ct l ZX D k q yX6_isSet cX6_isSet 2 (some .boolean) 0 0 [.int x0, .int x1] σ (m_P_isSet σ x0 x1) :=
  Ct_of hq lcX (by decide) (Nat.le_of_ble_eq_true rfl) (fun _ _ _ _ _ _ _ _ _ _ C => w_P_isSet C σ x0 x1)
set_option maxRecDepth 100000 in
theorem w_Board_change {X : CX} (C : Cx X ZX RX1 cX1_change 4 none 0 0) {b : Nat} (hb : isB b) (σ : St) (x1 : Int32) (x2 : Int32) : Sm X ZX 4 none σ [(0, .ref (cq X b)), (1, .int x1), (2, .int x2)] 0 [] (m_Board_change b σ x1 x2) := by
  unfold m_Board_change
  refine s_aload_n C e_Board_change_0 rfl ?_
  refine s_get C fc_1 (zb_lt hb) (zb hb _ _ _) 11 (by decide) e_Board_change_1 g_138 rfl ?_
  refine s_iload_n C e_Board_change_4 rfl ?_
  refine s_iald C (zb6_lt hb) (zb6 hb) e_Board_change_5 ?_
  refine s_nm (fun y1 => ?_)
  refine s_istore_n C e_Board_change_6 (by decide) ?_
  refine s_aload_n C e_Board_change_7 rfl ?_
  refine s_get C fc_1 (zb_lt hb) (zb hb _ _ _) 11 (by decide) e_Board_change_8 g_138 rfl ?_
  refine s_iload_n C e_Board_change_11 rfl ?_
  refine s_aload_n C e_Board_change_12 rfl ?_
  refine s_get C fc_1 (zb_lt hb) (zb hb _ _ _) 11 (by decide) e_Board_change_13 g_138 rfl ?_
  refine s_iload_n C e_Board_change_16 rfl ?_
  refine s_iald C (zb6_lt hb) (zb6 hb) e_Board_change_17 ?_
  refine s_iast C (zb6_lt hb) (zb6 hb) e_Board_change_18 (fun σ2 => ?_)
  refine s_aload_n C e_Board_change_19 rfl ?_
  refine s_get C fc_1 (zb_lt hb) (zb hb _ _ _) 11 (by decide) e_Board_change_20 g_138 rfl ?_
  refine s_iload_n C e_Board_change_23 rfl ?_
  refine s_iload_n C e_Board_change_24 rfl ?_
  refine s_iast C (zb6_lt hb) (zb6 hb) e_Board_change_25 (fun σ3 => ?_)
  exact s_vret C e_Board_change_26
theorem c_Board_change {l : Launch} {D : va_G} {k : Nat → ClassId} {q : Nat → Nat} (hq : Inj ZX q) {b : Nat} (hb : isB b) (σ : St) (x1 : Int32) (x2 : Int32) : Ct l ZX D k q yX1_change cX1_change 4 none 0 0 [.ref (q b), .int x1, .int x2] σ (m_Board_change b σ x1 x2) :=
  Ct_of hq lcX (by decide) (Nat.le_of_ble_eq_true rfl) (fun _ _ _ _ _ _ _ _ _ _ C => w_Board_change C hb σ x1 x2)
set_option maxRecDepth 100000 in
theorem w_Board_mix_B37 {X : CX} (C : Cx X ZX RX1 cX1_mix 3 none 1 23) {b : Nat} (hb : isB b)  (σ : St) (x1 : Int32) (x2 : Int32) : Sm X ZX 3 none σ [(0, .ref (cq X b)), (1, .int x1), (2, .int x2)] 37 [] (m_Board_mix_B37 b σ x1 x2) := by
  unfold m_Board_mix_B37
  refine s_aload_n C e_Board_mix_37 rfl ?_
  refine s_iload_n C e_Board_mix_38 rfl ?_
  refine s_iload_n C e_Board_mix_39 rfl ?_
  refine s_callVv_2 C (c_Board_change C.inj hb _ _ _) wv_Board_change g_168 ⟨by decide, by decide⟩ fc_1 rfl (zb_lt hb) (zb hb _ _ _) rfl (Nat.le_of_ble_eq_true rfl) e_Board_mix_40 (fun v1 σ2 => ?_)
  exact s_vret C e_Board_mix_43
set_option maxRecDepth 100000 in
theorem w_Board_mix_B44 {X : CX} (C : Cx X ZX RX1 cX1_mix 3 none 1 23) {b : Nat} (hb : isB b) (r4 : St → Int32 → Int32 → Rt) (hr4 : ∀ (σ : St) (x1 : Int32) (x2 : Int32), Sm X ZX 3 none σ [(0, .ref (cq X b)), (1, .int x1), (2, .int x2)] 4 [] (r4 σ x1 x2)) (σ : St) (x1 : Int32) (x2 : Int32) : Sm X ZX 3 none σ [(0, .ref (cq X b)), (1, .int x1), (2, .int x2)] 44 [] (m_Board_mix_B44 b r4 σ x1 x2) := by
  unfold m_Board_mix_B44
  refine s_iinc C e_Board_mix_44 (v := (1 : Int32)) rfl (by decide) ii_1 ?_
  refine s_goto (tgt := 4) C e_Board_mix_47 rfl ?_
  exact s_cut (hr4 _ _ _) ⟨rfl, rfl, rfl, trivial⟩
set_option maxRecDepth 100000 in
theorem w_Board_mix_B4 {X : CX} (C : Cx X ZX RX1 cX1_mix 3 none 1 23) {b : Nat} (hb : isB b) (r4 : St → Int32 → Int32 → Rt) (hr4 : ∀ (σ : St) (x1 : Int32) (x2 : Int32), Sm X ZX 3 none σ [(0, .ref (cq X b)), (1, .int x1), (2, .int x2)] 4 [] (r4 σ x1 x2)) (σ : St) (x1 : Int32) (x2 : Int32) : Sm X ZX 3 none σ [(0, .ref (cq X b)), (1, .int x1), (2, .int x2)] 4 [] (m_Board_mix_B4 b r4 σ x1 x2) := by
  unfold m_Board_mix_B4
  refine s_iload_n C e_Board_mix_4 rfl ?_
  refine s_aload_n C e_Board_mix_5 rfl ?_
  refine s_get C fc_1 (zb_lt hb) (zb hb _ _ _) 1 (by decide) e_Board_mix_6 g_59 rfl ?_
  refine s_icmp_ge (tgt := 50) C e_Board_mix_9 rfl ?_ ?_
  · exact s_vret C e_Board_mix_50
  · refine s_aload_n C e_Board_mix_12 rfl ?_
    refine s_get C fc_1 (zb_lt hb) (zb hb _ _ _) 9 (by decide) e_Board_mix_13 g_136 rfl ?_
    refine s_iload_n C e_Board_mix_16 rfl ?_
    refine s_iald C (zb4_lt hb) (zb4 hb) e_Board_mix_17 ?_
    refine s_aload_n C e_Board_mix_18 rfl ?_
    refine s_get C fc_1 (zb_lt hb) (zb hb _ _ _) 9 (by decide) e_Board_mix_19 g_136 rfl ?_
    refine s_iload_n C e_Board_mix_22 rfl ?_
    refine s_iald C (zb4_lt hb) (zb4 hb) e_Board_mix_23 ?_
    refine s_icmp_ne (tgt := 44) C e_Board_mix_24 rfl ?_ ?_
    · refine s_aload_n C e_Board_mix_27 rfl ?_
      refine s_get C fc_1 (zb_lt hb) (zb hb _ _ _) 10 (by decide) e_Board_mix_28 g_137 rfl ?_
      refine s_iload_n C e_Board_mix_31 rfl ?_
      refine s_iald C (zb5_lt hb) (zb5 hb) e_Board_mix_32 ?_
      refine s_iconst C e_Board_mix_33 (v := (5 : Int32)) ic_5 ?_
      refine s_icmp_eq (tgt := 44) C e_Board_mix_34 rfl ?_ ?_
      · exact s_cut (w_Board_mix_B44 C hb r4 hr4 _ _ _) ⟨rfl, rfl, rfl, trivial⟩
      · exact s_cut (w_Board_mix_B37 C hb _ _ _) ⟨rfl, rfl, rfl, trivial⟩
    · exact s_cut (w_Board_mix_B44 C hb r4 hr4 _ _ _) ⟨rfl, rfl, rfl, trivial⟩
theorem w_Board_mix_L4 {X : CX} (C : Cx X ZX RX1 cX1_mix 3 none 1 23) {b : Nat} (hb : isB b)  : ∀ (n : Nat) (σ : St) (x1 : Int32) (x2 : Int32), Sm X ZX 3 none σ [(0, .ref (cq X b)), (1, .int x1), (2, .int x2)] 4 [] (m_Board_mix_L4 b n σ x1 x2)
  | 0, _, _, _ => s_none
  | n + 1, σ, x1, x2 => w_Board_mix_B4 C hb (m_Board_mix_L4 b n) (w_Board_mix_L4 C hb n) σ x1 x2
set_option maxRecDepth 100000 in
theorem w_Board_mix {X : CX} (C : Cx X ZX RX1 cX1_mix 3 none 1 23) {b : Nat} (hb : isB b) (σ : St) (x1 : Int32) : Sm X ZX 3 none σ [(0, .ref (cq X b)), (1, .int x1)] 0 [] (m_Board_mix b σ x1) := by
  unfold m_Board_mix
  refine s_iload_n C e_Board_mix_0 rfl ?_
  refine s_iconst C e_Board_mix_1 (v := (1 : Int32)) ic_1 ?_
  refine s_iadd C e_Board_mix_2 ?_
  refine s_nm (fun y1 => ?_)
  refine s_istore_n C e_Board_mix_3 (by decide) ?_
  exact s_cut (w_Board_mix_L4 C hb FU _ _ _) ⟨rfl, rfl, rfl, trivial⟩
theorem c_Board_mix {l : Launch} {D : va_G} {k : Nat → ClassId} {q : Nat → Nat} (hq : Inj ZX q) {b : Nat} (hb : isB b) (σ : St) (x1 : Int32) : Ct l ZX D k q yX1_mix cX1_mix 3 none 1 23 [.ref (q b), .int x1] σ (m_Board_mix b σ x1) :=
  Ct_of hq lcX (by decide) (Nat.le_of_ble_eq_true rfl) (fun _ _ _ _ _ _ _ _ _ _ C => w_Board_mix C hb σ x1)
set_option maxRecDepth 100000 in
theorem w_Board_open_B103 {X : CX} (C : Cx X ZX RX1 cX1_open 3 none 2 45) {b : Nat} (hb : isB b) (r2 : St → Int32 → Int32 → Rt) (hr2 : ∀ (σ : St) (x1 : Int32) (x2 : Int32), Sm X ZX 3 none σ [(0, .ref (cq X b)), (1, .int x1), (2, .int x2)] 2 [] (r2 σ x1 x2)) (σ : St) (x1 : Int32) (x2 : Int32) : Sm X ZX 3 none σ [(0, .ref (cq X b)), (1, .int x1), (2, .int x2)] 103 [] (m_Board_open_B103 b r2 σ x1 x2) := by
  unfold m_Board_open_B103
  refine s_iinc C e_Board_open_103 (v := (1 : Int32)) rfl (by decide) ii_1 ?_
  refine s_goto (tgt := 2) C e_Board_open_106 rfl ?_
  exact s_cut (hr2 _ _ _) ⟨rfl, rfl, rfl, trivial⟩
set_option maxRecDepth 100000 in
theorem w_Board_open_B81 {X : CX} (C : Cx X ZX RX1 cX1_open 3 none 2 45) {b : Nat} (hb : isB b) (r2 : St → Int32 → Int32 → Rt) (hr2 : ∀ (σ : St) (x1 : Int32) (x2 : Int32), Sm X ZX 3 none σ [(0, .ref (cq X b)), (1, .int x1), (2, .int x2)] 2 [] (r2 σ x1 x2)) (σ : St) (x1 : Int32) (x2 : Int32) : Sm X ZX 3 none σ [(0, .ref (cq X b)), (1, .int x1), (2, .int x2)] 81 [] (m_Board_open_B81 b r2 σ x1 x2) := by
  unfold m_Board_open_B81
  refine s_aload_n C e_Board_open_81 rfl ?_
  refine s_get C fc_1 (zb_lt hb) (zb hb _ _ _) 10 (by decide) e_Board_open_82 g_137 rfl ?_
  refine s_iload_n C e_Board_open_85 rfl ?_
  refine s_iald C (zb5_lt hb) (zb5 hb) e_Board_open_86 ?_
  refine s_iconst C e_Board_open_87 (v := (4 : Int32)) ic_4 ?_
  refine s_icmp_ne (tgt := 103) C e_Board_open_88 rfl ?_ ?_
  · refine s_aload_n C e_Board_open_91 rfl ?_
    refine s_get C fc_1 (zb_lt hb) (zb hb _ _ _) 11 (by decide) e_Board_open_92 g_138 rfl ?_
    refine s_iload_n C e_Board_open_95 rfl ?_
    refine s_aload_n C e_Board_open_96 rfl ?_
    refine s_get C fc_1 (zb_lt hb) (zb hb _ _ _) 7 (by decide) e_Board_open_97 g_93 rfl ?_
    refine s_iload_n C e_Board_open_100 rfl ?_
    refine s_iald C (zb2_lt hb) (zb2 hb) e_Board_open_101 ?_
    refine s_iast C (zb6_lt hb) (zb6 hb) e_Board_open_102 (fun σ1 => ?_)
    exact s_cut (w_Board_open_B103 C hb r2 hr2 _ _ _) ⟨rfl, rfl, rfl, trivial⟩
  · exact s_cut (w_Board_open_B103 C hb r2 hr2 _ _ _) ⟨rfl, rfl, rfl, trivial⟩
set_option maxRecDepth 100000 in
theorem w_Board_open_B2 {X : CX} (C : Cx X ZX RX1 cX1_open 3 none 2 45) {b : Nat} (hb : isB b) (r2 : St → Int32 → Int32 → Rt) (hr2 : ∀ (σ : St) (x1 : Int32) (x2 : Int32), Sm X ZX 3 none σ [(0, .ref (cq X b)), (1, .int x1), (2, .int x2)] 2 [] (r2 σ x1 x2)) (σ : St) (x1 : Int32) (x2 : Int32) : Sm X ZX 3 none σ [(0, .ref (cq X b)), (1, .int x1), (2, .int x2)] 2 [] (m_Board_open_B2 b r2 σ x1 x2) := by
  unfold m_Board_open_B2
  refine s_iload_n C e_Board_open_2 rfl ?_
  refine s_aload_n C e_Board_open_3 rfl ?_
  refine s_get C fc_1 (zb_lt hb) (zb hb _ _ _) 1 (by decide) e_Board_open_4 g_59 rfl ?_
  refine s_icmp_ge (tgt := 109) C e_Board_open_7 rfl ?_ ?_
  · refine s_aload_n C e_Board_open_109 rfl ?_
    refine s_iconst C e_Board_open_110 (v := (1 : Int32)) ic_1 ?_
    refine s_putZ C fc_1 (zb_lt hb) (zb hb _ _ _) 5 (by decide) (zbp_5 hb _ _ _ _) (Nat.le_of_ble_eq_true rfl) e_Board_open_111 g_63 rfl rfl (fun σ1 => ?_)
    exact s_vret C e_Board_open_114
  · refine s_iload_n C e_Board_open_10 rfl ?_
    refine s_iload_n C e_Board_open_11 rfl ?_
    refine s_callN_2 C (c_P_isSet C.inj _ _ _) wv_P_isSet g_176 ⟨by decide, by decide⟩ rfl (Nat.le_of_ble_eq_true rfl) e_Board_open_12 (fun v2 σ3 => ?_)
    refine s_if_eq (tgt := 21) C e_Board_open_15 rfl ?_ ?_
    · refine s_aload_n C e_Board_open_21 rfl ?_
      refine s_get C fc_1 (zb_lt hb) (zb hb _ _ _) 10 (by decide) e_Board_open_22 g_137 rfl ?_
      refine s_iload_n C e_Board_open_25 rfl ?_
      refine s_iald C (zb5_lt hb) (zb5 hb) e_Board_open_26 ?_
      refine s_iconst C e_Board_open_27 (v := (2 : Int32)) ic_2 ?_
      refine s_icmp_ne (tgt := 39) C e_Board_open_28 rfl ?_ ?_
      · refine s_aload_n C e_Board_open_31 rfl ?_
        refine s_iload_n C e_Board_open_32 rfl ?_
        refine s_callVv_1 C (c_Board_mix C.inj hb _ _) wv_Board_mix g_172 ⟨by decide, by decide⟩ fc_1 rfl (zb_lt hb) (zb hb _ _ _) rfl (Nat.le_of_ble_eq_true rfl) e_Board_open_33 (fun v5 σ6 => ?_)
        refine s_goto (tgt := 103) C e_Board_open_36 rfl ?_
        exact s_cut (w_Board_open_B103 C hb r2 hr2 _ _ _) ⟨rfl, rfl, rfl, trivial⟩
      · refine s_aload_n C e_Board_open_39 rfl ?_
        refine s_get C fc_1 (zb_lt hb) (zb hb _ _ _) 10 (by decide) e_Board_open_40 g_137 rfl ?_
        refine s_iload_n C e_Board_open_43 rfl ?_
        refine s_iald C (zb5_lt hb) (zb5 hb) e_Board_open_44 ?_
        refine s_iconst C e_Board_open_45 (v := (3 : Int32)) ic_3 ?_
        refine s_icmp_ne (tgt := 81) C e_Board_open_46 rfl ?_ ?_
        · refine s_aload_n C e_Board_open_49 rfl ?_
          refine s_get C fc_1 (zb_lt hb) (zb hb _ _ _) 0 (by decide) e_Board_open_50 g_58 rfl ?_
          refine s_if_le (tgt := 81) C e_Board_open_53 rfl ?_ ?_
          · exact s_cut (w_Board_open_B81 C hb r2 hr2 _ _ _) ⟨rfl, rfl, rfl, trivial⟩
          · refine s_aload_n C e_Board_open_56 rfl ?_
            refine s_get C fc_1 (zb_lt hb) (zb hb _ _ _) 11 (by decide) e_Board_open_57 g_138 rfl ?_
            refine s_iload_n C e_Board_open_60 rfl ?_
            refine s_aload_n C e_Board_open_61 rfl ?_
            refine s_get C fc_1 (zb_lt hb) (zb hb _ _ _) 11 (by decide) e_Board_open_62 g_138 rfl ?_
            refine s_iload_n C e_Board_open_65 rfl ?_
            refine s_iald C (zb6_lt hb) (zb6 hb) e_Board_open_66 ?_
            refine s_aload_n C e_Board_open_67 rfl ?_
            refine s_get C fc_1 (zb_lt hb) (zb hb _ _ _) 2 (by decide) e_Board_open_68 g_60 rfl ?_
            refine s_iadd C e_Board_open_71 ?_
            refine s_aload_n C e_Board_open_72 rfl ?_
            refine s_get C fc_1 (zb_lt hb) (zb hb _ _ _) 0 (by decide) e_Board_open_73 g_58 rfl ?_
            refine s_irem C e_Board_open_76 ?_
            refine s_iast C (zb6_lt hb) (zb6 hb) e_Board_open_77 (fun σ4 => ?_)
            refine s_goto (tgt := 103) C e_Board_open_78 rfl ?_
            exact s_cut (w_Board_open_B103 C hb r2 hr2 _ _ _) ⟨rfl, rfl, rfl, trivial⟩
        · exact s_cut (w_Board_open_B81 C hb r2 hr2 _ _ _) ⟨rfl, rfl, rfl, trivial⟩
    · refine s_goto (tgt := 103) C e_Board_open_18 rfl ?_
      exact s_cut (w_Board_open_B103 C hb r2 hr2 _ _ _) ⟨rfl, rfl, rfl, trivial⟩
theorem w_Board_open_L2 {X : CX} (C : Cx X ZX RX1 cX1_open 3 none 2 45) {b : Nat} (hb : isB b)  : ∀ (n : Nat) (σ : St) (x1 : Int32) (x2 : Int32), Sm X ZX 3 none σ [(0, .ref (cq X b)), (1, .int x1), (2, .int x2)] 2 [] (m_Board_open_L2 b n σ x1 x2)
  | 0, _, _, _ => s_none
  | n + 1, σ, x1, x2 => w_Board_open_B2 C hb (m_Board_open_L2 b n) (w_Board_open_L2 C hb n) σ x1 x2
set_option maxRecDepth 100000 in
theorem w_Board_open {X : CX} (C : Cx X ZX RX1 cX1_open 3 none 2 45) {b : Nat} (hb : isB b) (σ : St) (x1 : Int32) : Sm X ZX 3 none σ [(0, .ref (cq X b)), (1, .int x1)] 0 [] (m_Board_open b σ x1) := by
  unfold m_Board_open
  refine s_iconst C e_Board_open_0 (v := (0 : Int32)) ic_0 ?_
  refine s_istore_n C e_Board_open_1 (by decide) ?_
  exact s_cut (w_Board_open_L2 C hb FU _ _ _) ⟨rfl, rfl, rfl, trivial⟩
theorem c_Board_open {l : Launch} {D : va_G} {k : Nat → ClassId} {q : Nat → Nat} (hq : Inj ZX q) {b : Nat} (hb : isB b) (σ : St) (x1 : Int32) : Ct l ZX D k q yX1_open cX1_open 3 none 2 45 [.ref (q b), .int x1] σ (m_Board_open b σ x1) :=
  Ct_of hq lcX (by decide) (Nat.le_of_ble_eq_true rfl) (fun _ _ _ _ _ _ _ _ _ _ C => w_Board_open C hb σ x1)
set_option maxRecDepth 100000 in
theorem w_Board_place_B17 {X : CX} (C : Cx X ZX RX1 cX1_place 2 (some .int) 0 0) {b : Nat} (hb : isB b)  (σ : St) (x1 : Int32) : Sm X ZX 2 (some .int) σ [(0, .ref (cq X b)), (1, .int x1)] 17 [] (m_Board_place_B17 b σ x1) := by
  unfold m_Board_place_B17
  refine s_aload_n C e_Board_place_17 rfl ?_
  refine s_get C fc_1 (zb_lt hb) (zb hb _ _ _) 11 (by decide) e_Board_place_18 g_138 rfl ?_
  refine s_iload_n C e_Board_place_21 rfl ?_
  refine s_iald C (zb6_lt hb) (zb6 hb) e_Board_place_22 ?_
  refine s_goto (tgt := 28) C e_Board_place_23 rfl ?_
  exact s_iret C e_Board_place_28
set_option maxRecDepth 100000 in
theorem w_Board_place {X : CX} (C : Cx X ZX RX1 cX1_place 2 (some .int) 0 0) {b : Nat} (hb : isB b) (σ : St) (x1 : Int32) : Sm X ZX 2 (some .int) σ [(0, .ref (cq X b)), (1, .int x1)] 0 [] (m_Board_place b σ x1) := by
  unfold m_Board_place
  refine s_aload_n C e_Board_place_0 rfl ?_
  refine s_get C fc_1 (zb_lt hb) (zb hb _ _ _) 5 (by decide) e_Board_place_1 g_63 rfl ?_
  refine s_if_ne (tgt := 17) C e_Board_place_4 rfl ?_ ?_
  · refine s_aload_n C e_Board_place_7 rfl ?_
    refine s_get C fc_1 (zb_lt hb) (zb hb _ _ _) 10 (by decide) e_Board_place_8 g_137 rfl ?_
    refine s_iload_n C e_Board_place_11 rfl ?_
    refine s_iald C (zb5_lt hb) (zb5 hb) e_Board_place_12 ?_
    refine s_iconst C e_Board_place_13 (v := (5 : Int32)) ic_5 ?_
    refine s_icmp_ne (tgt := 26) C e_Board_place_14 rfl ?_ ?_
    · exact s_cut (w_Board_place_B17 C hb _ _) ⟨rfl, rfl, trivial⟩
    · refine s_ldc C e_Board_place_26 g_92 ?_
      exact s_iret C e_Board_place_28
  · exact s_cut (w_Board_place_B17 C hb _ _) ⟨rfl, rfl, trivial⟩
theorem c_Board_place {l : Launch} {D : va_G} {k : Nat → ClassId} {q : Nat → Nat} (hq : Inj ZX q) {b : Nat} (hb : isB b) (σ : St) (x1 : Int32) : Ct l ZX D k q yX1_place cX1_place 2 (some .int) 0 0 [.ref (q b), .int x1] σ (m_Board_place b σ x1) :=
  Ct_of hq lcX (by decide) (Nat.le_of_ble_eq_true rfl) (fun _ _ _ _ _ _ _ _ _ _ C => w_Board_place C hb σ x1)
set_option maxRecDepth 100000 in
theorem w_Board_pinsIn_B29 {X : CX} (C : Cx X ZX RX1 cX1_pinsIn 4 (some .int) 1 21) {b : Nat} (hb : isB b) (r4 : St → Int32 → Int32 → Int32 → Rt) (hr4 : ∀ (σ : St) (x1 : Int32) (x2 : Int32) (x3 : Int32), Sm X ZX 4 (some .int) σ [(0, .ref (cq X b)), (1, .int x1), (2, .int x2), (3, .int x3)] 4 [] (r4 σ x1 x2 x3)) (σ : St) (x1 : Int32) (x3 : Int32) (s0 : Int32) (s1 : Int32) : Sm X ZX 4 (some .int) σ [(0, .ref (cq X b)), (1, .int x1), (3, .int x3)] 29 [.int s0, .int s1] (m_Board_pinsIn_B29 b r4 σ x1 x3 s0 s1) := by
  unfold m_Board_pinsIn_B29
  refine s_ior C e_Board_pinsIn_29 ?_
  refine s_nm (fun y1 => ?_)
  refine s_istore_n C e_Board_pinsIn_30 (by decide) ?_
  refine s_iinc C e_Board_pinsIn_31 (v := (1 : Int32)) rfl (by decide) ii_1 ?_
  refine s_goto (tgt := 4) C e_Board_pinsIn_34 rfl ?_
  exact s_cut (hr4 _ _ _ _) ⟨rfl, rfl, rfl, rfl, trivial⟩
set_option maxRecDepth 100000 in
theorem w_Board_pinsIn_B4 {X : CX} (C : Cx X ZX RX1 cX1_pinsIn 4 (some .int) 1 21) {b : Nat} (hb : isB b) (r4 : St → Int32 → Int32 → Int32 → Rt) (hr4 : ∀ (σ : St) (x1 : Int32) (x2 : Int32) (x3 : Int32), Sm X ZX 4 (some .int) σ [(0, .ref (cq X b)), (1, .int x1), (2, .int x2), (3, .int x3)] 4 [] (r4 σ x1 x2 x3)) (σ : St) (x1 : Int32) (x2 : Int32) (x3 : Int32) : Sm X ZX 4 (some .int) σ [(0, .ref (cq X b)), (1, .int x1), (2, .int x2), (3, .int x3)] 4 [] (m_Board_pinsIn_B4 b r4 σ x1 x2 x3) := by
  unfold m_Board_pinsIn_B4
  refine s_iload_n C e_Board_pinsIn_4 rfl ?_
  refine s_aload_n C e_Board_pinsIn_5 rfl ?_
  refine s_get C fc_1 (zb_lt hb) (zb hb _ _ _) 1 (by decide) e_Board_pinsIn_6 g_59 rfl ?_
  refine s_icmp_ge (tgt := 37) C e_Board_pinsIn_9 rfl ?_ ?_
  · refine s_iload_n C e_Board_pinsIn_37 rfl ?_
    exact s_iret C e_Board_pinsIn_38
  · refine s_iload_n C e_Board_pinsIn_12 rfl ?_
    refine s_aload_n C e_Board_pinsIn_13 rfl ?_
    refine s_iload_n C e_Board_pinsIn_14 rfl ?_
    refine s_callV_1 C (c_Board_place C.inj hb _ _) wv_Board_place g_179 ⟨by decide, by decide⟩ fc_1 rfl (zb_lt hb) (zb hb _ _ _) rfl (Nat.le_of_ble_eq_true rfl) e_Board_pinsIn_15 (fun v1 σ2 => ?_)
    refine s_iload_n C e_Board_pinsIn_18 rfl ?_
    refine s_icmp_ne (tgt := 28) C e_Board_pinsIn_19 rfl ?_ ?_
    · refine s_iconst C e_Board_pinsIn_22 (v := (1 : Int32)) ic_1 ?_
      refine s_iload_n C e_Board_pinsIn_23 rfl ?_
      refine s_ishl C e_Board_pinsIn_24 ?_
      refine s_goto (tgt := 29) C e_Board_pinsIn_25 rfl ?_
      exact s_cut (w_Board_pinsIn_B29 C hb r4 hr4 _ _ _ _ _) ⟨rfl, rfl, rfl, trivial⟩
    · refine s_iconst C e_Board_pinsIn_28 (v := (0 : Int32)) ic_0 ?_
      exact s_cut (w_Board_pinsIn_B29 C hb r4 hr4 _ _ _ _ _) ⟨rfl, rfl, rfl, trivial⟩
theorem w_Board_pinsIn_L4 {X : CX} (C : Cx X ZX RX1 cX1_pinsIn 4 (some .int) 1 21) {b : Nat} (hb : isB b)  : ∀ (n : Nat) (σ : St) (x1 : Int32) (x2 : Int32) (x3 : Int32), Sm X ZX 4 (some .int) σ [(0, .ref (cq X b)), (1, .int x1), (2, .int x2), (3, .int x3)] 4 [] (m_Board_pinsIn_L4 b n σ x1 x2 x3)
  | 0, _, _, _, _ => s_none
  | n + 1, σ, x1, x2, x3 => w_Board_pinsIn_B4 C hb (m_Board_pinsIn_L4 b n) (w_Board_pinsIn_L4 C hb n) σ x1 x2 x3
set_option maxRecDepth 100000 in
theorem w_Board_pinsIn {X : CX} (C : Cx X ZX RX1 cX1_pinsIn 4 (some .int) 1 21) {b : Nat} (hb : isB b) (σ : St) (x1 : Int32) : Sm X ZX 4 (some .int) σ [(0, .ref (cq X b)), (1, .int x1)] 0 [] (m_Board_pinsIn b σ x1) := by
  unfold m_Board_pinsIn
  refine s_iconst C e_Board_pinsIn_0 (v := (0 : Int32)) ic_0 ?_
  refine s_istore_n C e_Board_pinsIn_1 (by decide) ?_
  refine s_iconst C e_Board_pinsIn_2 (v := (0 : Int32)) ic_0 ?_
  refine s_istore_n C e_Board_pinsIn_3 (by decide) ?_
  exact s_cut (w_Board_pinsIn_L4 C hb FU _ _ _ _) ⟨rfl, rfl, rfl, rfl, trivial⟩
theorem c_Board_pinsIn {l : Launch} {D : va_G} {k : Nat → ClassId} {q : Nat → Nat} (hq : Inj ZX q) {b : Nat} (hb : isB b) (σ : St) (x1 : Int32) : Ct l ZX D k q yX1_pinsIn cX1_pinsIn 4 (some .int) 1 21 [.ref (q b), .int x1] σ (m_Board_pinsIn b σ x1) :=
  Ct_of hq lcX (by decide) (Nat.le_of_ble_eq_true rfl) (fun _ _ _ _ _ _ _ _ _ _ C => w_Board_pinsIn C hb σ x1)
set_option maxRecDepth 100000 in
theorem w_I_bitCount {X : CX} {Z : Sh} (C : Cx X Z RJ6 cJ6_bitCount_0f7a4 1 (some .int) 0 0)  (σ : St) (x0 : Int32) : Sm X Z 1 (some .int) σ [(0, .int x0)] 0 [] (m_I_bitCount σ x0) := by
  unfold m_I_bitCount
  refine s_iload_n C e_I_bitCount_0 rfl ?_
  refine s_iload_n C e_I_bitCount_1 rfl ?_
  refine s_iconst C e_I_bitCount_2 (v := (1 : Int32)) ic_1 ?_
  refine s_iushr C e_I_bitCount_3 ?_
  refine s_ldcw C e_I_bitCount_4 g_183 ?_
  refine s_iand C e_I_bitCount_7 ?_
  refine s_isub C e_I_bitCount_8 ?_
  refine s_nm (fun y1 => ?_)
  refine s_istore_n C e_I_bitCount_9 (by decide) ?_
  refine s_iload_n C e_I_bitCount_10 rfl ?_
  refine s_ldcw C e_I_bitCount_11 g_184 ?_
  refine s_iand C e_I_bitCount_14 ?_
  refine s_iload_n C e_I_bitCount_15 rfl ?_
  refine s_iconst C e_I_bitCount_16 (v := (2 : Int32)) ic_2 ?_
  refine s_iushr C e_I_bitCount_17 ?_
  refine s_ldcw C e_I_bitCount_18 g_184 ?_
  refine s_iand C e_I_bitCount_21 ?_
  refine s_iadd C e_I_bitCount_22 ?_
  refine s_nm (fun y2 => ?_)
  refine s_istore_n C e_I_bitCount_23 (by decide) ?_
  refine s_iload_n C e_I_bitCount_24 rfl ?_
  refine s_iload_n C e_I_bitCount_25 rfl ?_
  refine s_iconst C e_I_bitCount_26 (v := (4 : Int32)) ic_4 ?_
  refine s_iushr C e_I_bitCount_27 ?_
  refine s_iadd C e_I_bitCount_28 ?_
  refine s_ldcw C e_I_bitCount_29 g_185 ?_
  refine s_iand C e_I_bitCount_32 ?_
  refine s_nm (fun y3 => ?_)
  refine s_istore_n C e_I_bitCount_33 (by decide) ?_
  refine s_iload_n C e_I_bitCount_34 rfl ?_
  refine s_iload_n C e_I_bitCount_35 rfl ?_
  refine s_bipush C e_I_bitCount_36 (v := (8 : Int32)) bp_8 ?_
  refine s_iushr C e_I_bitCount_38 ?_
  refine s_iadd C e_I_bitCount_39 ?_
  refine s_nm (fun y4 => ?_)
  refine s_istore_n C e_I_bitCount_40 (by decide) ?_
  refine s_iload_n C e_I_bitCount_41 rfl ?_
  refine s_iload_n C e_I_bitCount_42 rfl ?_
  refine s_bipush C e_I_bitCount_43 (v := (16 : Int32)) bp_16 ?_
  refine s_iushr C e_I_bitCount_45 ?_
  refine s_iadd C e_I_bitCount_46 ?_
  refine s_nm (fun y5 => ?_)
  refine s_istore_n C e_I_bitCount_47 (by decide) ?_
  refine s_iload_n C e_I_bitCount_48 rfl ?_
  refine s_bipush C e_I_bitCount_49 (v := (63 : Int32)) bp_63 ?_
  refine s_iand C e_I_bitCount_51 ?_
  exact s_iret C e_I_bitCount_52
theorem c_I_bitCount {l : Launch} {Z : Sh} {D : va_G} {k : Nat → ClassId} {q : Nat → Nat} (hq : Inj Z q) (hL : Lc Z) (σ : St) (x0 : Int32) : Ct l Z D k q yJ6_bitCount_0f7a4 cJ6_bitCount_0f7a4 1 (some .int) 0 0 [.int x0] σ (m_I_bitCount σ x0) :=
  Ct_of hq hL (by decide) (Nat.le_of_ble_eq_true rfl) (fun _ _ _ _ _ _ _ _ _ _ C => w_I_bitCount C σ x0)
set_option maxRecDepth 100000 in
theorem w_Board_worth {X : CX} (C : Cx X ZX RX1 cX1_worth 3 (some .int) 1 22) {b : Nat} (hb : isB b) (σ : St) (x1 : Int32) (x2 : Int32) : Sm X ZX 3 (some .int) σ [(0, .ref (cq X b)), (1, .int x1), (2, .int x2)] 0 [] (m_Board_worth b σ x1 x2) := by
  unfold m_Board_worth
  refine s_iload_n C e_Board_worth_0 rfl ?_
  refine s_iconst C e_Board_worth_1 (v := (0 : Int32)) ic_0 ?_
  refine s_aload_n C e_Board_worth_2 rfl ?_
  refine s_get C fc_1 (zb_lt hb) (zb hb _ _ _) 0 (by decide) e_Board_worth_3 g_58 rfl ?_
  refine s_iconst C e_Board_worth_6 (v := (1 : Int32)) ic_1 ?_
  refine s_isub C e_Board_worth_7 ?_
  refine s_callN_3 C (c_P_within C.inj _ _ _ _) wv_P_within g_186 ⟨by decide, by decide⟩ rfl (Nat.le_of_ble_eq_true rfl) e_Board_worth_8 (fun v1 σ2 => ?_)
  refine s_if_eq (tgt := 30) C e_Board_worth_11 rfl ?_ ?_
  · refine s_iconst C e_Board_worth_30 (v := (0 : Int32)) ic_0 ?_
    exact s_iret C e_Board_worth_31
  · refine s_aload_n C e_Board_worth_14 rfl ?_
    refine s_get C fc_1 (zb_lt hb) (zb hb _ _ _) 8 (by decide) e_Board_worth_15 g_135 rfl ?_
    refine s_iload_n C e_Board_worth_18 rfl ?_
    refine s_iald C (zb3_lt hb) (zb3 hb) e_Board_worth_19 ?_
    refine s_aload_n C e_Board_worth_20 rfl ?_
    refine s_get C fc_1 (zb_lt hb) (zb hb _ _ _) 6 (by decide) e_Board_worth_21 g_133 rfl ?_
    refine s_iload_n C e_Board_worth_24 rfl ?_
    refine s_iald C (zb1_lt hb) (zb1 hb) e_Board_worth_25 ?_
    refine s_imul C e_Board_worth_26 ?_
    refine s_goto (tgt := 31) C e_Board_worth_27 rfl ?_
    exact s_iret C e_Board_worth_31
theorem c_Board_worth {l : Launch} {D : va_G} {k : Nat → ClassId} {q : Nat → Nat} (hq : Inj ZX q) {b : Nat} (hb : isB b) (σ : St) (x1 : Int32) (x2 : Int32) : Ct l ZX D k q yX1_worth cX1_worth 3 (some .int) 1 22 [.ref (q b), .int x1, .int x2] σ (m_Board_worth b σ x1 x2) :=
  Ct_of hq lcX (by decide) (Nat.le_of_ble_eq_true rfl) (fun _ _ _ _ _ _ _ _ _ _ C => w_Board_worth C hb σ x1 x2)
set_option maxRecDepth 100000 in
theorem w_Board_yieldOfAll_B48 {X : CX} (C : Cx X ZX RX1 cX1_yieldOfAll 4 (some .int) 2 44) {b : Nat} (hb : isB b) (r4 : St → Int32 → Int32 → Rt) (hr4 : ∀ (σ : St) (x1 : Int32) (x2 : Int32), Sm X ZX 4 (some .int) σ [(0, .ref (cq X b)), (1, .int x1), (2, .int x2)] 4 [] (r4 σ x1 x2)) (σ : St) (x2 : Int32) (s0 : Int32) (s1 : Int32) : Sm X ZX 4 (some .int) σ [(0, .ref (cq X b)), (2, .int x2)] 48 [.int s0, .int s1] (m_Board_yieldOfAll_B48 b r4 σ x2 s0 s1) := by
  unfold m_Board_yieldOfAll_B48
  refine s_iadd C e_Board_yieldOfAll_48 ?_
  refine s_nm (fun y1 => ?_)
  refine s_istore_n C e_Board_yieldOfAll_49 (by decide) ?_
  refine s_iinc C e_Board_yieldOfAll_50 (v := (1 : Int32)) rfl (by decide) ii_1 ?_
  refine s_goto (tgt := 4) C e_Board_yieldOfAll_53 rfl ?_
  exact s_cut (hr4 _ _ _) ⟨rfl, rfl, rfl, trivial⟩
set_option maxRecDepth 100000 in
theorem w_Board_yieldOfAll_B4 {X : CX} (C : Cx X ZX RX1 cX1_yieldOfAll 4 (some .int) 2 44) {b : Nat} (hb : isB b) (r4 : St → Int32 → Int32 → Rt) (hr4 : ∀ (σ : St) (x1 : Int32) (x2 : Int32), Sm X ZX 4 (some .int) σ [(0, .ref (cq X b)), (1, .int x1), (2, .int x2)] 4 [] (r4 σ x1 x2)) (σ : St) (x1 : Int32) (x2 : Int32) : Sm X ZX 4 (some .int) σ [(0, .ref (cq X b)), (1, .int x1), (2, .int x2)] 4 [] (m_Board_yieldOfAll_B4 b r4 σ x1 x2) := by
  unfold m_Board_yieldOfAll_B4
  refine s_iload_n C e_Board_yieldOfAll_4 rfl ?_
  refine s_aload_n C e_Board_yieldOfAll_5 rfl ?_
  refine s_get C fc_1 (zb_lt hb) (zb hb _ _ _) 1 (by decide) e_Board_yieldOfAll_6 g_59 rfl ?_
  refine s_icmp_ge (tgt := 56) C e_Board_yieldOfAll_9 rfl ?_ ?_
  · refine s_iload_n C e_Board_yieldOfAll_56 rfl ?_
    exact s_iret C e_Board_yieldOfAll_57
  · refine s_aload_n C e_Board_yieldOfAll_12 rfl ?_
    refine s_aload_n C e_Board_yieldOfAll_13 rfl ?_
    refine s_get C fc_1 (zb_lt hb) (zb hb _ _ _) 11 (by decide) e_Board_yieldOfAll_14 g_138 rfl ?_
    refine s_iload_n C e_Board_yieldOfAll_17 rfl ?_
    refine s_iald C (zb6_lt hb) (zb6 hb) e_Board_yieldOfAll_18 ?_
    refine s_callV_1 C (c_Board_pinsIn C.inj hb _ _) wv_Board_pinsIn g_195 ⟨by decide, by decide⟩ fc_1 rfl (zb_lt hb) (zb hb _ _ _) rfl (Nat.le_of_ble_eq_true rfl) e_Board_yieldOfAll_19 (fun v1 σ2 => ?_)
    refine s_callS_1 C (c_I_bitCount C.inj C.lc _ _) wv_I_bitCount g_191 ⟨by decide, by decide⟩ rfl (Nat.le_of_ble_eq_true rfl) e_Board_yieldOfAll_22 (fun v3 σ4 => ?_)
    refine s_istore_n C e_Board_yieldOfAll_25 (by decide) ?_
    refine s_iload_n C e_Board_yieldOfAll_26 rfl ?_
    refine s_iload_n C e_Board_yieldOfAll_27 rfl ?_
    refine s_if_le (tgt := 47) C e_Board_yieldOfAll_28 rfl ?_ ?_
    · refine s_iconst C e_Board_yieldOfAll_47 (v := (0 : Int32)) ic_0 ?_
      exact s_cut (w_Board_yieldOfAll_B48 C hb r4 hr4 _ _ _ _) ⟨rfl, rfl, trivial⟩
    · refine s_aload_n C e_Board_yieldOfAll_31 rfl ?_
      refine s_iload_n C e_Board_yieldOfAll_32 rfl ?_
      refine s_aload_n C e_Board_yieldOfAll_33 rfl ?_
      refine s_get C fc_1 (zb_lt hb) (zb hb _ _ _) 11 (by decide) e_Board_yieldOfAll_34 g_138 rfl ?_
      refine s_iload_n C e_Board_yieldOfAll_37 rfl ?_
      refine s_iald C (zb6_lt hb) (zb6 hb) e_Board_yieldOfAll_38 ?_
      refine s_callV_2 C (c_Board_worth C.inj hb _ _ _) wv_Board_worth g_187 ⟨by decide, by decide⟩ fc_1 rfl (zb_lt hb) (zb hb _ _ _) rfl (Nat.le_of_ble_eq_true rfl) e_Board_yieldOfAll_39 (fun v5 σ6 => ?_)
      refine s_iload_n C e_Board_yieldOfAll_42 rfl ?_
      refine s_idiv C e_Board_yieldOfAll_43 ?_
      refine s_goto (tgt := 48) C e_Board_yieldOfAll_44 rfl ?_
      exact s_cut (w_Board_yieldOfAll_B48 C hb r4 hr4 _ _ _ _) ⟨rfl, rfl, trivial⟩
theorem w_Board_yieldOfAll_L4 {X : CX} (C : Cx X ZX RX1 cX1_yieldOfAll 4 (some .int) 2 44) {b : Nat} (hb : isB b)  : ∀ (n : Nat) (σ : St) (x1 : Int32) (x2 : Int32), Sm X ZX 4 (some .int) σ [(0, .ref (cq X b)), (1, .int x1), (2, .int x2)] 4 [] (m_Board_yieldOfAll_L4 b n σ x1 x2)
  | 0, _, _, _ => s_none
  | n + 1, σ, x1, x2 => w_Board_yieldOfAll_B4 C hb (m_Board_yieldOfAll_L4 b n) (w_Board_yieldOfAll_L4 C hb n) σ x1 x2
set_option maxRecDepth 100000 in
theorem w_Board_yieldOfAll {X : CX} (C : Cx X ZX RX1 cX1_yieldOfAll 4 (some .int) 2 44) {b : Nat} (hb : isB b) (σ : St)  : Sm X ZX 4 (some .int) σ [(0, .ref (cq X b))] 0 [] (m_Board_yieldOfAll b σ) := by
  unfold m_Board_yieldOfAll
  refine s_iconst C e_Board_yieldOfAll_0 (v := (0 : Int32)) ic_0 ?_
  refine s_istore_n C e_Board_yieldOfAll_1 (by decide) ?_
  refine s_iconst C e_Board_yieldOfAll_2 (v := (0 : Int32)) ic_0 ?_
  refine s_istore_n C e_Board_yieldOfAll_3 (by decide) ?_
  exact s_cut (w_Board_yieldOfAll_L4 C hb FU _ _ _) ⟨rfl, rfl, rfl, trivial⟩
theorem c_Board_yieldOfAll {l : Launch} {D : va_G} {k : Nat → ClassId} {q : Nat → Nat} (hq : Inj ZX q) {b : Nat} (hb : isB b) (σ : St)  : Ct l ZX D k q yX1_yieldOfAll cX1_yieldOfAll 4 (some .int) 2 44 [.ref (q b)] σ (m_Board_yieldOfAll b σ) :=
  Ct_of hq lcX (by decide) (Nat.le_of_ble_eq_true rfl) (fun _ _ _ _ _ _ _ _ _ _ C => w_Board_yieldOfAll C hb σ)
set_option maxRecDepth 100000 in
theorem w_Board_openAndWork {X : CX} (C : Cx X ZX RX1 cX1_openAndWork 1 none 3 67) {b : Nat} (hb : isB b) (σ : St)  : Sm X ZX 1 none σ [(0, .ref (cq X b))] 0 [] (m_Board_openAndWork b σ) := by
  unfold m_Board_openAndWork
  refine s_aload_n C e_Board_openAndWork_0 rfl ?_
  refine s_iconst C e_Board_openAndWork_1 (v := (0 : Int32)) ic_0 ?_
  refine s_callVv_1 C (c_Board_open C.inj hb _ _) wv_Board_open g_205 ⟨by decide, by decide⟩ fc_1 rfl (zb_lt hb) (zb hb _ _ _) rfl (Nat.le_of_ble_eq_true rfl) e_Board_openAndWork_2 (fun v1 σ2 => ?_)
  refine s_aload_n C e_Board_openAndWork_5 rfl ?_
  refine s_ldc C e_Board_openAndWork_6 g_199 ?_
  refine s_aload_n C e_Board_openAndWork_8 rfl ?_
  refine s_get C fc_1 (zb_lt hb) (zb hb _ _ _) 4 (by decide) e_Board_openAndWork_9 g_62 rfl ?_
  refine s_aload_n C e_Board_openAndWork_12 rfl ?_
  refine s_callV_0 C (c_Board_yieldOfAll C.inj hb _) wv_Board_yieldOfAll g_201 ⟨by decide, by decide⟩ fc_1 rfl (zb_lt hb) (zb hb _ _ _) rfl (Nat.le_of_ble_eq_true rfl) e_Board_openAndWork_13 (fun v3 σ4 => ?_)
  refine s_iadd C e_Board_openAndWork_16 ?_
  refine s_mmin C g_200 ws_min ⟨Nat.le_of_ble_eq_true rfl, Nat.le_of_ble_eq_true rfl⟩ e_Board_openAndWork_17 ?_
  refine s_put C fc_1 (zb_lt hb) (zb hb _ _ _) 4 (by decide) (zbp_4 hb _ _ _ _) (Nat.le_of_ble_eq_true rfl) e_Board_openAndWork_20 g_62 rfl rfl (fun σ5 => ?_)
  exact s_vret C e_Board_openAndWork_23
theorem c_Board_openAndWork {l : Launch} {D : va_G} {k : Nat → ClassId} {q : Nat → Nat} (hq : Inj ZX q) {b : Nat} (hb : isB b) (σ : St)  : Ct l ZX D k q yX1_openAndWork cX1_openAndWork 1 none 3 67 [.ref (q b)] σ (m_Board_openAndWork b σ) :=
  Ct_of hq lcX (by decide) (Nat.le_of_ble_eq_true rfl) (fun _ _ _ _ _ _ _ _ _ _ C => w_Board_openAndWork C hb σ)
set_option maxRecDepth 100000 in
theorem w_Board_turn_B19 {X : CX} (C : Cx X ZX RX1 cX1_turn 1 none 4 87) {b : Nat} (hb : isB b)  (σ : St)  : Sm X ZX 1 none σ [(0, .ref (cq X b))] 19 [] (m_Board_turn_B19 b σ) := by
  unfold m_Board_turn_B19
  refine s_aload_n C e_Board_turn_19 rfl ?_
  refine s_dup C e_Board_turn_20 rfl ?_
  refine s_get C fc_1 (zb_lt hb) (zb hb _ _ _) 3 (by decide) e_Board_turn_21 g_61 rfl ?_
  refine s_iconst C e_Board_turn_24 (v := (1 : Int32)) ic_1 ?_
  refine s_iadd C e_Board_turn_25 ?_
  refine s_put C fc_1 (zb_lt hb) (zb hb _ _ _) 3 (by decide) (zbp_3 hb _ _ _ _) (Nat.le_of_ble_eq_true rfl) e_Board_turn_26 g_61 rfl rfl (fun σ1 => ?_)
  exact s_vret C e_Board_turn_29
set_option maxRecDepth 100000 in
theorem w_Board_turn {X : CX} (C : Cx X ZX RX1 cX1_turn 1 none 4 87) {b : Nat} (hb : isB b) (σ : St)  : Sm X ZX 1 none σ [(0, .ref (cq X b))] 0 [] (m_Board_turn b σ) := by
  unfold m_Board_turn
  refine s_aload_n C e_Board_turn_0 rfl ?_
  refine s_get C fc_1 (zb_lt hb) (zb hb _ _ _) 5 (by decide) e_Board_turn_1 g_63 rfl ?_
  refine s_if_eq (tgt := 15) C e_Board_turn_4 rfl ?_ ?_
  · refine s_aload_n C e_Board_turn_15 rfl ?_
    refine s_callVv_0 C (c_Board_openAndWork C.inj hb _) wv_Board_openAndWork g_209 ⟨by decide, by decide⟩ fc_1 rfl (zb_lt hb) (zb hb _ _ _) rfl (Nat.le_of_ble_eq_true rfl) e_Board_turn_16 (fun v1 σ2 => ?_)
    exact s_cut (w_Board_turn_B19 C hb _) ⟨rfl, trivial⟩
  · refine s_aload_n C e_Board_turn_7 rfl ?_
    refine s_iconst C e_Board_turn_8 (v := (0 : Int32)) ic_0 ?_
    refine s_putZ C fc_1 (zb_lt hb) (zb hb _ _ _) 5 (by decide) (zbp_5 hb _ _ _ _) (Nat.le_of_ble_eq_true rfl) e_Board_turn_9 g_63 rfl rfl (fun σ3 => ?_)
    refine s_goto (tgt := 19) C e_Board_turn_12 rfl ?_
    exact s_cut (w_Board_turn_B19 C hb _) ⟨rfl, trivial⟩
theorem c_Board_turn {l : Launch} {D : va_G} {k : Nat → ClassId} {q : Nat → Nat} (hq : Inj ZX q) {b : Nat} (hb : isB b) (σ : St)  : Ct l ZX D k q yX1_turn cX1_turn 1 none 4 87 [.ref (q b)] σ (m_Board_turn b σ) :=
  Ct_of hq lcX (by decide) (Nat.le_of_ble_eq_true rfl) (fun _ _ _ _ _ _ _ _ _ _ C => w_Board_turn C hb σ)
set_option maxRecDepth 100000 in
theorem w_P_times_B75 {X : CX} (C : Cx X ZX RX6 cX6_times 3 (some .int) 5 107)   (σ : St)  : Sm X ZX 3 (some .int) σ [(0, .ref (cq X 0))] 75 [] (m_P_times_B75 σ) := by
  unfold m_P_times_B75
  refine s_aload_n C e_P_times_75 rfl ?_
  refine s_get C fc_6 zx_lt_0 (zx_0 _ _ _) 2 (by decide) e_P_times_76 g_142 rfl ?_
  refine s_get C fc_1 (zb_lt hb21) (zb hb21 _ _ _) 5 (by decide) e_P_times_79 g_227 rfl ?_
  refine s_if_eq (tgt := 89) C e_P_times_82 rfl ?_ ?_
  · refine s_iconst C e_P_times_89 (v := (0 : Int32)) ic_0 ?_
    exact s_iret C e_P_times_90
  · refine s_iconst C e_P_times_85 (v := (1 : Int32)) ic_1 ?_
    refine s_goto (tgt := 90) C e_P_times_86 rfl ?_
    exact s_iret C e_P_times_90
set_option maxRecDepth 100000 in
theorem w_P_times_B46 {X : CX} (C : Cx X ZX RX6 cX6_times 3 (some .int) 5 107)  (r46 : St → Int32 → Int32 → Rt) (hr46 : ∀ (σ : St) (x1 : Int32) (x2 : Int32), Sm X ZX 3 (some .int) σ [(0, .ref (cq X 0)), (1, .int x1), (2, .int x2)] 46 [] (r46 σ x1 x2)) (σ : St) (x1 : Int32) (x2 : Int32) : Sm X ZX 3 (some .int) σ [(0, .ref (cq X 0)), (1, .int x1), (2, .int x2)] 46 [] (m_P_times_B46 r46 σ x1 x2) := by
  unfold m_P_times_B46
  refine s_iload_n C e_P_times_46 rfl ?_
  refine s_iload_n C e_P_times_47 rfl ?_
  refine s_icmp_ge (tgt := 75) C e_P_times_48 rfl ?_ ?_
  · exact s_cut (w_P_times_B75 C _) ⟨rfl, trivial⟩
  · refine s_aload_n C e_P_times_51 rfl ?_
    refine s_get C fc_6 zx_lt_0 (zx_0 _ _ _) 4 (by decide) e_P_times_52 g_143 rfl ?_
    refine s_aload_n C e_P_times_55 rfl ?_
    refine s_get C fc_6 zx_lt_0 (zx_0 _ _ _) 2 (by decide) e_P_times_56 g_142 rfl ?_
    refine s_callVv_1 C (c_Past_keep C.inj hb21 _) wv_Past_keep g_223 ⟨by decide, by decide⟩ fc_3 rfl zx_lt_16 (zx_16 _ _ _) rfl (Nat.le_of_ble_eq_true rfl) e_P_times_59 (fun v1 σ2 => ?_)
    refine s_aload_n C e_P_times_62 rfl ?_
    refine s_get C fc_6 zx_lt_0 (zx_0 _ _ _) 2 (by decide) e_P_times_63 g_142 rfl ?_
    refine s_callVv_0 C (c_Board_turn C.inj hb21 _) wv_Board_turn g_219 ⟨by decide, by decide⟩ fc_1 rfl (zb_lt hb21) (zb hb21 _ _ _) rfl (Nat.le_of_ble_eq_true rfl) e_P_times_66 (fun v3 σ4 => ?_)
    refine s_iinc C e_P_times_69 (v := (1 : Int32)) rfl (by decide) ii_1 ?_
    refine s_goto (tgt := 46) C e_P_times_72 rfl ?_
    exact s_cut (hr46 _ _ _) ⟨rfl, rfl, rfl, trivial⟩
theorem w_P_times_L46 {X : CX} (C : Cx X ZX RX6 cX6_times 3 (some .int) 5 107)   : ∀ (n : Nat) (σ : St) (x1 : Int32) (x2 : Int32), Sm X ZX 3 (some .int) σ [(0, .ref (cq X 0)), (1, .int x1), (2, .int x2)] 46 [] (m_P_times_L46 n σ x1 x2)
  | 0, _, _, _ => s_none
  | n + 1, σ, x1, x2 => w_P_times_B46 C (m_P_times_L46 n) (w_P_times_L46 C n) σ x1 x2
set_option maxRecDepth 100000 in
theorem w_P_times {X : CX} (C : Cx X ZX RX6 cX6_times 3 (some .int) 5 107)  (σ : St) (x1 : Int32) : Sm X ZX 3 (some .int) σ [(0, .ref (cq X 0)), (1, .int x1)] 0 [] (m_P_times σ x1) := by
  unfold m_P_times
  refine s_aload_n C e_P_times_0 rfl ?_
  refine s_get C fc_6 zx_lt_0 (zx_0 _ _ _) 2 (by decide) e_P_times_1 g_142 rfl ?_
  refine s_callV_0 C (c_Board_stands C.inj hb21 _) wv_Board_stands g_215 ⟨by decide, by decide⟩ fc_1 rfl (zb_lt hb21) (zb hb21 _ _ _) rfl (Nat.le_of_ble_eq_true rfl) e_P_times_4 (fun v1 σ2 => ?_)
  refine s_if_ne (tgt := 13) C e_P_times_7 rfl ?_ ?_
  · refine s_ldc C e_P_times_10 g_214 ?_
    exact s_iret C e_P_times_12
  · refine s_iload_n C e_P_times_13 rfl ?_
    refine s_iconst C e_P_times_14 (v := (1 : Int32)) ic_1 ?_
    refine s_bipush C e_P_times_15 (v := (24 : Int32)) bp_24 ?_
    refine s_callS_3 C (c_P_within C.inj _ _ _ _) wv_P_within g_24 ⟨by decide, by decide⟩ rfl (Nat.le_of_ble_eq_true rfl) e_P_times_17 (fun v3 σ4 => ?_)
    refine s_if_ne (tgt := 26) C e_P_times_20 rfl ?_ ?_
    · refine s_ldc C e_P_times_23 g_10 ?_
      exact s_iret C e_P_times_25
    · refine s_aload_n C e_P_times_26 rfl ?_
      refine s_get C fc_6 zx_lt_0 (zx_0 _ _ _) 2 (by decide) e_P_times_27 g_142 rfl ?_
      refine s_get C fc_1 (zb_lt hb21) (zb hb21 _ _ _) 3 (by decide) e_P_times_30 g_213 rfl ?_
      refine s_iload_n C e_P_times_33 rfl ?_
      refine s_iadd C e_P_times_34 ?_
      refine s_sipush C e_P_times_35 (v := (9999 : Int32)) sp_9999 ?_
      refine s_icmp_le (tgt := 44) C e_P_times_38 rfl ?_ ?_
      · refine s_iconst C e_P_times_44 (v := (0 : Int32)) ic_0 ?_
        refine s_istore_n C e_P_times_45 (by decide) ?_
        exact s_cut (w_P_times_L46 C FU _ _ _) ⟨rfl, rfl, rfl, trivial⟩
      · refine s_ldc C e_P_times_41 g_57 ?_
        exact s_iret C e_P_times_43
theorem c_P_times {l : Launch} {D : va_G} {k : Nat → ClassId} {q : Nat → Nat} (hq : Inj ZX q)  (σ : St) (x1 : Int32) : Ct l ZX D k q yX6_times cX6_times 3 (some .int) 5 107 [.ref (q 0), .int x1] σ (m_P_times σ x1) :=
  Ct_of hq lcX (by decide) (Nat.le_of_ble_eq_true rfl) (fun _ _ _ _ _ _ _ _ _ _ C => w_P_times C σ x1)
set_option maxRecDepth 100000 in
theorem w_Board_hasPin {X : CX} (C : Cx X ZX RX1 cX1_hasPin 2 (some .boolean) 1 22) {b : Nat} (hb : isB b) (σ : St) (x1 : Int32) : Sm X ZX 2 (some .boolean) σ [(0, .ref (cq X b)), (1, .int x1)] 0 [] (m_Board_hasPin b σ x1) := by
  unfold m_Board_hasPin
  refine s_iload_n C e_Board_hasPin_0 rfl ?_
  refine s_iconst C e_Board_hasPin_1 (v := (0 : Int32)) ic_0 ?_
  refine s_aload_n C e_Board_hasPin_2 rfl ?_
  refine s_get C fc_1 (zb_lt hb) (zb hb _ _ _) 1 (by decide) e_Board_hasPin_3 g_59 rfl ?_
  refine s_iconst C e_Board_hasPin_6 (v := (1 : Int32)) ic_1 ?_
  refine s_isub C e_Board_hasPin_7 ?_
  refine s_callN_3 C (c_P_within C.inj _ _ _ _) wv_P_within g_186 ⟨by decide, by decide⟩ rfl (Nat.le_of_ble_eq_true rfl) e_Board_hasPin_8 (fun v1 σ2 => ?_)
  exact s_zret C e_Board_hasPin_11
theorem c_Board_hasPin {l : Launch} {D : va_G} {k : Nat → ClassId} {q : Nat → Nat} (hq : Inj ZX q) {b : Nat} (hb : isB b) (σ : St) (x1 : Int32) : Ct l ZX D k q yX1_hasPin cX1_hasPin 2 (some .boolean) 1 22 [.ref (q b), .int x1] σ (m_Board_hasPin b σ x1) :=
  Ct_of hq lcX (by decide) (Nat.le_of_ble_eq_true rfl) (fun _ _ _ _ _ _ _ _ _ _ C => w_Board_hasPin C hb σ x1)
set_option maxRecDepth 100000 in
theorem w_Board_hasCell {X : CX} (C : Cx X ZX RX1 cX1_hasCell 2 (some .boolean) 1 22) {b : Nat} (hb : isB b) (σ : St) (x1 : Int32) : Sm X ZX 2 (some .boolean) σ [(0, .ref (cq X b)), (1, .int x1)] 0 [] (m_Board_hasCell b σ x1) := by
  unfold m_Board_hasCell
  refine s_iload_n C e_Board_hasCell_0 rfl ?_
  refine s_iconst C e_Board_hasCell_1 (v := (0 : Int32)) ic_0 ?_
  refine s_aload_n C e_Board_hasCell_2 rfl ?_
  refine s_get C fc_1 (zb_lt hb) (zb hb _ _ _) 0 (by decide) e_Board_hasCell_3 g_58 rfl ?_
  refine s_iconst C e_Board_hasCell_6 (v := (1 : Int32)) ic_1 ?_
  refine s_isub C e_Board_hasCell_7 ?_
  refine s_callN_3 C (c_P_within C.inj _ _ _ _) wv_P_within g_186 ⟨by decide, by decide⟩ rfl (Nat.le_of_ble_eq_true rfl) e_Board_hasCell_8 (fun v1 σ2 => ?_)
  exact s_zret C e_Board_hasCell_11
theorem c_Board_hasCell {l : Launch} {D : va_G} {k : Nat → ClassId} {q : Nat → Nat} (hq : Inj ZX q) {b : Nat} (hb : isB b) (σ : St) (x1 : Int32) : Ct l ZX D k q yX1_hasCell cX1_hasCell 2 (some .boolean) 1 22 [.ref (q b), .int x1] σ (m_Board_hasCell b σ x1) :=
  Ct_of hq lcX (by decide) (Nat.le_of_ble_eq_true rfl) (fun _ _ _ _ _ _ _ _ _ _ C => w_Board_hasCell C hb σ x1)
set_option maxRecDepth 100000 in
theorem w_P_move {X : CX} (C : Cx X ZX RX6 cX6_move 4 (some .int) 3 68)  (σ : St) (x1 : Int32) (x2 : Int32) : Sm X ZX 4 (some .int) σ [(0, .ref (cq X 0)), (1, .int x1), (2, .int x2)] 0 [] (m_P_move σ x1 x2) := by
  unfold m_P_move
  refine s_aload_n C e_P_move_0 rfl ?_
  refine s_get C fc_6 zx_lt_0 (zx_0 _ _ _) 2 (by decide) e_P_move_1 g_142 rfl ?_
  refine s_iload_n C e_P_move_4 rfl ?_
  refine s_callV_1 C (c_Board_hasPin C.inj hb21 _ _) wv_Board_hasPin g_233 ⟨by decide, by decide⟩ fc_1 rfl (zb_lt hb21) (zb hb21 _ _ _) rfl (Nat.le_of_ble_eq_true rfl) e_P_move_5 (fun v1 σ2 => ?_)
  refine s_if_eq (tgt := 22) C e_P_move_8 rfl ?_ ?_
  · refine s_ldc C e_P_move_22 g_10 ?_
    exact s_iret C e_P_move_24
  · refine s_aload_n C e_P_move_11 rfl ?_
    refine s_get C fc_6 zx_lt_0 (zx_0 _ _ _) 2 (by decide) e_P_move_12 g_142 rfl ?_
    refine s_iload_n C e_P_move_15 rfl ?_
    refine s_callV_1 C (c_Board_hasCell C.inj hb21 _ _) wv_Board_hasCell g_229 ⟨by decide, by decide⟩ fc_1 rfl (zb_lt hb21) (zb hb21 _ _ _) rfl (Nat.le_of_ble_eq_true rfl) e_P_move_16 (fun v3 σ4 => ?_)
    refine s_if_ne (tgt := 25) C e_P_move_19 rfl ?_ ?_
    · refine s_ldc C e_P_move_22 g_10 ?_
      exact s_iret C e_P_move_24
    · refine s_aload_n C e_P_move_25 rfl ?_
      refine s_get C fc_6 zx_lt_0 (zx_0 _ _ _) 2 (by decide) e_P_move_26 g_142 rfl ?_
      refine s_get C fc_1 (zb_lt hb21) (zb hb21 _ _ _) 5 (by decide) e_P_move_29 g_227 rfl ?_
      refine s_if_eq (tgt := 48) C e_P_move_32 rfl ?_ ?_
      · refine s_ldc C e_P_move_48 g_214 ?_
        exact s_iret C e_P_move_50
      · refine s_aload_n C e_P_move_35 rfl ?_
        refine s_get C fc_6 zx_lt_0 (zx_0 _ _ _) 2 (by decide) e_P_move_36 g_142 rfl ?_
        refine s_get C fc_1 (zb_lt hb21) (zb hb21 _ _ _) 11 (by decide) e_P_move_39 g_228 rfl ?_
        refine s_iload_n C e_P_move_42 rfl ?_
        refine s_iald C (zb6_lt hb21) (zb6 hb21) e_P_move_43 ?_
        refine s_iload_n C e_P_move_44 rfl ?_
        refine s_icmp_ne (tgt := 51) C e_P_move_45 rfl ?_ ?_
        · refine s_ldc C e_P_move_48 g_214 ?_
          exact s_iret C e_P_move_50
        · refine s_aload_n C e_P_move_51 rfl ?_
          refine s_get C fc_6 zx_lt_0 (zx_0 _ _ _) 4 (by decide) e_P_move_52 g_143 rfl ?_
          refine s_aload_n C e_P_move_55 rfl ?_
          refine s_get C fc_6 zx_lt_0 (zx_0 _ _ _) 2 (by decide) e_P_move_56 g_142 rfl ?_
          refine s_callVv_1 C (c_Past_keep C.inj hb21 _) wv_Past_keep g_223 ⟨by decide, by decide⟩ fc_3 rfl zx_lt_16 (zx_16 _ _ _) rfl (Nat.le_of_ble_eq_true rfl) e_P_move_59 (fun v5 σ6 => ?_)
          refine s_aload_n C e_P_move_62 rfl ?_
          refine s_get C fc_6 zx_lt_0 (zx_0 _ _ _) 2 (by decide) e_P_move_63 g_142 rfl ?_
          refine s_get C fc_1 (zb_lt hb21) (zb hb21 _ _ _) 11 (by decide) e_P_move_66 g_228 rfl ?_
          refine s_iload_n C e_P_move_69 rfl ?_
          refine s_iald C (zb6_lt hb21) (zb6 hb21) e_P_move_70 ?_
          refine s_nm (fun y7 => ?_)
          refine s_istore_n C e_P_move_71 (by decide) ?_
          refine s_aload_n C e_P_move_72 rfl ?_
          refine s_get C fc_6 zx_lt_0 (zx_0 _ _ _) 2 (by decide) e_P_move_73 g_142 rfl ?_
          refine s_get C fc_1 (zb_lt hb21) (zb hb21 _ _ _) 11 (by decide) e_P_move_76 g_228 rfl ?_
          refine s_iload_n C e_P_move_79 rfl ?_
          refine s_iload_n C e_P_move_80 rfl ?_
          refine s_iast C (zb6_lt hb21) (zb6 hb21) e_P_move_81 (fun σ8 => ?_)
          refine s_iload_n C e_P_move_82 rfl ?_
          exact s_iret C e_P_move_83
theorem c_P_move {l : Launch} {D : va_G} {k : Nat → ClassId} {q : Nat → Nat} (hq : Inj ZX q)  (σ : St) (x1 : Int32) (x2 : Int32) : Ct l ZX D k q yX6_move cX6_move 4 (some .int) 3 68 [.ref (q 0), .int x1, .int x2] σ (m_P_move σ x1 x2) :=
  Ct_of hq lcX (by decide) (Nat.le_of_ble_eq_true rfl) (fun _ _ _ _ _ _ _ _ _ _ C => w_P_move C σ x1 x2)
set_option maxRecDepth 100000 in
theorem w_P_swap {X : CX} (C : Cx X ZX RX6 cX6_swap 3 (some .int) 3 68)  (σ : St) (x1 : Int32) (x2 : Int32) : Sm X ZX 3 (some .int) σ [(0, .ref (cq X 0)), (1, .int x1), (2, .int x2)] 0 [] (m_P_swap σ x1 x2) := by
  unfold m_P_swap
  refine s_aload_n C e_P_swap_0 rfl ?_
  refine s_get C fc_6 zx_lt_0 (zx_0 _ _ _) 2 (by decide) e_P_swap_1 g_142 rfl ?_
  refine s_iload_n C e_P_swap_4 rfl ?_
  refine s_callV_1 C (c_Board_hasPin C.inj hb21 _ _) wv_Board_hasPin g_233 ⟨by decide, by decide⟩ fc_1 rfl (zb_lt hb21) (zb hb21 _ _ _) rfl (Nat.le_of_ble_eq_true rfl) e_P_swap_5 (fun v1 σ2 => ?_)
  refine s_if_eq (tgt := 27) C e_P_swap_8 rfl ?_ ?_
  · refine s_ldc C e_P_swap_27 g_10 ?_
    exact s_iret C e_P_swap_29
  · refine s_aload_n C e_P_swap_11 rfl ?_
    refine s_get C fc_6 zx_lt_0 (zx_0 _ _ _) 2 (by decide) e_P_swap_12 g_142 rfl ?_
    refine s_iload_n C e_P_swap_15 rfl ?_
    refine s_callV_1 C (c_Board_hasPin C.inj hb21 _ _) wv_Board_hasPin g_233 ⟨by decide, by decide⟩ fc_1 rfl (zb_lt hb21) (zb hb21 _ _ _) rfl (Nat.le_of_ble_eq_true rfl) e_P_swap_16 (fun v3 σ4 => ?_)
    refine s_if_eq (tgt := 27) C e_P_swap_19 rfl ?_ ?_
    · refine s_ldc C e_P_swap_27 g_10 ?_
      exact s_iret C e_P_swap_29
    · refine s_iload_n C e_P_swap_22 rfl ?_
      refine s_iload_n C e_P_swap_23 rfl ?_
      refine s_icmp_ne (tgt := 30) C e_P_swap_24 rfl ?_ ?_
      · refine s_ldc C e_P_swap_27 g_10 ?_
        exact s_iret C e_P_swap_29
      · refine s_aload_n C e_P_swap_30 rfl ?_
        refine s_get C fc_6 zx_lt_0 (zx_0 _ _ _) 2 (by decide) e_P_swap_31 g_142 rfl ?_
        refine s_get C fc_1 (zb_lt hb21) (zb hb21 _ _ _) 5 (by decide) e_P_swap_34 g_227 rfl ?_
        refine s_if_ne (tgt := 43) C e_P_swap_37 rfl ?_ ?_
        · refine s_ldc C e_P_swap_40 g_214 ?_
          exact s_iret C e_P_swap_42
        · refine s_aload_n C e_P_swap_43 rfl ?_
          refine s_get C fc_6 zx_lt_0 (zx_0 _ _ _) 4 (by decide) e_P_swap_44 g_143 rfl ?_
          refine s_aload_n C e_P_swap_47 rfl ?_
          refine s_get C fc_6 zx_lt_0 (zx_0 _ _ _) 2 (by decide) e_P_swap_48 g_142 rfl ?_
          refine s_callVv_1 C (c_Past_keep C.inj hb21 _) wv_Past_keep g_223 ⟨by decide, by decide⟩ fc_3 rfl zx_lt_16 (zx_16 _ _ _) rfl (Nat.le_of_ble_eq_true rfl) e_P_swap_51 (fun v5 σ6 => ?_)
          refine s_aload_n C e_P_swap_54 rfl ?_
          refine s_get C fc_6 zx_lt_0 (zx_0 _ _ _) 2 (by decide) e_P_swap_55 g_142 rfl ?_
          refine s_iload_n C e_P_swap_58 rfl ?_
          refine s_iload_n C e_P_swap_59 rfl ?_
          refine s_callVv_2 C (c_Board_change C.inj hb21 _ _ _) wv_Board_change g_237 ⟨by decide, by decide⟩ fc_1 rfl (zb_lt hb21) (zb hb21 _ _ _) rfl (Nat.le_of_ble_eq_true rfl) e_P_swap_60 (fun v7 σ8 => ?_)
          refine s_aload_n C e_P_swap_63 rfl ?_
          refine s_get C fc_6 zx_lt_0 (zx_0 _ _ _) 2 (by decide) e_P_swap_64 g_142 rfl ?_
          refine s_get C fc_1 (zb_lt hb21) (zb hb21 _ _ _) 11 (by decide) e_P_swap_67 g_228 rfl ?_
          refine s_iload_n C e_P_swap_70 rfl ?_
          refine s_iald C (zb6_lt hb21) (zb6 hb21) e_P_swap_71 ?_
          exact s_iret C e_P_swap_72
theorem c_P_swap {l : Launch} {D : va_G} {k : Nat → ClassId} {q : Nat → Nat} (hq : Inj ZX q)  (σ : St) (x1 : Int32) (x2 : Int32) : Ct l ZX D k q yX6_swap cX6_swap 3 (some .int) 3 68 [.ref (q 0), .int x1, .int x2] σ (m_P_swap σ x1 x2) :=
  Ct_of hq lcX (by decide) (Nat.le_of_ble_eq_true rfl) (fun _ _ _ _ _ _ _ _ _ _ C => w_P_swap C σ x1 x2)
set_option maxRecDepth 100000 in
theorem w_P_work {X : CX} (C : Cx X ZX RX6 cX6_work 4 (some .int) 3 68)  (σ : St) (x1 : Int32) (x2 : Int32) : Sm X ZX 4 (some .int) σ [(0, .ref (cq X 0)), (1, .int x1), (2, .int x2)] 0 [] (m_P_work σ x1 x2) := by
  unfold m_P_work
  refine s_aload_n C e_P_work_0 rfl ?_
  refine s_get C fc_6 zx_lt_0 (zx_0 _ _ _) 2 (by decide) e_P_work_1 g_142 rfl ?_
  refine s_iload_n C e_P_work_4 rfl ?_
  refine s_callV_1 C (c_Board_hasCell C.inj hb21 _ _) wv_Board_hasCell g_229 ⟨by decide, by decide⟩ fc_1 rfl (zb_lt hb21) (zb hb21 _ _ _) rfl (Nat.le_of_ble_eq_true rfl) e_P_work_5 (fun v1 σ2 => ?_)
  refine s_if_eq (tgt := 21) C e_P_work_8 rfl ?_ ?_
  · refine s_ldc C e_P_work_21 g_10 ?_
    exact s_iret C e_P_work_23
  · refine s_iload_n C e_P_work_11 rfl ?_
    refine s_iconst C e_P_work_12 (v := (0 : Int32)) ic_0 ?_
    refine s_bipush C e_P_work_13 (v := (9 : Int32)) bp_9 ?_
    refine s_callS_3 C (c_P_within C.inj _ _ _ _) wv_P_within g_24 ⟨by decide, by decide⟩ rfl (Nat.le_of_ble_eq_true rfl) e_P_work_15 (fun v3 σ4 => ?_)
    refine s_if_ne (tgt := 24) C e_P_work_18 rfl ?_ ?_
    · refine s_ldc C e_P_work_21 g_10 ?_
      exact s_iret C e_P_work_23
    · refine s_aload_n C e_P_work_24 rfl ?_
      refine s_get C fc_6 zx_lt_0 (zx_0 _ _ _) 4 (by decide) e_P_work_25 g_143 rfl ?_
      refine s_aload_n C e_P_work_28 rfl ?_
      refine s_get C fc_6 zx_lt_0 (zx_0 _ _ _) 2 (by decide) e_P_work_29 g_142 rfl ?_
      refine s_callVv_1 C (c_Past_keep C.inj hb21 _) wv_Past_keep g_223 ⟨by decide, by decide⟩ fc_3 rfl zx_lt_16 (zx_16 _ _ _) rfl (Nat.le_of_ble_eq_true rfl) e_P_work_32 (fun v5 σ6 => ?_)
      refine s_aload_n C e_P_work_35 rfl ?_
      refine s_get C fc_6 zx_lt_0 (zx_0 _ _ _) 2 (by decide) e_P_work_36 g_142 rfl ?_
      refine s_get C fc_1 (zb_lt hb21) (zb hb21 _ _ _) 6 (by decide) e_P_work_39 g_238 rfl ?_
      refine s_iload_n C e_P_work_42 rfl ?_
      refine s_iald C (zb1_lt hb21) (zb1 hb21) e_P_work_43 ?_
      refine s_nm (fun y7 => ?_)
      refine s_istore_n C e_P_work_44 (by decide) ?_
      refine s_aload_n C e_P_work_45 rfl ?_
      refine s_get C fc_6 zx_lt_0 (zx_0 _ _ _) 2 (by decide) e_P_work_46 g_142 rfl ?_
      refine s_get C fc_1 (zb_lt hb21) (zb hb21 _ _ _) 6 (by decide) e_P_work_49 g_238 rfl ?_
      refine s_iload_n C e_P_work_52 rfl ?_
      refine s_iload_n C e_P_work_53 rfl ?_
      refine s_iast C (zb1_lt hb21) (zb1 hb21) e_P_work_54 (fun σ8 => ?_)
      refine s_iload_n C e_P_work_55 rfl ?_
      exact s_iret C e_P_work_56
theorem c_P_work {l : Launch} {D : va_G} {k : Nat → ClassId} {q : Nat → Nat} (hq : Inj ZX q)  (σ : St) (x1 : Int32) (x2 : Int32) : Ct l ZX D k q yX6_work cX6_work 4 (some .int) 3 68 [.ref (q 0), .int x1, .int x2] σ (m_P_work σ x1 x2) :=
  Ct_of hq lcX (by decide) (Nat.le_of_ble_eq_true rfl) (fun _ _ _ _ _ _ _ _ _ _ C => w_P_work C σ x1 x2)
set_option maxRecDepth 100000 in
theorem w_P_slip {X : CX} (C : Cx X ZX RX6 cX6_slip 3 (some .int) 3 68)  (σ : St) (x1 : Int32) : Sm X ZX 3 (some .int) σ [(0, .ref (cq X 0)), (1, .int x1)] 0 [] (m_P_slip σ x1) := by
  unfold m_P_slip
  refine s_aload_n C e_P_slip_0 rfl ?_
  refine s_get C fc_6 zx_lt_0 (zx_0 _ _ _) 2 (by decide) e_P_slip_1 g_142 rfl ?_
  refine s_callV_0 C (c_Board_stands C.inj hb21 _) wv_Board_stands g_215 ⟨by decide, by decide⟩ fc_1 rfl (zb_lt hb21) (zb hb21 _ _ _) rfl (Nat.le_of_ble_eq_true rfl) e_P_slip_4 (fun v1 σ2 => ?_)
  refine s_if_ne (tgt := 13) C e_P_slip_7 rfl ?_ ?_
  · refine s_ldc C e_P_slip_10 g_214 ?_
    exact s_iret C e_P_slip_12
  · refine s_iload_n C e_P_slip_13 rfl ?_
    refine s_iconst C e_P_slip_14 (v := (0 : Int32)) ic_0 ?_
    refine s_bipush C e_P_slip_15 (v := (15 : Int32)) bp_15 ?_
    refine s_callS_3 C (c_P_within C.inj _ _ _ _) wv_P_within g_24 ⟨by decide, by decide⟩ rfl (Nat.le_of_ble_eq_true rfl) e_P_slip_17 (fun v3 σ4 => ?_)
    refine s_if_ne (tgt := 26) C e_P_slip_20 rfl ?_ ?_
    · refine s_ldc C e_P_slip_23 g_10 ?_
      exact s_iret C e_P_slip_25
    · refine s_aload_n C e_P_slip_26 rfl ?_
      refine s_get C fc_6 zx_lt_0 (zx_0 _ _ _) 4 (by decide) e_P_slip_27 g_143 rfl ?_
      refine s_aload_n C e_P_slip_30 rfl ?_
      refine s_get C fc_6 zx_lt_0 (zx_0 _ _ _) 2 (by decide) e_P_slip_31 g_142 rfl ?_
      refine s_callVv_1 C (c_Past_keep C.inj hb21 _) wv_Past_keep g_223 ⟨by decide, by decide⟩ fc_3 rfl zx_lt_16 (zx_16 _ _ _) rfl (Nat.le_of_ble_eq_true rfl) e_P_slip_34 (fun v5 σ6 => ?_)
      refine s_aload_n C e_P_slip_37 rfl ?_
      refine s_get C fc_6 zx_lt_0 (zx_0 _ _ _) 2 (by decide) e_P_slip_38 g_142 rfl ?_
      refine s_get C fc_1 (zb_lt hb21) (zb hb21 _ _ _) 2 (by decide) e_P_slip_41 g_239 rfl ?_
      refine s_nm (fun y7 => ?_)
      refine s_istore_n C e_P_slip_44 (by decide) ?_
      refine s_aload_n C e_P_slip_45 rfl ?_
      refine s_get C fc_6 zx_lt_0 (zx_0 _ _ _) 2 (by decide) e_P_slip_46 g_142 rfl ?_
      refine s_iload_n C e_P_slip_49 rfl ?_
      refine s_put C fc_1 (zb_lt hb21) (zb hb21 _ _ _) 2 (by decide) (zbp_2 hb21 _ _ _ _) (Nat.le_of_ble_eq_true rfl) e_P_slip_50 g_239 rfl rfl (fun σ8 => ?_)
      refine s_iload_n C e_P_slip_53 rfl ?_
      exact s_iret C e_P_slip_54
theorem c_P_slip {l : Launch} {D : va_G} {k : Nat → ClassId} {q : Nat → Nat} (hq : Inj ZX q)  (σ : St) (x1 : Int32) : Ct l ZX D k q yX6_slip cX6_slip 3 (some .int) 3 68 [.ref (q 0), .int x1] σ (m_P_slip σ x1) :=
  Ct_of hq lcX (by decide) (Nat.le_of_ble_eq_true rfl) (fun _ _ _ _ _ _ _ _ _ _ C => w_P_slip C σ x1)
set_option maxRecDepth 100000 in
theorem w_Past_giveBack {X : CX} (C : Cx X ZX RX3 cX3_giveBack 2 none 2 47) {o : Nat} (ho : isB o) (σ : St)  : Sm X ZX 2 none σ [(0, .ref (cq X 16)), (1, .ref (cq X o))] 0 [] (m_Past_giveBack o σ) := by
  unfold m_Past_giveBack
  refine s_aload_n C e_Past_giveBack_0 rfl ?_
  refine s_get C fc_3 zx_lt_16 (zx_16 _ _ _) 0 (by decide) e_Past_giveBack_1 g_139 rfl ?_
  refine s_if_le (tgt := 38) C e_Past_giveBack_4 rfl ?_ ?_
  · exact s_vret C e_Past_giveBack_38
  · refine s_aload_n C e_Past_giveBack_7 rfl ?_
    refine s_dup C e_Past_giveBack_8 rfl ?_
    refine s_get C fc_3 zx_lt_16 (zx_16 _ _ _) 0 (by decide) e_Past_giveBack_9 g_139 rfl ?_
    refine s_iconst C e_Past_giveBack_12 (v := (1 : Int32)) ic_1 ?_
    refine s_isub C e_Past_giveBack_13 ?_
    refine s_put C fc_3 zx_lt_16 (zx_16 _ _ _) 0 (by decide) (zxp_16_0 _ _ _ _) (Nat.le_of_ble_eq_true rfl) e_Past_giveBack_14 g_139 rfl rfl (fun σ1 => ?_)
    refine s_aload_n C e_Past_giveBack_17 rfl ?_
    refine s_aload_n C e_Past_giveBack_18 rfl ?_
    refine s_get C fc_3 zx_lt_16 (zx_16 _ _ _) 2 (by decide) e_Past_giveBack_19 g_165 rfl ?_
    refine s_aload_n C e_Past_giveBack_22 rfl ?_
    refine s_get C fc_3 zx_lt_16 (zx_16 _ _ _) 1 (by decide) e_Past_giveBack_23 g_166 rfl ?_
    refine s_aload_n C e_Past_giveBack_26 rfl ?_
    refine s_get C fc_3 zx_lt_16 (zx_16 _ _ _) 0 (by decide) e_Past_giveBack_27 g_139 rfl ?_
    refine s_iadd C e_Past_giveBack_30 ?_
    refine s_bipush C e_Past_giveBack_31 (v := (24 : Int32)) bp_24 ?_
    refine s_irem C e_Past_giveBack_33 ?_
    refine s_aald (c := 2) (ty := .object "PinBoards$Board") C gPast zx_lt_17 (zx_17 _ _ _) rfl rfl zxf_17 e_Past_giveBack_34 (fun hi34 => ?_)
    refine s_callVv_1 C (c_Board_takeFrom C.inj ho (hb_past hi34) _) wv_Board_takeFrom g_167 ⟨by decide, by decide⟩ fc_1 rfl (zb_lt ho) (zb ho _ _ _) rfl (Nat.le_of_ble_eq_true rfl) e_Past_giveBack_35 (fun v2 σ3 => ?_)
    exact s_vret C e_Past_giveBack_38
theorem c_Past_giveBack {l : Launch} {D : va_G} {k : Nat → ClassId} {q : Nat → Nat} (hq : Inj ZX q) {o : Nat} (ho : isB o) (σ : St)  : Ct l ZX D k q yX3_giveBack cX3_giveBack 2 none 2 47 [.ref (q 16), .ref (q o)] σ (m_Past_giveBack o σ) :=
  Ct_of hq lcX (by decide) (Nat.le_of_ble_eq_true rfl) (fun _ _ _ _ _ _ _ _ _ _ C => w_Past_giveBack C ho σ)
set_option maxRecDepth 100000 in
theorem w_P_undo {X : CX} (C : Cx X ZX RX6 cX6_undo 1 (some .int) 3 68)  (σ : St)  : Sm X ZX 1 (some .int) σ [(0, .ref (cq X 0))] 0 [] (m_P_undo σ) := by
  unfold m_P_undo
  refine s_aload_n C e_P_undo_0 rfl ?_
  refine s_get C fc_6 zx_lt_0 (zx_0 _ _ _) 4 (by decide) e_P_undo_1 g_143 rfl ?_
  refine s_get C fc_3 zx_lt_16 (zx_16 _ _ _) 0 (by decide) e_P_undo_4 g_240 rfl ?_
  refine s_iconst C e_P_undo_7 (v := (1 : Int32)) ic_1 ?_
  refine s_icmp_ge (tgt := 14) C e_P_undo_8 rfl ?_ ?_
  · refine s_aload_n C e_P_undo_14 rfl ?_
    refine s_get C fc_6 zx_lt_0 (zx_0 _ _ _) 4 (by decide) e_P_undo_15 g_143 rfl ?_
    refine s_aload_n C e_P_undo_18 rfl ?_
    refine s_get C fc_6 zx_lt_0 (zx_0 _ _ _) 2 (by decide) e_P_undo_19 g_142 rfl ?_
    refine s_callVv_1 C (c_Past_giveBack C.inj hb21 _) wv_Past_giveBack g_241 ⟨by decide, by decide⟩ fc_3 rfl zx_lt_16 (zx_16 _ _ _) rfl (Nat.le_of_ble_eq_true rfl) e_P_undo_22 (fun v1 σ2 => ?_)
    refine s_aload_n C e_P_undo_25 rfl ?_
    refine s_get C fc_6 zx_lt_0 (zx_0 _ _ _) 4 (by decide) e_P_undo_26 g_143 rfl ?_
    refine s_get C fc_3 zx_lt_16 (zx_16 _ _ _) 0 (by decide) e_P_undo_29 g_240 rfl ?_
    exact s_iret C e_P_undo_32
  · refine s_ldc C e_P_undo_11 g_214 ?_
    exact s_iret C e_P_undo_13
theorem c_P_undo {l : Launch} {D : va_G} {k : Nat → ClassId} {q : Nat → Nat} (hq : Inj ZX q)  (σ : St)  : Ct l ZX D k q yX6_undo cX6_undo 1 (some .int) 3 68 [.ref (q 0)] σ (m_P_undo σ) :=
  Ct_of hq lcX (by decide) (Nat.le_of_ble_eq_true rfl) (fun _ _ _ _ _ _ _ _ _ _ C => w_P_undo C σ)
set_option maxRecDepth 100000 in
theorem w_P_pin {X : CX} (C : Cx X ZX RX6 cX6_pin 3 (some .int) 2 43)  (σ : St) (x1 : Int32) (x2 : Int32) : Sm X ZX 3 (some .int) σ [(0, .ref (cq X 0)), (1, .int x1), (2, .int x2)] 0 [] (m_P_pin σ x1 x2) := by
  unfold m_P_pin
  refine s_aload_n C e_P_pin_0 rfl ?_
  refine s_get C fc_6 zx_lt_0 (zx_0 _ _ _) 2 (by decide) e_P_pin_1 g_142 rfl ?_
  refine s_iload_n C e_P_pin_4 rfl ?_
  refine s_callV_1 C (c_Board_hasPin C.inj hb21 _ _) wv_Board_hasPin g_233 ⟨by decide, by decide⟩ fc_1 rfl (zb_lt hb21) (zb hb21 _ _ _) rfl (Nat.le_of_ble_eq_true rfl) e_P_pin_5 (fun v1 σ2 => ?_)
  refine s_if_ne (tgt := 14) C e_P_pin_8 rfl ?_ ?_
  · refine s_ldc C e_P_pin_11 g_10 ?_
    exact s_iret C e_P_pin_13
  · refine s_iload_n C e_P_pin_14 rfl ?_
    refine s_split (fun h15_0 => ?_) (fun h15_0 => ?_)
    · refine s_tabI (v := (0 : Int32)) (off := 33) (tgt := 48) C h15_0 e_P_pin_15 (by decide) (by decide) rfl rfl ?_
      refine s_aload_n C e_P_pin_48 rfl ?_
      refine s_get C fc_6 zx_lt_0 (zx_0 _ _ _) 2 (by decide) e_P_pin_49 g_142 rfl ?_
      refine s_get C fc_1 (zb_lt hb21) (zb hb21 _ _ _) 7 (by decide) e_P_pin_52 g_245 rfl ?_
      refine s_iload_n C e_P_pin_55 rfl ?_
      refine s_iald C (zb2_lt hb21) (zb2 hb21) e_P_pin_56 ?_
      exact s_iret C e_P_pin_57
    · skip
      refine s_split (fun h15_1 => ?_) (fun h15_1 => ?_)
      · refine s_tabI (v := (1 : Int32)) (off := 43) (tgt := 58) C h15_1 e_P_pin_15 (by decide) (by decide) rfl rfl ?_
        refine s_aload_n C e_P_pin_58 rfl ?_
        refine s_get C fc_6 zx_lt_0 (zx_0 _ _ _) 2 (by decide) e_P_pin_59 g_142 rfl ?_
        refine s_get C fc_1 (zb_lt hb21) (zb hb21 _ _ _) 8 (by decide) e_P_pin_62 g_246 rfl ?_
        refine s_iload_n C e_P_pin_65 rfl ?_
        refine s_iald C (zb3_lt hb21) (zb3 hb21) e_P_pin_66 ?_
        exact s_iret C e_P_pin_67
      · skip
        refine s_split (fun h15_2 => ?_) (fun h15_2 => ?_)
        · refine s_tabI (v := (2 : Int32)) (off := 53) (tgt := 68) C h15_2 e_P_pin_15 (by decide) (by decide) rfl rfl ?_
          refine s_aload_n C e_P_pin_68 rfl ?_
          refine s_get C fc_6 zx_lt_0 (zx_0 _ _ _) 2 (by decide) e_P_pin_69 g_142 rfl ?_
          refine s_get C fc_1 (zb_lt hb21) (zb hb21 _ _ _) 9 (by decide) e_P_pin_72 g_247 rfl ?_
          refine s_iload_n C e_P_pin_75 rfl ?_
          refine s_iald C (zb4_lt hb21) (zb4 hb21) e_P_pin_76 ?_
          exact s_iret C e_P_pin_77
        · skip
          refine s_split (fun h15_3 => ?_) (fun h15_3 => ?_)
          · refine s_tabI (v := (3 : Int32)) (off := 63) (tgt := 78) C h15_3 e_P_pin_15 (by decide) (by decide) rfl rfl ?_
            refine s_aload_n C e_P_pin_78 rfl ?_
            refine s_get C fc_6 zx_lt_0 (zx_0 _ _ _) 2 (by decide) e_P_pin_79 g_142 rfl ?_
            refine s_iload_n C e_P_pin_82 rfl ?_
            refine s_callV_1 C (c_Board_place C.inj hb21 _ _) wv_Board_place g_248 ⟨by decide, by decide⟩ fc_1 rfl (zb_lt hb21) (zb hb21 _ _ _) rfl (Nat.le_of_ble_eq_true rfl) e_P_pin_83 (fun v3 σ4 => ?_)
            exact s_iret C e_P_pin_86
          · skip
            refine s_split (fun h15_4 => ?_) (fun h15_4 => ?_)
            · refine s_tabI (v := (4 : Int32)) (off := 72) (tgt := 87) C h15_4 e_P_pin_15 (by decide) (by decide) rfl rfl ?_
              refine s_aload_n C e_P_pin_87 rfl ?_
              refine s_get C fc_6 zx_lt_0 (zx_0 _ _ _) 2 (by decide) e_P_pin_88 g_142 rfl ?_
              refine s_get C fc_1 (zb_lt hb21) (zb hb21 _ _ _) 11 (by decide) e_P_pin_91 g_228 rfl ?_
              refine s_iload_n C e_P_pin_94 rfl ?_
              refine s_iald C (zb6_lt hb21) (zb6 hb21) e_P_pin_95 ?_
              exact s_iret C e_P_pin_96
            · skip
              have hx : x2.toInt < 0 ∨ 4 < x2.toInt := by
                have q0 := ne_i (z := 0) rfl h15_0
                have q1 := ne_i (z := 1) rfl h15_1
                have q2 := ne_i (z := 2) rfl h15_2
                have q3 := ne_i (z := 3) rfl h15_3
                have q4 := ne_i (z := 4) rfl h15_4
                omega
              refine s_tabO (tgt := 97) C e_P_pin_15 hx rfl ?_
              refine s_ldc C e_P_pin_97 g_10 ?_
              exact s_iret C e_P_pin_99
theorem c_P_pin {l : Launch} {D : va_G} {k : Nat → ClassId} {q : Nat → Nat} (hq : Inj ZX q)  (σ : St) (x1 : Int32) (x2 : Int32) : Ct l ZX D k q yX6_pin cX6_pin 3 (some .int) 2 43 [.ref (q 0), .int x1, .int x2] σ (m_P_pin σ x1 x2) :=
  Ct_of hq lcX (by decide) (Nat.le_of_ble_eq_true rfl) (fun _ _ _ _ _ _ _ _ _ _ C => w_P_pin C σ x1 x2)
set_option maxRecDepth 100000 in
theorem w_P_cell {X : CX} (C : Cx X ZX RX6 cX6_cell 3 (some .int) 2 44)  (σ : St) (x1 : Int32) (x2 : Int32) : Sm X ZX 3 (some .int) σ [(0, .ref (cq X 0)), (1, .int x1), (2, .int x2)] 0 [] (m_P_cell σ x1 x2) := by
  unfold m_P_cell
  refine s_aload_n C e_P_cell_0 rfl ?_
  refine s_get C fc_6 zx_lt_0 (zx_0 _ _ _) 2 (by decide) e_P_cell_1 g_142 rfl ?_
  refine s_iload_n C e_P_cell_4 rfl ?_
  refine s_callV_1 C (c_Board_hasCell C.inj hb21 _ _) wv_Board_hasCell g_229 ⟨by decide, by decide⟩ fc_1 rfl (zb_lt hb21) (zb hb21 _ _ _) rfl (Nat.le_of_ble_eq_true rfl) e_P_cell_5 (fun v1 σ2 => ?_)
  refine s_if_ne (tgt := 14) C e_P_cell_8 rfl ?_ ?_
  · refine s_ldc C e_P_cell_11 g_10 ?_
    exact s_iret C e_P_cell_13
  · refine s_iload_n C e_P_cell_14 rfl ?_
    refine s_split (fun h15_0 => ?_) (fun h15_0 => ?_)
    · refine s_tabI (v := (0 : Int32)) (off := 25) (tgt := 40) C h15_0 e_P_cell_15 (by decide) (by decide) rfl rfl ?_
      refine s_aload_n C e_P_cell_40 rfl ?_
      refine s_get C fc_6 zx_lt_0 (zx_0 _ _ _) 2 (by decide) e_P_cell_41 g_142 rfl ?_
      refine s_get C fc_1 (zb_lt hb21) (zb hb21 _ _ _) 6 (by decide) e_P_cell_44 g_238 rfl ?_
      refine s_iload_n C e_P_cell_47 rfl ?_
      refine s_iald C (zb1_lt hb21) (zb1 hb21) e_P_cell_48 ?_
      exact s_iret C e_P_cell_49
    · skip
      refine s_split (fun h15_1 => ?_) (fun h15_1 => ?_)
      · refine s_tabI (v := (1 : Int32)) (off := 35) (tgt := 50) C h15_1 e_P_cell_15 (by decide) (by decide) rfl rfl ?_
        refine s_aload_n C e_P_cell_50 rfl ?_
        refine s_get C fc_6 zx_lt_0 (zx_0 _ _ _) 2 (by decide) e_P_cell_51 g_142 rfl ?_
        refine s_iload_n C e_P_cell_54 rfl ?_
        refine s_callV_1 C (c_Board_pinsIn C.inj hb21 _ _) wv_Board_pinsIn g_249 ⟨by decide, by decide⟩ fc_1 rfl (zb_lt hb21) (zb hb21 _ _ _) rfl (Nat.le_of_ble_eq_true rfl) e_P_cell_55 (fun v3 σ4 => ?_)
        exact s_iret C e_P_cell_58
      · skip
        refine s_split (fun h15_2 => ?_) (fun h15_2 => ?_)
        · refine s_tabI (v := (2 : Int32)) (off := 44) (tgt := 59) C h15_2 e_P_cell_15 (by decide) (by decide) rfl rfl ?_
          refine s_aload_n C e_P_cell_59 rfl ?_
          refine s_get C fc_6 zx_lt_0 (zx_0 _ _ _) 2 (by decide) e_P_cell_60 g_142 rfl ?_
          refine s_iload_n C e_P_cell_63 rfl ?_
          refine s_callV_1 C (c_Board_owner C.inj hb21 _ _) wv_Board_owner g_250 ⟨by decide, by decide⟩ fc_1 rfl (zb_lt hb21) (zb hb21 _ _ _) rfl (Nat.le_of_ble_eq_true rfl) e_P_cell_64 (fun v5 σ6 => ?_)
          exact s_iret C e_P_cell_67
        · skip
          have hx : x2.toInt < 0 ∨ 2 < x2.toInt := by
            have q0 := ne_i (z := 0) rfl h15_0
            have q1 := ne_i (z := 1) rfl h15_1
            have q2 := ne_i (z := 2) rfl h15_2
            omega
          refine s_tabO (tgt := 68) C e_P_cell_15 hx rfl ?_
          refine s_ldc C e_P_cell_68 g_10 ?_
          exact s_iret C e_P_cell_70
theorem c_P_cell {l : Launch} {D : va_G} {k : Nat → ClassId} {q : Nat → Nat} (hq : Inj ZX q)  (σ : St) (x1 : Int32) (x2 : Int32) : Ct l ZX D k q yX6_cell cX6_cell 3 (some .int) 2 44 [.ref (q 0), .int x1, .int x2] σ (m_P_cell σ x1 x2) :=
  Ct_of hq lcX (by decide) (Nat.le_of_ble_eq_true rfl) (fun _ _ _ _ _ _ _ _ _ _ C => w_P_cell C σ x1 x2)
set_option maxRecDepth 100000 in
theorem w_Fore_goOn_B13 {X : CX} (C : Cx X ZX RX2 cX2_goOn 3 none 5 107)  (r13 : St → Int32 → Int32 → Rt) (hr13 : ∀ (σ : St) (x1 : Int32) (x2 : Int32), Sm X ZX 3 none σ [(0, .ref (cq X 15)), (1, .int x1), (2, .int x2)] 13 [] (r13 σ x1 x2)) (σ : St) (x1 : Int32) (x2 : Int32) : Sm X ZX 3 none σ [(0, .ref (cq X 15)), (1, .int x1), (2, .int x2)] 13 [] (m_Fore_goOn_B13 r13 σ x1 x2) := by
  unfold m_Fore_goOn_B13
  refine s_iload_n C e_Fore_goOn_13 rfl ?_
  refine s_iload_n C e_Fore_goOn_14 rfl ?_
  refine s_icmp_ge (tgt := 31) C e_Fore_goOn_15 rfl ?_ ?_
  · exact s_vret C e_Fore_goOn_31
  · refine s_aload_n C e_Fore_goOn_18 rfl ?_
    refine s_get C fc_2 zx_lt_15 (zx_15 _ _ _) 0 (by decide) e_Fore_goOn_19 g_251 rfl ?_
    refine s_callVv_0 C (c_Board_turn C.inj hb28 _) wv_Board_turn g_254 ⟨by decide, by decide⟩ fc_1 rfl (zb_lt hb28) (zb hb28 _ _ _) rfl (Nat.le_of_ble_eq_true rfl) e_Fore_goOn_22 (fun v1 σ2 => ?_)
    refine s_iinc C e_Fore_goOn_25 (v := (1 : Int32)) rfl (by decide) ii_1 ?_
    refine s_goto (tgt := 13) C e_Fore_goOn_28 rfl ?_
    exact s_cut (hr13 _ _ _) ⟨rfl, rfl, rfl, trivial⟩
theorem w_Fore_goOn_L13 {X : CX} (C : Cx X ZX RX2 cX2_goOn 3 none 5 107)   : ∀ (n : Nat) (σ : St) (x1 : Int32) (x2 : Int32), Sm X ZX 3 none σ [(0, .ref (cq X 15)), (1, .int x1), (2, .int x2)] 13 [] (m_Fore_goOn_L13 n σ x1 x2)
  | 0, _, _, _ => s_none
  | n + 1, σ, x1, x2 => w_Fore_goOn_B13 C (m_Fore_goOn_L13 n) (w_Fore_goOn_L13 C n) σ x1 x2
set_option maxRecDepth 100000 in
theorem w_Fore_goOn {X : CX} (C : Cx X ZX RX2 cX2_goOn 3 none 5 107)  (σ : St) (x1 : Int32) : Sm X ZX 3 none σ [(0, .ref (cq X 15)), (1, .int x1)] 0 [] (m_Fore_goOn σ x1) := by
  unfold m_Fore_goOn
  refine s_aload_n C e_Fore_goOn_0 rfl ?_
  refine s_get C fc_2 zx_lt_15 (zx_15 _ _ _) 0 (by decide) e_Fore_goOn_1 g_251 rfl ?_
  refine s_aload_n C e_Fore_goOn_4 rfl ?_
  refine s_get C fc_2 zx_lt_15 (zx_15 _ _ _) 1 (by decide) e_Fore_goOn_5 g_252 rfl ?_
  refine s_callVv_1 C (c_Board_takeFrom C.inj hb28 hb21 _) wv_Board_takeFrom g_253 ⟨by decide, by decide⟩ fc_1 rfl (zb_lt hb28) (zb hb28 _ _ _) rfl (Nat.le_of_ble_eq_true rfl) e_Fore_goOn_8 (fun v1 σ2 => ?_)
  refine s_iconst C e_Fore_goOn_11 (v := (0 : Int32)) ic_0 ?_
  refine s_istore_n C e_Fore_goOn_12 (by decide) ?_
  exact s_cut (w_Fore_goOn_L13 C FU _ _ _) ⟨rfl, rfl, rfl, trivial⟩
theorem c_Fore_goOn {l : Launch} {D : va_G} {k : Nat → ClassId} {q : Nat → Nat} (hq : Inj ZX q)  (σ : St) (x1 : Int32) : Ct l ZX D k q yX2_goOn cX2_goOn 3 none 5 107 [.ref (q 15), .int x1] σ (m_Fore_goOn σ x1) :=
  Ct_of hq lcX (by decide) (Nat.le_of_ble_eq_true rfl) (fun _ _ _ _ _ _ _ _ _ _ C => w_Fore_goOn C σ x1)
set_option maxRecDepth 100000 in
theorem w_P_ahead {X : CX} (C : Cx X ZX RX6 cX6_ahead 3 (some .int) 6 129)  (σ : St) (x1 : Int32) (x2 : Int32) : Sm X ZX 3 (some .int) σ [(0, .ref (cq X 0)), (1, .int x1), (2, .int x2)] 0 [] (m_P_ahead σ x1 x2) := by
  unfold m_P_ahead
  refine s_aload_n C e_P_ahead_0 rfl ?_
  refine s_get C fc_6 zx_lt_0 (zx_0 _ _ _) 2 (by decide) e_P_ahead_1 g_142 rfl ?_
  refine s_iload_n C e_P_ahead_4 rfl ?_
  refine s_callV_1 C (c_Board_hasPin C.inj hb21 _ _) wv_Board_hasPin g_233 ⟨by decide, by decide⟩ fc_1 rfl (zb_lt hb21) (zb hb21 _ _ _) rfl (Nat.le_of_ble_eq_true rfl) e_P_ahead_5 (fun v1 σ2 => ?_)
  refine s_if_eq (tgt := 21) C e_P_ahead_8 rfl ?_ ?_
  · refine s_ldc C e_P_ahead_21 g_10 ?_
    exact s_iret C e_P_ahead_23
  · refine s_iload_n C e_P_ahead_11 rfl ?_
    refine s_iconst C e_P_ahead_12 (v := (0 : Int32)) ic_0 ?_
    refine s_bipush C e_P_ahead_13 (v := (60 : Int32)) bp_60 ?_
    refine s_callS_3 C (c_P_within C.inj _ _ _ _) wv_P_within g_24 ⟨by decide, by decide⟩ rfl (Nat.le_of_ble_eq_true rfl) e_P_ahead_15 (fun v3 σ4 => ?_)
    refine s_if_ne (tgt := 24) C e_P_ahead_18 rfl ?_ ?_
    · refine s_ldc C e_P_ahead_21 g_10 ?_
      exact s_iret C e_P_ahead_23
    · refine s_aload_n C e_P_ahead_24 rfl ?_
      refine s_get C fc_6 zx_lt_0 (zx_0 _ _ _) 3 (by decide) e_P_ahead_25 g_140 rfl ?_
      refine s_iload_n C e_P_ahead_28 rfl ?_
      refine s_callVv_1 C (c_Fore_goOn C.inj _ _) wv_Fore_goOn g_255 ⟨by decide, by decide⟩ fc_2 rfl zx_lt_15 (zx_15 _ _ _) rfl (Nat.le_of_ble_eq_true rfl) e_P_ahead_29 (fun v5 σ6 => ?_)
      refine s_aload_n C e_P_ahead_32 rfl ?_
      refine s_get C fc_6 zx_lt_0 (zx_0 _ _ _) 3 (by decide) e_P_ahead_33 g_140 rfl ?_
      refine s_get C fc_2 zx_lt_15 (zx_15 _ _ _) 0 (by decide) e_P_ahead_36 g_141 rfl ?_
      refine s_iload_n C e_P_ahead_39 rfl ?_
      refine s_callV_1 C (c_Board_place C.inj hb28 _ _) wv_Board_place g_248 ⟨by decide, by decide⟩ fc_1 rfl (zb_lt hb28) (zb hb28 _ _ _) rfl (Nat.le_of_ble_eq_true rfl) e_P_ahead_40 (fun v7 σ8 => ?_)
      exact s_iret C e_P_ahead_43
theorem c_P_ahead {l : Launch} {D : va_G} {k : Nat → ClassId} {q : Nat → Nat} (hq : Inj ZX q)  (σ : St) (x1 : Int32) (x2 : Int32) : Ct l ZX D k q yX6_ahead cX6_ahead 3 (some .int) 6 129 [.ref (q 0), .int x1, .int x2] σ (m_P_ahead σ x1 x2) :=
  Ct_of hq lcX (by decide) (Nat.le_of_ble_eq_true rfl) (fun _ _ _ _ _ _ _ _ _ _ C => w_P_ahead C σ x1 x2)
set_option maxRecDepth 100000 in
theorem w_P_earned {X : CX} (C : Cx X ZX RX6 cX6_earned 2 (some .int) 6 129)  (σ : St) (x1 : Int32) : Sm X ZX 2 (some .int) σ [(0, .ref (cq X 0)), (1, .int x1)] 0 [] (m_P_earned σ x1) := by
  unfold m_P_earned
  refine s_aload_n C e_P_earned_0 rfl ?_
  refine s_get C fc_6 zx_lt_0 (zx_0 _ _ _) 2 (by decide) e_P_earned_1 g_142 rfl ?_
  refine s_callV_0 C (c_Board_stands C.inj hb21 _) wv_Board_stands g_215 ⟨by decide, by decide⟩ fc_1 rfl (zb_lt hb21) (zb hb21 _ _ _) rfl (Nat.le_of_ble_eq_true rfl) e_P_earned_4 (fun v1 σ2 => ?_)
  refine s_if_ne (tgt := 13) C e_P_earned_7 rfl ?_ ?_
  · refine s_ldc C e_P_earned_10 g_214 ?_
    exact s_iret C e_P_earned_12
  · refine s_iload_n C e_P_earned_13 rfl ?_
    refine s_iconst C e_P_earned_14 (v := (0 : Int32)) ic_0 ?_
    refine s_bipush C e_P_earned_15 (v := (60 : Int32)) bp_60 ?_
    refine s_callS_3 C (c_P_within C.inj _ _ _ _) wv_P_within g_24 ⟨by decide, by decide⟩ rfl (Nat.le_of_ble_eq_true rfl) e_P_earned_17 (fun v3 σ4 => ?_)
    refine s_if_ne (tgt := 26) C e_P_earned_20 rfl ?_ ?_
    · refine s_ldc C e_P_earned_23 g_10 ?_
      exact s_iret C e_P_earned_25
    · refine s_aload_n C e_P_earned_26 rfl ?_
      refine s_get C fc_6 zx_lt_0 (zx_0 _ _ _) 3 (by decide) e_P_earned_27 g_140 rfl ?_
      refine s_iload_n C e_P_earned_30 rfl ?_
      refine s_callVv_1 C (c_Fore_goOn C.inj _ _) wv_Fore_goOn g_255 ⟨by decide, by decide⟩ fc_2 rfl zx_lt_15 (zx_15 _ _ _) rfl (Nat.le_of_ble_eq_true rfl) e_P_earned_31 (fun v5 σ6 => ?_)
      refine s_aload_n C e_P_earned_34 rfl ?_
      refine s_get C fc_6 zx_lt_0 (zx_0 _ _ _) 3 (by decide) e_P_earned_35 g_140 rfl ?_
      refine s_get C fc_2 zx_lt_15 (zx_15 _ _ _) 0 (by decide) e_P_earned_38 g_141 rfl ?_
      refine s_get C fc_1 (zb_lt hb28) (zb hb28 _ _ _) 4 (by decide) e_P_earned_41 g_260 rfl ?_
      exact s_iret C e_P_earned_44
theorem c_P_earned {l : Launch} {D : va_G} {k : Nat → ClassId} {q : Nat → Nat} (hq : Inj ZX q)  (σ : St) (x1 : Int32) : Ct l ZX D k q yX6_earned cX6_earned 2 (some .int) 6 129 [.ref (q 0), .int x1] σ (m_P_earned σ x1) :=
  Ct_of hq lcX (by decide) (Nat.le_of_ble_eq_true rfl) (fun _ _ _ _ _ _ _ _ _ _ C => w_P_earned C σ x1)
set_option maxRecDepth 100000 in
theorem w_Fore_turnsTillIn_B13 {X : CX} (C : Cx X ZX RX2 cX2_turnsTillIn 4 (some .int) 5 107)  (r13 : St → Int32 → Int32 → Int32 → Rt) (hr13 : ∀ (σ : St) (x1 : Int32) (x2 : Int32) (x3 : Int32), Sm X ZX 4 (some .int) σ [(0, .ref (cq X 15)), (1, .int x1), (2, .int x2), (3, .int x3)] 13 [] (r13 σ x1 x2 x3)) (σ : St) (x1 : Int32) (x2 : Int32) (x3 : Int32) : Sm X ZX 4 (some .int) σ [(0, .ref (cq X 15)), (1, .int x1), (2, .int x2), (3, .int x3)] 13 [] (m_Fore_turnsTillIn_B13 r13 σ x1 x2 x3) := by
  unfold m_Fore_turnsTillIn_B13
  refine s_iload_n C e_Fore_turnsTillIn_13 rfl ?_
  refine s_bipush C e_Fore_turnsTillIn_14 (v := (60 : Int32)) bp_60 ?_
  refine s_icmp_gt (tgt := 46) C e_Fore_turnsTillIn_16 rfl ?_ ?_
  · refine s_ldc C e_Fore_turnsTillIn_46 g_261 ?_
    exact s_iret C e_Fore_turnsTillIn_48
  · refine s_aload_n C e_Fore_turnsTillIn_19 rfl ?_
    refine s_get C fc_2 zx_lt_15 (zx_15 _ _ _) 0 (by decide) e_Fore_turnsTillIn_20 g_251 rfl ?_
    refine s_iload_n C e_Fore_turnsTillIn_23 rfl ?_
    refine s_callV_1 C (c_Board_place C.inj hb28 _ _) wv_Board_place g_262 ⟨by decide, by decide⟩ fc_1 rfl (zb_lt hb28) (zb hb28 _ _ _) rfl (Nat.le_of_ble_eq_true rfl) e_Fore_turnsTillIn_24 (fun v1 σ2 => ?_)
    refine s_iload_n C e_Fore_turnsTillIn_27 rfl ?_
    refine s_icmp_ne (tgt := 33) C e_Fore_turnsTillIn_28 rfl ?_ ?_
    · refine s_iload_n C e_Fore_turnsTillIn_31 rfl ?_
      exact s_iret C e_Fore_turnsTillIn_32
    · refine s_aload_n C e_Fore_turnsTillIn_33 rfl ?_
      refine s_get C fc_2 zx_lt_15 (zx_15 _ _ _) 0 (by decide) e_Fore_turnsTillIn_34 g_251 rfl ?_
      refine s_callVv_0 C (c_Board_turn C.inj hb28 _) wv_Board_turn g_254 ⟨by decide, by decide⟩ fc_1 rfl (zb_lt hb28) (zb hb28 _ _ _) rfl (Nat.le_of_ble_eq_true rfl) e_Fore_turnsTillIn_37 (fun v3 σ4 => ?_)
      refine s_iinc C e_Fore_turnsTillIn_40 (v := (1 : Int32)) rfl (by decide) ii_1 ?_
      refine s_goto (tgt := 13) C e_Fore_turnsTillIn_43 rfl ?_
      exact s_cut (hr13 _ _ _ _) ⟨rfl, rfl, rfl, rfl, trivial⟩
theorem w_Fore_turnsTillIn_L13 {X : CX} (C : Cx X ZX RX2 cX2_turnsTillIn 4 (some .int) 5 107)   : ∀ (n : Nat) (σ : St) (x1 : Int32) (x2 : Int32) (x3 : Int32), Sm X ZX 4 (some .int) σ [(0, .ref (cq X 15)), (1, .int x1), (2, .int x2), (3, .int x3)] 13 [] (m_Fore_turnsTillIn_L13 n σ x1 x2 x3)
  | 0, _, _, _, _ => s_none
  | n + 1, σ, x1, x2, x3 => w_Fore_turnsTillIn_B13 C (m_Fore_turnsTillIn_L13 n) (w_Fore_turnsTillIn_L13 C n) σ x1 x2 x3
set_option maxRecDepth 100000 in
theorem w_Fore_turnsTillIn {X : CX} (C : Cx X ZX RX2 cX2_turnsTillIn 4 (some .int) 5 107)  (σ : St) (x1 : Int32) (x2 : Int32) : Sm X ZX 4 (some .int) σ [(0, .ref (cq X 15)), (1, .int x1), (2, .int x2)] 0 [] (m_Fore_turnsTillIn σ x1 x2) := by
  unfold m_Fore_turnsTillIn
  refine s_aload_n C e_Fore_turnsTillIn_0 rfl ?_
  refine s_get C fc_2 zx_lt_15 (zx_15 _ _ _) 0 (by decide) e_Fore_turnsTillIn_1 g_251 rfl ?_
  refine s_aload_n C e_Fore_turnsTillIn_4 rfl ?_
  refine s_get C fc_2 zx_lt_15 (zx_15 _ _ _) 1 (by decide) e_Fore_turnsTillIn_5 g_252 rfl ?_
  refine s_callVv_1 C (c_Board_takeFrom C.inj hb28 hb21 _) wv_Board_takeFrom g_253 ⟨by decide, by decide⟩ fc_1 rfl (zb_lt hb28) (zb hb28 _ _ _) rfl (Nat.le_of_ble_eq_true rfl) e_Fore_turnsTillIn_8 (fun v1 σ2 => ?_)
  refine s_iconst C e_Fore_turnsTillIn_11 (v := (0 : Int32)) ic_0 ?_
  refine s_istore_n C e_Fore_turnsTillIn_12 (by decide) ?_
  exact s_cut (w_Fore_turnsTillIn_L13 C FU _ _ _ _) ⟨rfl, rfl, rfl, rfl, trivial⟩
theorem c_Fore_turnsTillIn {l : Launch} {D : va_G} {k : Nat → ClassId} {q : Nat → Nat} (hq : Inj ZX q)  (σ : St) (x1 : Int32) (x2 : Int32) : Ct l ZX D k q yX2_turnsTillIn cX2_turnsTillIn 4 (some .int) 5 107 [.ref (q 15), .int x1, .int x2] σ (m_Fore_turnsTillIn σ x1 x2) :=
  Ct_of hq lcX (by decide) (Nat.le_of_ble_eq_true rfl) (fun _ _ _ _ _ _ _ _ _ _ C => w_Fore_turnsTillIn C σ x1 x2)
set_option maxRecDepth 100000 in
theorem w_P_tomsk {X : CX} (C : Cx X ZX RX6 cX6_tomsk 3 (some .int) 6 130)  (σ : St) (x1 : Int32) (x2 : Int32) : Sm X ZX 3 (some .int) σ [(0, .ref (cq X 0)), (1, .int x1), (2, .int x2)] 0 [] (m_P_tomsk σ x1 x2) := by
  unfold m_P_tomsk
  refine s_aload_n C e_P_tomsk_0 rfl ?_
  refine s_get C fc_6 zx_lt_0 (zx_0 _ _ _) 2 (by decide) e_P_tomsk_1 g_142 rfl ?_
  refine s_iload_n C e_P_tomsk_4 rfl ?_
  refine s_callV_1 C (c_Board_hasPin C.inj hb21 _ _) wv_Board_hasPin g_233 ⟨by decide, by decide⟩ fc_1 rfl (zb_lt hb21) (zb hb21 _ _ _) rfl (Nat.le_of_ble_eq_true rfl) e_P_tomsk_5 (fun v1 σ2 => ?_)
  refine s_if_eq (tgt := 34) C e_P_tomsk_8 rfl ?_ ?_
  · refine s_ldc C e_P_tomsk_34 g_10 ?_
    exact s_iret C e_P_tomsk_36
  · refine s_aload_n C e_P_tomsk_11 rfl ?_
    refine s_get C fc_6 zx_lt_0 (zx_0 _ _ _) 2 (by decide) e_P_tomsk_12 g_142 rfl ?_
    refine s_iload_n C e_P_tomsk_15 rfl ?_
    refine s_callV_1 C (c_Board_hasCell C.inj hb21 _ _) wv_Board_hasCell g_229 ⟨by decide, by decide⟩ fc_1 rfl (zb_lt hb21) (zb hb21 _ _ _) rfl (Nat.le_of_ble_eq_true rfl) e_P_tomsk_16 (fun v3 σ4 => ?_)
    refine s_if_eq (tgt := 34) C e_P_tomsk_19 rfl ?_ ?_
    · refine s_ldc C e_P_tomsk_34 g_10 ?_
      exact s_iret C e_P_tomsk_36
    · refine s_aload_n C e_P_tomsk_22 rfl ?_
      refine s_get C fc_6 zx_lt_0 (zx_0 _ _ _) 3 (by decide) e_P_tomsk_23 g_140 rfl ?_
      refine s_iload_n C e_P_tomsk_26 rfl ?_
      refine s_iload_n C e_P_tomsk_27 rfl ?_
      refine s_callV_2 C (c_Fore_turnsTillIn C.inj _ _ _) wv_Fore_turnsTillIn g_263 ⟨by decide, by decide⟩ fc_2 rfl zx_lt_15 (zx_15 _ _ _) rfl (Nat.le_of_ble_eq_true rfl) e_P_tomsk_28 (fun v5 σ6 => ?_)
      refine s_goto (tgt := 36) C e_P_tomsk_31 rfl ?_
      exact s_iret C e_P_tomsk_36
theorem c_P_tomsk {l : Launch} {D : va_G} {k : Nat → ClassId} {q : Nat → Nat} (hq : Inj ZX q)  (σ : St) (x1 : Int32) (x2 : Int32) : Ct l ZX D k q yX6_tomsk cX6_tomsk 3 (some .int) 6 130 [.ref (q 0), .int x1, .int x2] σ (m_P_tomsk σ x1 x2) :=
  Ct_of hq lcX (by decide) (Nat.le_of_ble_eq_true rfl) (fun _ _ _ _ _ _ _ _ _ _ C => w_P_tomsk C σ x1 x2)
set_option maxRecDepth 100000 in
theorem w_Fore_isSamePlaces_B2 {X : CX} (C : Cx X ZX RX2 cX2_isSamePlaces 2 (some .boolean) 1 21)  (r2 : St → Int32 → Rt) (hr2 : ∀ (σ : St) (x1 : Int32), Sm X ZX 2 (some .boolean) σ [(0, .ref (cq X 15)), (1, .int x1)] 2 [] (r2 σ x1)) (σ : St) (x1 : Int32) : Sm X ZX 2 (some .boolean) σ [(0, .ref (cq X 15)), (1, .int x1)] 2 [] (m_Fore_isSamePlaces_B2 r2 σ x1) := by
  unfold m_Fore_isSamePlaces_B2
  refine s_iload_n C e_Fore_isSamePlaces_2 rfl ?_
  refine s_aload_n C e_Fore_isSamePlaces_3 rfl ?_
  refine s_get C fc_2 zx_lt_15 (zx_15 _ _ _) 1 (by decide) e_Fore_isSamePlaces_4 g_252 rfl ?_
  refine s_get C fc_1 (zb_lt hb21) (zb hb21 _ _ _) 1 (by decide) e_Fore_isSamePlaces_7 g_267 rfl ?_
  refine s_icmp_ge (tgt := 40) C e_Fore_isSamePlaces_10 rfl ?_ ?_
  · refine s_iconst C e_Fore_isSamePlaces_40 (v := (1 : Int32)) ic_1 ?_
    exact s_zret C e_Fore_isSamePlaces_41
  · refine s_aload_n C e_Fore_isSamePlaces_13 rfl ?_
    refine s_get C fc_2 zx_lt_15 (zx_15 _ _ _) 0 (by decide) e_Fore_isSamePlaces_14 g_251 rfl ?_
    refine s_iload_n C e_Fore_isSamePlaces_17 rfl ?_
    refine s_callV_1 C (c_Board_place C.inj hb28 _ _) wv_Board_place g_262 ⟨by decide, by decide⟩ fc_1 rfl (zb_lt hb28) (zb hb28 _ _ _) rfl (Nat.le_of_ble_eq_true rfl) e_Fore_isSamePlaces_18 (fun v1 σ2 => ?_)
    refine s_aload_n C e_Fore_isSamePlaces_21 rfl ?_
    refine s_get C fc_2 zx_lt_15 (zx_15 _ _ _) 1 (by decide) e_Fore_isSamePlaces_22 g_252 rfl ?_
    refine s_iload_n C e_Fore_isSamePlaces_25 rfl ?_
    refine s_callV_1 C (c_Board_place C.inj hb21 _ _) wv_Board_place g_262 ⟨by decide, by decide⟩ fc_1 rfl (zb_lt hb21) (zb hb21 _ _ _) rfl (Nat.le_of_ble_eq_true rfl) e_Fore_isSamePlaces_26 (fun v3 σ4 => ?_)
    refine s_icmp_eq (tgt := 34) C e_Fore_isSamePlaces_29 rfl ?_ ?_
    · refine s_iinc C e_Fore_isSamePlaces_34 (v := (1 : Int32)) rfl (by decide) ii_1 ?_
      refine s_goto (tgt := 2) C e_Fore_isSamePlaces_37 rfl ?_
      exact s_cut (hr2 _ _) ⟨rfl, rfl, trivial⟩
    · refine s_iconst C e_Fore_isSamePlaces_32 (v := (0 : Int32)) ic_0 ?_
      exact s_zret C e_Fore_isSamePlaces_33
theorem w_Fore_isSamePlaces_L2 {X : CX} (C : Cx X ZX RX2 cX2_isSamePlaces 2 (some .boolean) 1 21)   : ∀ (n : Nat) (σ : St) (x1 : Int32), Sm X ZX 2 (some .boolean) σ [(0, .ref (cq X 15)), (1, .int x1)] 2 [] (m_Fore_isSamePlaces_L2 n σ x1)
  | 0, _, _ => s_none
  | n + 1, σ, x1 => w_Fore_isSamePlaces_B2 C (m_Fore_isSamePlaces_L2 n) (w_Fore_isSamePlaces_L2 C n) σ x1
set_option maxRecDepth 100000 in
theorem w_Fore_isSamePlaces {X : CX} (C : Cx X ZX RX2 cX2_isSamePlaces 2 (some .boolean) 1 21)  (σ : St)  : Sm X ZX 2 (some .boolean) σ [(0, .ref (cq X 15))] 0 [] (m_Fore_isSamePlaces σ) := by
  unfold m_Fore_isSamePlaces
  refine s_iconst C e_Fore_isSamePlaces_0 (v := (0 : Int32)) ic_0 ?_
  refine s_istore_n C e_Fore_isSamePlaces_1 (by decide) ?_
  exact s_cut (w_Fore_isSamePlaces_L2 C FU _ _) ⟨rfl, rfl, trivial⟩
theorem c_Fore_isSamePlaces {l : Launch} {D : va_G} {k : Nat → ClassId} {q : Nat → Nat} (hq : Inj ZX q)  (σ : St)  : Ct l ZX D k q yX2_isSamePlaces cX2_isSamePlaces 2 (some .boolean) 1 21 [.ref (q 15)] σ (m_Fore_isSamePlaces σ) :=
  Ct_of hq lcX (by decide) (Nat.le_of_ble_eq_true rfl) (fun _ _ _ _ _ _ _ _ _ _ C => w_Fore_isSamePlaces C σ)
set_option maxRecDepth 100000 in
theorem w_Fore_turnsTillSame_B13 {X : CX} (C : Cx X ZX RX2 cX2_turnsTillSame 2 (some .int) 5 107)  (r13 : St → Int32 → Rt) (hr13 : ∀ (σ : St) (x1 : Int32), Sm X ZX 2 (some .int) σ [(0, .ref (cq X 15)), (1, .int x1)] 13 [] (r13 σ x1)) (σ : St) (x1 : Int32) : Sm X ZX 2 (some .int) σ [(0, .ref (cq X 15)), (1, .int x1)] 13 [] (m_Fore_turnsTillSame_B13 r13 σ x1) := by
  unfold m_Fore_turnsTillSame_B13
  refine s_iload_n C e_Fore_turnsTillSame_13 rfl ?_
  refine s_sipush C e_Fore_turnsTillSame_14 (v := (200 : Int32)) sp_200 ?_
  refine s_icmp_gt (tgt := 42) C e_Fore_turnsTillSame_17 rfl ?_ ?_
  · refine s_ldc C e_Fore_turnsTillSame_42 g_261 ?_
    exact s_iret C e_Fore_turnsTillSame_44
  · refine s_aload_n C e_Fore_turnsTillSame_20 rfl ?_
    refine s_get C fc_2 zx_lt_15 (zx_15 _ _ _) 0 (by decide) e_Fore_turnsTillSame_21 g_251 rfl ?_
    refine s_callVv_0 C (c_Board_turn C.inj hb28 _) wv_Board_turn g_254 ⟨by decide, by decide⟩ fc_1 rfl (zb_lt hb28) (zb hb28 _ _ _) rfl (Nat.le_of_ble_eq_true rfl) e_Fore_turnsTillSame_24 (fun v1 σ2 => ?_)
    refine s_aload_n C e_Fore_turnsTillSame_27 rfl ?_
    refine s_callV_0 C (c_Fore_isSamePlaces C.inj _) wv_Fore_isSamePlaces g_268 ⟨by decide, by decide⟩ fc_2 rfl zx_lt_15 (zx_15 _ _ _) rfl (Nat.le_of_ble_eq_true rfl) e_Fore_turnsTillSame_28 (fun v3 σ4 => ?_)
    refine s_if_eq (tgt := 36) C e_Fore_turnsTillSame_31 rfl ?_ ?_
    · refine s_iinc C e_Fore_turnsTillSame_36 (v := (1 : Int32)) rfl (by decide) ii_1 ?_
      refine s_goto (tgt := 13) C e_Fore_turnsTillSame_39 rfl ?_
      exact s_cut (hr13 _ _) ⟨rfl, rfl, trivial⟩
    · refine s_iload_n C e_Fore_turnsTillSame_34 rfl ?_
      exact s_iret C e_Fore_turnsTillSame_35
theorem w_Fore_turnsTillSame_L13 {X : CX} (C : Cx X ZX RX2 cX2_turnsTillSame 2 (some .int) 5 107)   : ∀ (n : Nat) (σ : St) (x1 : Int32), Sm X ZX 2 (some .int) σ [(0, .ref (cq X 15)), (1, .int x1)] 13 [] (m_Fore_turnsTillSame_L13 n σ x1)
  | 0, _, _ => s_none
  | n + 1, σ, x1 => w_Fore_turnsTillSame_B13 C (m_Fore_turnsTillSame_L13 n) (w_Fore_turnsTillSame_L13 C n) σ x1
set_option maxRecDepth 100000 in
theorem w_Fore_turnsTillSame {X : CX} (C : Cx X ZX RX2 cX2_turnsTillSame 2 (some .int) 5 107)  (σ : St)  : Sm X ZX 2 (some .int) σ [(0, .ref (cq X 15))] 0 [] (m_Fore_turnsTillSame σ) := by
  unfold m_Fore_turnsTillSame
  refine s_aload_n C e_Fore_turnsTillSame_0 rfl ?_
  refine s_get C fc_2 zx_lt_15 (zx_15 _ _ _) 0 (by decide) e_Fore_turnsTillSame_1 g_251 rfl ?_
  refine s_aload_n C e_Fore_turnsTillSame_4 rfl ?_
  refine s_get C fc_2 zx_lt_15 (zx_15 _ _ _) 1 (by decide) e_Fore_turnsTillSame_5 g_252 rfl ?_
  refine s_callVv_1 C (c_Board_takeFrom C.inj hb28 hb21 _) wv_Board_takeFrom g_253 ⟨by decide, by decide⟩ fc_1 rfl (zb_lt hb28) (zb hb28 _ _ _) rfl (Nat.le_of_ble_eq_true rfl) e_Fore_turnsTillSame_8 (fun v1 σ2 => ?_)
  refine s_iconst C e_Fore_turnsTillSame_11 (v := (1 : Int32)) ic_1 ?_
  refine s_istore_n C e_Fore_turnsTillSame_12 (by decide) ?_
  exact s_cut (w_Fore_turnsTillSame_L13 C FU _ _) ⟨rfl, rfl, trivial⟩
theorem c_Fore_turnsTillSame {l : Launch} {D : va_G} {k : Nat → ClassId} {q : Nat → Nat} (hq : Inj ZX q)  (σ : St)  : Ct l ZX D k q yX2_turnsTillSame cX2_turnsTillSame 2 (some .int) 5 107 [.ref (q 15)] σ (m_Fore_turnsTillSame σ) :=
  Ct_of hq lcX (by decide) (Nat.le_of_ble_eq_true rfl) (fun _ _ _ _ _ _ _ _ _ _ C => w_Fore_turnsTillSame C σ)
set_option maxRecDepth 100000 in
theorem w_P_round {X : CX} (C : Cx X ZX RX6 cX6_round 1 (some .int) 6 128)  (σ : St)  : Sm X ZX 1 (some .int) σ [(0, .ref (cq X 0))] 0 [] (m_P_round σ) := by
  unfold m_P_round
  refine s_aload_n C e_P_round_0 rfl ?_
  refine s_get C fc_6 zx_lt_0 (zx_0 _ _ _) 2 (by decide) e_P_round_1 g_142 rfl ?_
  refine s_callV_0 C (c_Board_stands C.inj hb21 _) wv_Board_stands g_215 ⟨by decide, by decide⟩ fc_1 rfl (zb_lt hb21) (zb hb21 _ _ _) rfl (Nat.le_of_ble_eq_true rfl) e_P_round_4 (fun v1 σ2 => ?_)
  refine s_if_eq (tgt := 20) C e_P_round_7 rfl ?_ ?_
  · refine s_ldc C e_P_round_20 g_214 ?_
    exact s_iret C e_P_round_22
  · refine s_aload_n C e_P_round_10 rfl ?_
    refine s_get C fc_6 zx_lt_0 (zx_0 _ _ _) 3 (by decide) e_P_round_11 g_140 rfl ?_
    refine s_callV_0 C (c_Fore_turnsTillSame C.inj _) wv_Fore_turnsTillSame g_272 ⟨by decide, by decide⟩ fc_2 rfl zx_lt_15 (zx_15 _ _ _) rfl (Nat.le_of_ble_eq_true rfl) e_P_round_14 (fun v3 σ4 => ?_)
    refine s_goto (tgt := 22) C e_P_round_17 rfl ?_
    exact s_iret C e_P_round_22
theorem c_P_round {l : Launch} {D : va_G} {k : Nat → ClassId} {q : Nat → Nat} (hq : Inj ZX q)  (σ : St)  : Ct l ZX D k q yX6_round cX6_round 1 (some .int) 6 128 [.ref (q 0)] σ (m_P_round σ) :=
  Ct_of hq lcX (by decide) (Nat.le_of_ble_eq_true rfl) (fun _ _ _ _ _ _ _ _ _ _ C => w_P_round C σ)
set_option maxRecDepth 100000 in
theorem w_Board_pinsAtHome_B34 {X : CX} (C : Cx X ZX RX1 cX1_pinsAtHome 3 (some .int) 1 21) {b : Nat} (hb : isB b) (r4 : St → Int32 → Int32 → Rt) (hr4 : ∀ (σ : St) (x1 : Int32) (x2 : Int32), Sm X ZX 3 (some .int) σ [(0, .ref (cq X b)), (1, .int x1), (2, .int x2)] 4 [] (r4 σ x1 x2)) (σ : St) (x2 : Int32) (s0 : Int32) (s1 : Int32) : Sm X ZX 3 (some .int) σ [(0, .ref (cq X b)), (2, .int x2)] 34 [.int s0, .int s1] (m_Board_pinsAtHome_B34 b r4 σ x2 s0 s1) := by
  unfold m_Board_pinsAtHome_B34
  refine s_ior C e_Board_pinsAtHome_34 ?_
  refine s_nm (fun y1 => ?_)
  refine s_istore_n C e_Board_pinsAtHome_35 (by decide) ?_
  refine s_iinc C e_Board_pinsAtHome_36 (v := (1 : Int32)) rfl (by decide) ii_1 ?_
  refine s_goto (tgt := 4) C e_Board_pinsAtHome_39 rfl ?_
  exact s_cut (hr4 _ _ _) ⟨rfl, rfl, rfl, trivial⟩
set_option maxRecDepth 100000 in
theorem w_Board_pinsAtHome_B4 {X : CX} (C : Cx X ZX RX1 cX1_pinsAtHome 3 (some .int) 1 21) {b : Nat} (hb : isB b) (r4 : St → Int32 → Int32 → Rt) (hr4 : ∀ (σ : St) (x1 : Int32) (x2 : Int32), Sm X ZX 3 (some .int) σ [(0, .ref (cq X b)), (1, .int x1), (2, .int x2)] 4 [] (r4 σ x1 x2)) (σ : St) (x1 : Int32) (x2 : Int32) : Sm X ZX 3 (some .int) σ [(0, .ref (cq X b)), (1, .int x1), (2, .int x2)] 4 [] (m_Board_pinsAtHome_B4 b r4 σ x1 x2) := by
  unfold m_Board_pinsAtHome_B4
  refine s_iload_n C e_Board_pinsAtHome_4 rfl ?_
  refine s_aload_n C e_Board_pinsAtHome_5 rfl ?_
  refine s_get C fc_1 (zb_lt hb) (zb hb _ _ _) 1 (by decide) e_Board_pinsAtHome_6 g_59 rfl ?_
  refine s_icmp_ge (tgt := 42) C e_Board_pinsAtHome_9 rfl ?_ ?_
  · refine s_iload_n C e_Board_pinsAtHome_42 rfl ?_
    exact s_iret C e_Board_pinsAtHome_43
  · refine s_iload_n C e_Board_pinsAtHome_12 rfl ?_
    refine s_aload_n C e_Board_pinsAtHome_13 rfl ?_
    refine s_iload_n C e_Board_pinsAtHome_14 rfl ?_
    refine s_callV_1 C (c_Board_place C.inj hb _ _) wv_Board_place g_179 ⟨by decide, by decide⟩ fc_1 rfl (zb_lt hb) (zb hb _ _ _) rfl (Nat.le_of_ble_eq_true rfl) e_Board_pinsAtHome_15 (fun v1 σ2 => ?_)
    refine s_aload_n C e_Board_pinsAtHome_18 rfl ?_
    refine s_get C fc_1 (zb_lt hb) (zb hb _ _ _) 7 (by decide) e_Board_pinsAtHome_19 g_93 rfl ?_
    refine s_iload_n C e_Board_pinsAtHome_22 rfl ?_
    refine s_iald C (zb2_lt hb) (zb2 hb) e_Board_pinsAtHome_23 ?_
    refine s_icmp_ne (tgt := 33) C e_Board_pinsAtHome_24 rfl ?_ ?_
    · refine s_iconst C e_Board_pinsAtHome_27 (v := (1 : Int32)) ic_1 ?_
      refine s_iload_n C e_Board_pinsAtHome_28 rfl ?_
      refine s_ishl C e_Board_pinsAtHome_29 ?_
      refine s_goto (tgt := 34) C e_Board_pinsAtHome_30 rfl ?_
      exact s_cut (w_Board_pinsAtHome_B34 C hb r4 hr4 _ _ _ _) ⟨rfl, rfl, trivial⟩
    · refine s_iconst C e_Board_pinsAtHome_33 (v := (0 : Int32)) ic_0 ?_
      exact s_cut (w_Board_pinsAtHome_B34 C hb r4 hr4 _ _ _ _) ⟨rfl, rfl, trivial⟩
theorem w_Board_pinsAtHome_L4 {X : CX} (C : Cx X ZX RX1 cX1_pinsAtHome 3 (some .int) 1 21) {b : Nat} (hb : isB b)  : ∀ (n : Nat) (σ : St) (x1 : Int32) (x2 : Int32), Sm X ZX 3 (some .int) σ [(0, .ref (cq X b)), (1, .int x1), (2, .int x2)] 4 [] (m_Board_pinsAtHome_L4 b n σ x1 x2)
  | 0, _, _, _ => s_none
  | n + 1, σ, x1, x2 => w_Board_pinsAtHome_B4 C hb (m_Board_pinsAtHome_L4 b n) (w_Board_pinsAtHome_L4 C hb n) σ x1 x2
set_option maxRecDepth 100000 in
theorem w_Board_pinsAtHome {X : CX} (C : Cx X ZX RX1 cX1_pinsAtHome 3 (some .int) 1 21) {b : Nat} (hb : isB b) (σ : St)  : Sm X ZX 3 (some .int) σ [(0, .ref (cq X b))] 0 [] (m_Board_pinsAtHome b σ) := by
  unfold m_Board_pinsAtHome
  refine s_iconst C e_Board_pinsAtHome_0 (v := (0 : Int32)) ic_0 ?_
  refine s_istore_n C e_Board_pinsAtHome_1 (by decide) ?_
  refine s_iconst C e_Board_pinsAtHome_2 (v := (0 : Int32)) ic_0 ?_
  refine s_istore_n C e_Board_pinsAtHome_3 (by decide) ?_
  exact s_cut (w_Board_pinsAtHome_L4 C hb FU _ _ _) ⟨rfl, rfl, rfl, trivial⟩
theorem c_Board_pinsAtHome {l : Launch} {D : va_G} {k : Nat → ClassId} {q : Nat → Nat} (hq : Inj ZX q) {b : Nat} (hb : isB b) (σ : St)  : Ct l ZX D k q yX1_pinsAtHome cX1_pinsAtHome 3 (some .int) 1 21 [.ref (q b)] σ (m_Board_pinsAtHome b σ) :=
  Ct_of hq lcX (by decide) (Nat.le_of_ble_eq_true rfl) (fun _ _ _ _ _ _ _ _ _ _ C => w_Board_pinsAtHome C hb σ)
set_option maxRecDepth 100000 in
theorem w_Board_fillsHomes_B42 {X : CX} (C : Cx X ZX RX1 cX1_fillsHomes 4 (some .boolean) 1 20) {b : Nat} (hb : isB b)  (σ : St) (x1 : Int32) (x2 : Int32) : Sm X ZX 4 (some .boolean) σ [(0, .ref (cq X b)), (1, .int x1), (2, .int x2)] 42 [] (m_Board_fillsHomes_B42 b σ x1 x2) := by
  unfold m_Board_fillsHomes_B42
  refine s_iload_n C e_Board_fillsHomes_42 rfl ?_
  refine s_iload_n C e_Board_fillsHomes_43 rfl ?_
  refine s_icmp_ne (tgt := 62) C e_Board_fillsHomes_44 rfl ?_ ?_
  · refine s_iload_n C e_Board_fillsHomes_47 rfl ?_
    refine s_callS_1 C (c_I_bitCount C.inj C.lc _ _) wv_I_bitCount g_191 ⟨by decide, by decide⟩ rfl (Nat.le_of_ble_eq_true rfl) e_Board_fillsHomes_48 (fun v1 σ2 => ?_)
    refine s_aload_n C e_Board_fillsHomes_51 rfl ?_
    refine s_get C fc_1 (zb_lt hb) (zb hb _ _ _) 1 (by decide) e_Board_fillsHomes_52 g_59 rfl ?_
    refine s_icmp_ne (tgt := 62) C e_Board_fillsHomes_55 rfl ?_ ?_
    · refine s_iconst C e_Board_fillsHomes_58 (v := (1 : Int32)) ic_1 ?_
      refine s_goto (tgt := 63) C e_Board_fillsHomes_59 rfl ?_
      exact s_zret C e_Board_fillsHomes_63
    · refine s_iconst C e_Board_fillsHomes_62 (v := (0 : Int32)) ic_0 ?_
      exact s_zret C e_Board_fillsHomes_63
  · refine s_iconst C e_Board_fillsHomes_62 (v := (0 : Int32)) ic_0 ?_
    exact s_zret C e_Board_fillsHomes_63
set_option maxRecDepth 100000 in
theorem w_Board_fillsHomes_B6 {X : CX} (C : Cx X ZX RX1 cX1_fillsHomes 4 (some .boolean) 1 20) {b : Nat} (hb : isB b) (r6 : St → Int32 → Int32 → Int32 → Rt) (hr6 : ∀ (σ : St) (x1 : Int32) (x2 : Int32) (x3 : Int32), Sm X ZX 4 (some .boolean) σ [(0, .ref (cq X b)), (1, .int x1), (2, .int x2), (3, .int x3)] 6 [] (r6 σ x1 x2 x3)) (σ : St) (x1 : Int32) (x2 : Int32) (x3 : Int32) : Sm X ZX 4 (some .boolean) σ [(0, .ref (cq X b)), (1, .int x1), (2, .int x2), (3, .int x3)] 6 [] (m_Board_fillsHomes_B6 b r6 σ x1 x2 x3) := by
  unfold m_Board_fillsHomes_B6
  refine s_iload_n C e_Board_fillsHomes_6 rfl ?_
  refine s_aload_n C e_Board_fillsHomes_7 rfl ?_
  refine s_get C fc_1 (zb_lt hb) (zb hb _ _ _) 1 (by decide) e_Board_fillsHomes_8 g_59 rfl ?_
  refine s_icmp_ge (tgt := 42) C e_Board_fillsHomes_11 rfl ?_ ?_
  · exact s_cut (w_Board_fillsHomes_B42 C hb _ _ _) ⟨rfl, rfl, rfl, trivial⟩
  · refine s_iload_n C e_Board_fillsHomes_14 rfl ?_
    refine s_iconst C e_Board_fillsHomes_15 (v := (1 : Int32)) ic_1 ?_
    refine s_aload_n C e_Board_fillsHomes_16 rfl ?_
    refine s_get C fc_1 (zb_lt hb) (zb hb _ _ _) 11 (by decide) e_Board_fillsHomes_17 g_138 rfl ?_
    refine s_iload_n C e_Board_fillsHomes_20 rfl ?_
    refine s_iald C (zb6_lt hb) (zb6 hb) e_Board_fillsHomes_21 ?_
    refine s_ishl C e_Board_fillsHomes_22 ?_
    refine s_ior C e_Board_fillsHomes_23 ?_
    refine s_nm (fun y1 => ?_)
    refine s_istore_n C e_Board_fillsHomes_24 (by decide) ?_
    refine s_iload_n C e_Board_fillsHomes_25 rfl ?_
    refine s_iconst C e_Board_fillsHomes_26 (v := (1 : Int32)) ic_1 ?_
    refine s_aload_n C e_Board_fillsHomes_27 rfl ?_
    refine s_get C fc_1 (zb_lt hb) (zb hb _ _ _) 7 (by decide) e_Board_fillsHomes_28 g_93 rfl ?_
    refine s_iload_n C e_Board_fillsHomes_31 rfl ?_
    refine s_iald C (zb2_lt hb) (zb2 hb) e_Board_fillsHomes_32 ?_
    refine s_ishl C e_Board_fillsHomes_33 ?_
    refine s_ior C e_Board_fillsHomes_34 ?_
    refine s_nm (fun y2 => ?_)
    refine s_istore_n C e_Board_fillsHomes_35 (by decide) ?_
    refine s_iinc C e_Board_fillsHomes_36 (v := (1 : Int32)) rfl (by decide) ii_1 ?_
    refine s_goto (tgt := 6) C e_Board_fillsHomes_39 rfl ?_
    exact s_cut (hr6 _ _ _ _) ⟨rfl, rfl, rfl, rfl, trivial⟩
theorem w_Board_fillsHomes_L6 {X : CX} (C : Cx X ZX RX1 cX1_fillsHomes 4 (some .boolean) 1 20) {b : Nat} (hb : isB b)  : ∀ (n : Nat) (σ : St) (x1 : Int32) (x2 : Int32) (x3 : Int32), Sm X ZX 4 (some .boolean) σ [(0, .ref (cq X b)), (1, .int x1), (2, .int x2), (3, .int x3)] 6 [] (m_Board_fillsHomes_L6 b n σ x1 x2 x3)
  | 0, _, _, _, _ => s_none
  | n + 1, σ, x1, x2, x3 => w_Board_fillsHomes_B6 C hb (m_Board_fillsHomes_L6 b n) (w_Board_fillsHomes_L6 C hb n) σ x1 x2 x3
set_option maxRecDepth 100000 in
theorem w_Board_fillsHomes {X : CX} (C : Cx X ZX RX1 cX1_fillsHomes 4 (some .boolean) 1 20) {b : Nat} (hb : isB b) (σ : St)  : Sm X ZX 4 (some .boolean) σ [(0, .ref (cq X b))] 0 [] (m_Board_fillsHomes b σ) := by
  unfold m_Board_fillsHomes
  refine s_iconst C e_Board_fillsHomes_0 (v := (0 : Int32)) ic_0 ?_
  refine s_istore_n C e_Board_fillsHomes_1 (by decide) ?_
  refine s_iconst C e_Board_fillsHomes_2 (v := (0 : Int32)) ic_0 ?_
  refine s_istore_n C e_Board_fillsHomes_3 (by decide) ?_
  refine s_iconst C e_Board_fillsHomes_4 (v := (0 : Int32)) ic_0 ?_
  refine s_istore_n C e_Board_fillsHomes_5 (by decide) ?_
  exact s_cut (w_Board_fillsHomes_L6 C hb FU _ _ _ _) ⟨rfl, rfl, rfl, rfl, trivial⟩
theorem c_Board_fillsHomes {l : Launch} {D : va_G} {k : Nat → ClassId} {q : Nat → Nat} (hq : Inj ZX q) {b : Nat} (hb : isB b) (σ : St)  : Ct l ZX D k q yX1_fillsHomes cX1_fillsHomes 4 (some .boolean) 1 20 [.ref (q b)] σ (m_Board_fillsHomes b σ) :=
  Ct_of hq lcX (by decide) (Nat.le_of_ble_eq_true rfl) (fun _ _ _ _ _ _ _ _ _ _ C => w_Board_fillsHomes C hb σ)
set_option maxRecDepth 100000 in
theorem w_Board_ringOf_B7 {X : CX} (C : Cx X ZX RX1 cX1_ringOf 5 (some .int) 2 43) {b : Nat} (hb : isB b) (r7 : St → Int32 → Int32 → Int32 → Rt) (hr7 : ∀ (σ : St) (x2 : Int32) (x3 : Int32) (x4 : Int32), Sm X ZX 5 (some .int) σ [(0, .ref (cq X b)), (2, .int x2), (3, .int x3), (4, .int x4)] 7 [] (r7 σ x2 x3 x4)) (σ : St) (x2 : Int32) (x3 : Int32) (x4 : Int32) : Sm X ZX 5 (some .int) σ [(0, .ref (cq X b)), (2, .int x2), (3, .int x3), (4, .int x4)] 7 [] (m_Board_ringOf_B7 b r7 σ x2 x3 x4) := by
  unfold m_Board_ringOf_B7
  refine s_iload C e_Board_ringOf_7 rfl ?_
  refine s_aload_n C e_Board_ringOf_9 rfl ?_
  refine s_get C fc_1 (zb_lt hb) (zb hb _ _ _) 1 (by decide) e_Board_ringOf_10 g_59 rfl ?_
  refine s_icmp_ge (tgt := 47) C e_Board_ringOf_13 rfl ?_ ?_
  · refine s_iload_n C e_Board_ringOf_47 rfl ?_
    exact s_iret C e_Board_ringOf_48
  · refine s_aload_n C e_Board_ringOf_16 rfl ?_
    refine s_iload_n C e_Board_ringOf_17 rfl ?_
    refine s_callV_1 C (c_Board_hasPin C.inj hb _ _) wv_Board_hasPin g_277 ⟨by decide, by decide⟩ fc_1 rfl (zb_lt hb) (zb hb _ _ _) rfl (Nat.le_of_ble_eq_true rfl) e_Board_ringOf_18 (fun v1 σ2 => ?_)
    refine s_if_eq (tgt := 47) C e_Board_ringOf_21 rfl ?_ ?_
    · refine s_iload_n C e_Board_ringOf_47 rfl ?_
      exact s_iret C e_Board_ringOf_48
    · refine s_iload_n C e_Board_ringOf_24 rfl ?_
      refine s_iconst C e_Board_ringOf_25 (v := (1 : Int32)) ic_1 ?_
      refine s_iload_n C e_Board_ringOf_26 rfl ?_
      refine s_ishl C e_Board_ringOf_27 ?_
      refine s_ior C e_Board_ringOf_28 ?_
      refine s_nm (fun y3 => ?_)
      refine s_istore_n C e_Board_ringOf_29 (by decide) ?_
      refine s_aload_n C e_Board_ringOf_30 rfl ?_
      refine s_aload_n C e_Board_ringOf_31 rfl ?_
      refine s_get C fc_1 (zb_lt hb) (zb hb _ _ _) 11 (by decide) e_Board_ringOf_32 g_138 rfl ?_
      refine s_iload_n C e_Board_ringOf_35 rfl ?_
      refine s_iald C (zb6_lt hb) (zb6 hb) e_Board_ringOf_36 ?_
      refine s_callV_1 C (c_Board_owner C.inj hb _ _) wv_Board_owner g_276 ⟨by decide, by decide⟩ fc_1 rfl (zb_lt hb) (zb hb _ _ _) rfl (Nat.le_of_ble_eq_true rfl) e_Board_ringOf_37 (fun v4 σ5 => ?_)
      refine s_istore_n C e_Board_ringOf_40 (by decide) ?_
      refine s_iinc C e_Board_ringOf_41 (v := (1 : Int32)) rfl (by decide) ii_1 ?_
      refine s_goto (tgt := 7) C e_Board_ringOf_44 rfl ?_
      exact s_cut (hr7 _ _ _ _) ⟨rfl, rfl, rfl, rfl, trivial⟩
theorem w_Board_ringOf_L7 {X : CX} (C : Cx X ZX RX1 cX1_ringOf 5 (some .int) 2 43) {b : Nat} (hb : isB b)  : ∀ (n : Nat) (σ : St) (x2 : Int32) (x3 : Int32) (x4 : Int32), Sm X ZX 5 (some .int) σ [(0, .ref (cq X b)), (2, .int x2), (3, .int x3), (4, .int x4)] 7 [] (m_Board_ringOf_L7 b n σ x2 x3 x4)
  | 0, _, _, _, _ => s_none
  | n + 1, σ, x2, x3, x4 => w_Board_ringOf_B7 C hb (m_Board_ringOf_L7 b n) (w_Board_ringOf_L7 C hb n) σ x2 x3 x4
set_option maxRecDepth 100000 in
theorem w_Board_ringOf {X : CX} (C : Cx X ZX RX1 cX1_ringOf 5 (some .int) 2 43) {b : Nat} (hb : isB b) (σ : St) (x1 : Int32) : Sm X ZX 5 (some .int) σ [(0, .ref (cq X b)), (1, .int x1)] 0 [] (m_Board_ringOf b σ x1) := by
  unfold m_Board_ringOf
  refine s_iconst C e_Board_ringOf_0 (v := (0 : Int32)) ic_0 ?_
  refine s_istore_n C e_Board_ringOf_1 (by decide) ?_
  refine s_iload_n C e_Board_ringOf_2 rfl ?_
  refine s_istore_n C e_Board_ringOf_3 (by decide) ?_
  refine s_iconst C e_Board_ringOf_4 (v := (0 : Int32)) ic_0 ?_
  refine s_istore C e_Board_ringOf_5 (by decide) ?_
  exact s_cut (w_Board_ringOf_L7 C hb FU _ _ _ _) ⟨rfl, rfl, rfl, rfl, trivial⟩
theorem c_Board_ringOf {l : Launch} {D : va_G} {k : Nat → ClassId} {q : Nat → Nat} (hq : Inj ZX q) {b : Nat} (hb : isB b) (σ : St) (x1 : Int32) : Ct l ZX D k q yX1_ringOf cX1_ringOf 5 (some .int) 2 43 [.ref (q b), .int x1] σ (m_Board_ringOf b σ x1) :=
  Ct_of hq lcX (by decide) (Nat.le_of_ble_eq_true rfl) (fun _ _ _ _ _ _ _ _ _ _ C => w_Board_ringOf C hb σ x1)
set_option maxRecDepth 100000 in
theorem w_Board_fewestChanges_B45 {X : CX} (C : Cx X ZX RX1 cX1_fewestChanges 4 (some .int) 3 67) {b : Nat} (hb : isB b) (r23 : St → Int32 → Int32 → Int32 → Rt) (hr23 : ∀ (σ : St) (x1 : Int32) (x2 : Int32) (x3 : Int32), Sm X ZX 4 (some .int) σ [(0, .ref (cq X b)), (1, .int x1), (2, .int x2), (3, .int x3)] 23 [] (r23 σ x1 x2 x3)) (σ : St) (x2 : Int32) (x3 : Int32) (s0 : Int32) (s1 : Int32) : Sm X ZX 4 (some .int) σ [(0, .ref (cq X b)), (2, .int x2), (3, .int x3)] 45 [.int s0, .int s1] (m_Board_fewestChanges_B45 b r23 σ x2 x3 s0 s1) := by
  unfold m_Board_fewestChanges_B45
  refine s_iadd C e_Board_fewestChanges_45 ?_
  refine s_nm (fun y1 => ?_)
  refine s_istore_n C e_Board_fewestChanges_46 (by decide) ?_
  refine s_iload_n C e_Board_fewestChanges_47 rfl ?_
  refine s_aload_n C e_Board_fewestChanges_48 rfl ?_
  refine s_iload_n C e_Board_fewestChanges_49 rfl ?_
  refine s_callV_1 C (c_Board_ringOf C.inj hb _ _) wv_Board_ringOf g_282 ⟨by decide, by decide⟩ fc_1 rfl (zb_lt hb) (zb hb _ _ _) rfl (Nat.le_of_ble_eq_true rfl) e_Board_fewestChanges_50 (fun v2 σ3 => ?_)
  refine s_ior C e_Board_fewestChanges_53 ?_
  refine s_nm (fun y4 => ?_)
  refine s_istore_n C e_Board_fewestChanges_54 (by decide) ?_
  refine s_iinc C e_Board_fewestChanges_55 (v := (1 : Int32)) rfl (by decide) ii_1 ?_
  refine s_goto (tgt := 23) C e_Board_fewestChanges_58 rfl ?_
  exact s_cut (hr23 _ _ _ _) ⟨rfl, rfl, rfl, rfl, trivial⟩
set_option maxRecDepth 100000 in
theorem w_Board_fewestChanges_B23 {X : CX} (C : Cx X ZX RX1 cX1_fewestChanges 4 (some .int) 3 67) {b : Nat} (hb : isB b) (r23 : St → Int32 → Int32 → Int32 → Rt) (hr23 : ∀ (σ : St) (x1 : Int32) (x2 : Int32) (x3 : Int32), Sm X ZX 4 (some .int) σ [(0, .ref (cq X b)), (1, .int x1), (2, .int x2), (3, .int x3)] 23 [] (r23 σ x1 x2 x3)) (σ : St) (x1 : Int32) (x2 : Int32) (x3 : Int32) : Sm X ZX 4 (some .int) σ [(0, .ref (cq X b)), (1, .int x1), (2, .int x2), (3, .int x3)] 23 [] (m_Board_fewestChanges_B23 b r23 σ x1 x2 x3) := by
  unfold m_Board_fewestChanges_B23
  refine s_iload_n C e_Board_fewestChanges_23 rfl ?_
  refine s_aload_n C e_Board_fewestChanges_24 rfl ?_
  refine s_get C fc_1 (zb_lt hb) (zb hb _ _ _) 1 (by decide) e_Board_fewestChanges_25 g_59 rfl ?_
  refine s_icmp_ge (tgt := 61) C e_Board_fewestChanges_28 rfl ?_ ?_
  · refine s_aload_n C e_Board_fewestChanges_61 rfl ?_
    refine s_get C fc_1 (zb_lt hb) (zb hb _ _ _) 1 (by decide) e_Board_fewestChanges_62 g_59 rfl ?_
    refine s_iload_n C e_Board_fewestChanges_65 rfl ?_
    refine s_isub C e_Board_fewestChanges_66 ?_
    exact s_iret C e_Board_fewestChanges_67
  · refine s_iload_n C e_Board_fewestChanges_31 rfl ?_
    refine s_iload_n C e_Board_fewestChanges_32 rfl ?_
    refine s_iload_n C e_Board_fewestChanges_33 rfl ?_
    refine s_callN_2 C (c_P_isSet C.inj _ _ _) wv_P_isSet g_176 ⟨by decide, by decide⟩ rfl (Nat.le_of_ble_eq_true rfl) e_Board_fewestChanges_34 (fun v1 σ2 => ?_)
    refine s_if_eq (tgt := 44) C e_Board_fewestChanges_37 rfl ?_ ?_
    · refine s_iconst C e_Board_fewestChanges_44 (v := (1 : Int32)) ic_1 ?_
      exact s_cut (w_Board_fewestChanges_B45 C hb r23 hr23 _ _ _ _ _) ⟨rfl, rfl, rfl, trivial⟩
    · refine s_iconst C e_Board_fewestChanges_40 (v := (0 : Int32)) ic_0 ?_
      refine s_goto (tgt := 45) C e_Board_fewestChanges_41 rfl ?_
      exact s_cut (w_Board_fewestChanges_B45 C hb r23 hr23 _ _ _ _ _) ⟨rfl, rfl, rfl, trivial⟩
theorem w_Board_fewestChanges_L23 {X : CX} (C : Cx X ZX RX1 cX1_fewestChanges 4 (some .int) 3 67) {b : Nat} (hb : isB b)  : ∀ (n : Nat) (σ : St) (x1 : Int32) (x2 : Int32) (x3 : Int32), Sm X ZX 4 (some .int) σ [(0, .ref (cq X b)), (1, .int x1), (2, .int x2), (3, .int x3)] 23 [] (m_Board_fewestChanges_L23 b n σ x1 x2 x3)
  | 0, _, _, _, _ => s_none
  | n + 1, σ, x1, x2, x3 => w_Board_fewestChanges_B23 C hb (m_Board_fewestChanges_L23 b n) (w_Board_fewestChanges_L23 C hb n) σ x1 x2 x3
set_option maxRecDepth 100000 in
theorem w_Board_fewestChanges {X : CX} (C : Cx X ZX RX1 cX1_fewestChanges 4 (some .int) 3 67) {b : Nat} (hb : isB b) (σ : St)  : Sm X ZX 4 (some .int) σ [(0, .ref (cq X b))] 0 [] (m_Board_fewestChanges b σ) := by
  unfold m_Board_fewestChanges
  refine s_aload_n C e_Board_fewestChanges_0 rfl ?_
  refine s_get C fc_1 (zb_lt hb) (zb hb _ _ _) 5 (by decide) e_Board_fewestChanges_1 g_63 rfl ?_
  refine s_if_eq (tgt := 14) C e_Board_fewestChanges_4 rfl ?_ ?_
  · refine s_ldc C e_Board_fewestChanges_14 g_92 ?_
    exact s_iret C e_Board_fewestChanges_16
  · refine s_aload_n C e_Board_fewestChanges_7 rfl ?_
    refine s_callV_0 C (c_Board_fillsHomes C.inj hb _) wv_Board_fillsHomes g_278 ⟨by decide, by decide⟩ fc_1 rfl (zb_lt hb) (zb hb _ _ _) rfl (Nat.le_of_ble_eq_true rfl) e_Board_fewestChanges_8 (fun v1 σ2 => ?_)
    refine s_if_ne (tgt := 17) C e_Board_fewestChanges_11 rfl ?_ ?_
    · refine s_ldc C e_Board_fewestChanges_14 g_92 ?_
      exact s_iret C e_Board_fewestChanges_16
    · refine s_iconst C e_Board_fewestChanges_17 (v := (0 : Int32)) ic_0 ?_
      refine s_istore_n C e_Board_fewestChanges_18 (by decide) ?_
      refine s_iconst C e_Board_fewestChanges_19 (v := (0 : Int32)) ic_0 ?_
      refine s_istore_n C e_Board_fewestChanges_20 (by decide) ?_
      refine s_iconst C e_Board_fewestChanges_21 (v := (0 : Int32)) ic_0 ?_
      refine s_istore_n C e_Board_fewestChanges_22 (by decide) ?_
      exact s_cut (w_Board_fewestChanges_L23 C hb FU _ _ _ _) ⟨rfl, rfl, rfl, rfl, trivial⟩
theorem c_Board_fewestChanges {l : Launch} {D : va_G} {k : Nat → ClassId} {q : Nat → Nat} (hq : Inj ZX q) {b : Nat} (hb : isB b) (σ : St)  : Ct l ZX D k q yX1_fewestChanges cX1_fewestChanges 4 (some .int) 3 67 [.ref (q b)] σ (m_Board_fewestChanges b σ) :=
  Ct_of hq lcX (by decide) (Nat.le_of_ble_eq_true rfl) (fun _ _ _ _ _ _ _ _ _ _ C => w_Board_fewestChanges C hb σ)
set_option maxRecDepth 100000 in
theorem w_P_right {X : CX} (C : Cx X ZX RX6 cX6_right 2 (some .int) 4 90)  (σ : St) (x1 : Int32) : Sm X ZX 2 (some .int) σ [(0, .ref (cq X 0)), (1, .int x1)] 0 [] (m_P_right σ x1) := by
  unfold m_P_right
  refine s_aload_n C e_P_right_0 rfl ?_
  refine s_get C fc_6 zx_lt_0 (zx_0 _ _ _) 2 (by decide) e_P_right_1 g_142 rfl ?_
  refine s_callV_0 C (c_Board_stands C.inj hb21 _) wv_Board_stands g_215 ⟨by decide, by decide⟩ fc_1 rfl (zb_lt hb21) (zb hb21 _ _ _) rfl (Nat.le_of_ble_eq_true rfl) e_P_right_4 (fun v1 σ2 => ?_)
  refine s_if_ne (tgt := 13) C e_P_right_7 rfl ?_ ?_
  · refine s_ldc C e_P_right_10 g_214 ?_
    exact s_iret C e_P_right_12
  · refine s_iload_n C e_P_right_13 rfl ?_
    refine s_split (fun h14_0 => ?_) (fun h14_0 => ?_)
    · refine s_look (off := 26) (tgt := 40) C e_P_right_14 rfl (by rw [h14_0]; rfl) rfl ?_
      refine s_aload_n C e_P_right_40 rfl ?_
      refine s_get C fc_6 zx_lt_0 (zx_0 _ _ _) 2 (by decide) e_P_right_41 g_142 rfl ?_
      refine s_callV_0 C (c_Board_pinsAtHome C.inj hb21 _) wv_Board_pinsAtHome g_286 ⟨by decide, by decide⟩ fc_1 rfl (zb_lt hb21) (zb hb21 _ _ _) rfl (Nat.le_of_ble_eq_true rfl) e_P_right_44 (fun v3 σ4 => ?_)
      exact s_iret C e_P_right_47
    · skip
      refine s_split (fun h14_1 => ?_) (fun h14_1 => ?_)
      · refine s_look (off := 34) (tgt := 48) C e_P_right_14 rfl (by rw [h14_1]; rfl) rfl ?_
        refine s_aload_n C e_P_right_48 rfl ?_
        refine s_get C fc_6 zx_lt_0 (zx_0 _ _ _) 2 (by decide) e_P_right_49 g_142 rfl ?_
        refine s_callV_0 C (c_Board_fewestChanges C.inj hb21 _) wv_Board_fewestChanges g_290 ⟨by decide, by decide⟩ fc_1 rfl (zb_lt hb21) (zb hb21 _ _ _) rfl (Nat.le_of_ble_eq_true rfl) e_P_right_52 (fun v5 σ6 => ?_)
        exact s_iret C e_P_right_55
      · skip
        refine s_look (off := 42) (tgt := 56) C e_P_right_14 rfl (by simp [Op.lookupswitch.offset, Ne.symm (ne_i (z := 0) rfl h14_0), Ne.symm (ne_i (z := 1) rfl h14_1)]) rfl ?_
        refine s_ldc C e_P_right_56 g_10 ?_
        exact s_iret C e_P_right_58
theorem c_P_right {l : Launch} {D : va_G} {k : Nat → ClassId} {q : Nat → Nat} (hq : Inj ZX q)  (σ : St) (x1 : Int32) : Ct l ZX D k q yX6_right cX6_right 2 (some .int) 4 90 [.ref (q 0), .int x1] σ (m_P_right σ x1) :=
  Ct_of hq lcX (by decide) (Nat.le_of_ble_eq_true rfl) (fun _ _ _ _ _ _ _ _ _ _ C => w_P_right C σ x1)
set_option maxRecDepth 100000 in
theorem w_Fore_strongest_B65 {X : CX} (C : Cx X ZX RX2 cX2_strongest 5 (some .int) 1 21)  (r5 : St → Int32 → Int32 → Int32 → Rt) (hr5 : ∀ (σ : St) (x1 : Int32) (x2 : Int32) (x3 : Int32), Sm X ZX 5 (some .int) σ [(0, .ref (cq X 15)), (1, .int x1), (2, .int x2), (3, .int x3)] 5 [] (r5 σ x1 x2 x3)) (σ : St) (x1 : Int32) (x2 : Int32) (x3 : Int32) : Sm X ZX 5 (some .int) σ [(0, .ref (cq X 15)), (1, .int x1), (2, .int x2), (3, .int x3)] 65 [] (m_Fore_strongest_B65 r5 σ x1 x2 x3) := by
  unfold m_Fore_strongest_B65
  refine s_iinc C e_Fore_strongest_65 (v := (1 : Int32)) rfl (by decide) ii_1 ?_
  refine s_goto (tgt := 5) C e_Fore_strongest_68 rfl ?_
  exact s_cut (hr5 _ _ _ _) ⟨rfl, rfl, rfl, rfl, trivial⟩
set_option maxRecDepth 100000 in
theorem w_Fore_strongest_B63 {X : CX} (C : Cx X ZX RX2 cX2_strongest 5 (some .int) 1 21)  (r5 : St → Int32 → Int32 → Int32 → Rt) (hr5 : ∀ (σ : St) (x1 : Int32) (x2 : Int32) (x3 : Int32), Sm X ZX 5 (some .int) σ [(0, .ref (cq X 15)), (1, .int x1), (2, .int x2), (3, .int x3)] 5 [] (r5 σ x1 x2 x3)) (σ : St) (x1 : Int32) (x3 : Int32) : Sm X ZX 5 (some .int) σ [(0, .ref (cq X 15)), (1, .int x1), (3, .int x3)] 63 [] (m_Fore_strongest_B63 r5 σ x1 x3) := by
  unfold m_Fore_strongest_B63
  refine s_iload_n C e_Fore_strongest_63 rfl ?_
  refine s_istore_n C e_Fore_strongest_64 (by decide) ?_
  exact s_cut (w_Fore_strongest_B65 C r5 hr5 _ _ _ _) ⟨rfl, rfl, rfl, rfl, trivial⟩
set_option maxRecDepth 100000 in
theorem w_Fore_strongest_B29 {X : CX} (C : Cx X ZX RX2 cX2_strongest 5 (some .int) 1 21)  (r5 : St → Int32 → Int32 → Int32 → Rt) (hr5 : ∀ (σ : St) (x1 : Int32) (x2 : Int32) (x3 : Int32), Sm X ZX 5 (some .int) σ [(0, .ref (cq X 15)), (1, .int x1), (2, .int x2), (3, .int x3)] 5 [] (r5 σ x1 x2 x3)) (σ : St) (x1 : Int32) (x2 : Int32) (x3 : Int32) (s0 : Int32) : Sm X ZX 5 (some .int) σ [(0, .ref (cq X 15)), (1, .int x1), (2, .int x2), (3, .int x3)] 29 [.int s0] (m_Fore_strongest_B29 r5 σ x1 x2 x3 s0) := by
  unfold m_Fore_strongest_B29
  refine s_istore C e_Fore_strongest_29 (by decide) ?_
  refine s_iload C e_Fore_strongest_31 rfl ?_
  refine s_if_eq (tgt := 65) C e_Fore_strongest_33 rfl ?_ ?_
  · exact s_cut (w_Fore_strongest_B65 C r5 hr5 _ _ _ _) ⟨rfl, rfl, rfl, rfl, trivial⟩
  · refine s_iload_n C e_Fore_strongest_36 rfl ?_
    refine s_ldc C e_Fore_strongest_37 g_261 ?_
    refine s_icmp_eq (tgt := 63) C e_Fore_strongest_39 rfl ?_ ?_
    · exact s_cut (w_Fore_strongest_B63 C r5 hr5 _ _ _) ⟨rfl, rfl, rfl, trivial⟩
    · refine s_aload_n C e_Fore_strongest_42 rfl ?_
      refine s_get C fc_2 zx_lt_15 (zx_15 _ _ _) 1 (by decide) e_Fore_strongest_43 g_252 rfl ?_
      refine s_get C fc_1 (zb_lt hb21) (zb hb21 _ _ _) 8 (by decide) e_Fore_strongest_46 g_295 rfl ?_
      refine s_iload_n C e_Fore_strongest_49 rfl ?_
      refine s_iald C (zb3_lt hb21) (zb3 hb21) e_Fore_strongest_50 ?_
      refine s_aload_n C e_Fore_strongest_51 rfl ?_
      refine s_get C fc_2 zx_lt_15 (zx_15 _ _ _) 1 (by decide) e_Fore_strongest_52 g_252 rfl ?_
      refine s_get C fc_1 (zb_lt hb21) (zb hb21 _ _ _) 8 (by decide) e_Fore_strongest_55 g_295 rfl ?_
      refine s_iload_n C e_Fore_strongest_58 rfl ?_
      refine s_iald C (zb3_lt hb21) (zb3 hb21) e_Fore_strongest_59 ?_
      refine s_icmp_le (tgt := 65) C e_Fore_strongest_60 rfl ?_ ?_
      · exact s_cut (w_Fore_strongest_B65 C r5 hr5 _ _ _ _) ⟨rfl, rfl, rfl, rfl, trivial⟩
      · exact s_cut (w_Fore_strongest_B63 C r5 hr5 _ _ _) ⟨rfl, rfl, rfl, trivial⟩
set_option maxRecDepth 100000 in
theorem w_Fore_strongest_B5 {X : CX} (C : Cx X ZX RX2 cX2_strongest 5 (some .int) 1 21)  (r5 : St → Int32 → Int32 → Int32 → Rt) (hr5 : ∀ (σ : St) (x1 : Int32) (x2 : Int32) (x3 : Int32), Sm X ZX 5 (some .int) σ [(0, .ref (cq X 15)), (1, .int x1), (2, .int x2), (3, .int x3)] 5 [] (r5 σ x1 x2 x3)) (σ : St) (x1 : Int32) (x2 : Int32) (x3 : Int32) : Sm X ZX 5 (some .int) σ [(0, .ref (cq X 15)), (1, .int x1), (2, .int x2), (3, .int x3)] 5 [] (m_Fore_strongest_B5 r5 σ x1 x2 x3) := by
  unfold m_Fore_strongest_B5
  refine s_iload_n C e_Fore_strongest_5 rfl ?_
  refine s_aload_n C e_Fore_strongest_6 rfl ?_
  refine s_get C fc_2 zx_lt_15 (zx_15 _ _ _) 1 (by decide) e_Fore_strongest_7 g_252 rfl ?_
  refine s_get C fc_1 (zb_lt hb21) (zb hb21 _ _ _) 1 (by decide) e_Fore_strongest_10 g_267 rfl ?_
  refine s_icmp_ge (tgt := 71) C e_Fore_strongest_13 rfl ?_ ?_
  · refine s_iload_n C e_Fore_strongest_71 rfl ?_
    exact s_iret C e_Fore_strongest_72
  · refine s_iload_n C e_Fore_strongest_16 rfl ?_
    refine s_iload_n C e_Fore_strongest_17 rfl ?_
    refine s_callN_2 C (c_P_isSet C.inj _ _ _) wv_P_isSet g_294 ⟨by decide, by decide⟩ rfl (Nat.le_of_ble_eq_true rfl) e_Fore_strongest_18 (fun v1 σ2 => ?_)
    refine s_if_ne (tgt := 28) C e_Fore_strongest_21 rfl ?_ ?_
    · refine s_iconst C e_Fore_strongest_24 (v := (1 : Int32)) ic_1 ?_
      refine s_goto (tgt := 29) C e_Fore_strongest_25 rfl ?_
      exact s_cut (w_Fore_strongest_B29 C r5 hr5 _ _ _ _ _) ⟨rfl, rfl, rfl, rfl, trivial⟩
    · refine s_iconst C e_Fore_strongest_28 (v := (0 : Int32)) ic_0 ?_
      exact s_cut (w_Fore_strongest_B29 C r5 hr5 _ _ _ _ _) ⟨rfl, rfl, rfl, rfl, trivial⟩
theorem w_Fore_strongest_L5 {X : CX} (C : Cx X ZX RX2 cX2_strongest 5 (some .int) 1 21)   : ∀ (n : Nat) (σ : St) (x1 : Int32) (x2 : Int32) (x3 : Int32), Sm X ZX 5 (some .int) σ [(0, .ref (cq X 15)), (1, .int x1), (2, .int x2), (3, .int x3)] 5 [] (m_Fore_strongest_L5 n σ x1 x2 x3)
  | 0, _, _, _, _ => s_none
  | n + 1, σ, x1, x2, x3 => w_Fore_strongest_B5 C (m_Fore_strongest_L5 n) (w_Fore_strongest_L5 C n) σ x1 x2 x3
set_option maxRecDepth 100000 in
theorem w_Fore_strongest {X : CX} (C : Cx X ZX RX2 cX2_strongest 5 (some .int) 1 21)  (σ : St) (x1 : Int32) : Sm X ZX 5 (some .int) σ [(0, .ref (cq X 15)), (1, .int x1)] 0 [] (m_Fore_strongest σ x1) := by
  unfold m_Fore_strongest
  refine s_ldc C e_Fore_strongest_0 g_261 ?_
  refine s_istore_n C e_Fore_strongest_2 (by decide) ?_
  refine s_iconst C e_Fore_strongest_3 (v := (0 : Int32)) ic_0 ?_
  refine s_istore_n C e_Fore_strongest_4 (by decide) ?_
  exact s_cut (w_Fore_strongest_L5 C FU _ _ _ _) ⟨rfl, rfl, rfl, rfl, trivial⟩
theorem c_Fore_strongest {l : Launch} {D : va_G} {k : Nat → ClassId} {q : Nat → Nat} (hq : Inj ZX q)  (σ : St) (x1 : Int32) : Ct l ZX D k q yX2_strongest cX2_strongest 5 (some .int) 1 21 [.ref (q 15), .int x1] σ (m_Fore_strongest σ x1) :=
  Ct_of hq lcX (by decide) (Nat.le_of_ble_eq_true rfl) (fun _ _ _ _ _ _ _ _ _ _ C => w_Fore_strongest C σ x1)
set_option maxRecDepth 100000 in
theorem w_Fore_busiest_B65 {X : CX} (C : Cx X ZX RX2 cX2_busiest 5 (some .int) 1 21)  (r5 : St → Int32 → Int32 → Int32 → Rt) (hr5 : ∀ (σ : St) (x1 : Int32) (x2 : Int32) (x3 : Int32), Sm X ZX 5 (some .int) σ [(0, .ref (cq X 15)), (1, .int x1), (2, .int x2), (3, .int x3)] 5 [] (r5 σ x1 x2 x3)) (σ : St) (x1 : Int32) (x2 : Int32) (x3 : Int32) : Sm X ZX 5 (some .int) σ [(0, .ref (cq X 15)), (1, .int x1), (2, .int x2), (3, .int x3)] 65 [] (m_Fore_busiest_B65 r5 σ x1 x2 x3) := by
  unfold m_Fore_busiest_B65
  refine s_iinc C e_Fore_busiest_65 (v := (1 : Int32)) rfl (by decide) ii_1 ?_
  refine s_goto (tgt := 5) C e_Fore_busiest_68 rfl ?_
  exact s_cut (hr5 _ _ _ _) ⟨rfl, rfl, rfl, rfl, trivial⟩
set_option maxRecDepth 100000 in
theorem w_Fore_busiest_B63 {X : CX} (C : Cx X ZX RX2 cX2_busiest 5 (some .int) 1 21)  (r5 : St → Int32 → Int32 → Int32 → Rt) (hr5 : ∀ (σ : St) (x1 : Int32) (x2 : Int32) (x3 : Int32), Sm X ZX 5 (some .int) σ [(0, .ref (cq X 15)), (1, .int x1), (2, .int x2), (3, .int x3)] 5 [] (r5 σ x1 x2 x3)) (σ : St) (x1 : Int32) (x3 : Int32) : Sm X ZX 5 (some .int) σ [(0, .ref (cq X 15)), (1, .int x1), (3, .int x3)] 63 [] (m_Fore_busiest_B63 r5 σ x1 x3) := by
  unfold m_Fore_busiest_B63
  refine s_iload_n C e_Fore_busiest_63 rfl ?_
  refine s_istore_n C e_Fore_busiest_64 (by decide) ?_
  exact s_cut (w_Fore_busiest_B65 C r5 hr5 _ _ _ _) ⟨rfl, rfl, rfl, rfl, trivial⟩
set_option maxRecDepth 100000 in
theorem w_Fore_busiest_B29 {X : CX} (C : Cx X ZX RX2 cX2_busiest 5 (some .int) 1 21)  (r5 : St → Int32 → Int32 → Int32 → Rt) (hr5 : ∀ (σ : St) (x1 : Int32) (x2 : Int32) (x3 : Int32), Sm X ZX 5 (some .int) σ [(0, .ref (cq X 15)), (1, .int x1), (2, .int x2), (3, .int x3)] 5 [] (r5 σ x1 x2 x3)) (σ : St) (x1 : Int32) (x2 : Int32) (x3 : Int32) (s0 : Int32) : Sm X ZX 5 (some .int) σ [(0, .ref (cq X 15)), (1, .int x1), (2, .int x2), (3, .int x3)] 29 [.int s0] (m_Fore_busiest_B29 r5 σ x1 x2 x3 s0) := by
  unfold m_Fore_busiest_B29
  refine s_istore C e_Fore_busiest_29 (by decide) ?_
  refine s_iload C e_Fore_busiest_31 rfl ?_
  refine s_if_eq (tgt := 65) C e_Fore_busiest_33 rfl ?_ ?_
  · exact s_cut (w_Fore_busiest_B65 C r5 hr5 _ _ _ _) ⟨rfl, rfl, rfl, rfl, trivial⟩
  · refine s_iload_n C e_Fore_busiest_36 rfl ?_
    refine s_ldc C e_Fore_busiest_37 g_261 ?_
    refine s_icmp_eq (tgt := 63) C e_Fore_busiest_39 rfl ?_ ?_
    · exact s_cut (w_Fore_busiest_B63 C r5 hr5 _ _ _) ⟨rfl, rfl, rfl, trivial⟩
    · refine s_aload_n C e_Fore_busiest_42 rfl ?_
      refine s_get C fc_2 zx_lt_15 (zx_15 _ _ _) 1 (by decide) e_Fore_busiest_43 g_252 rfl ?_
      refine s_get C fc_1 (zb_lt hb21) (zb hb21 _ _ _) 6 (by decide) e_Fore_busiest_46 g_297 rfl ?_
      refine s_iload_n C e_Fore_busiest_49 rfl ?_
      refine s_iald C (zb1_lt hb21) (zb1 hb21) e_Fore_busiest_50 ?_
      refine s_aload_n C e_Fore_busiest_51 rfl ?_
      refine s_get C fc_2 zx_lt_15 (zx_15 _ _ _) 1 (by decide) e_Fore_busiest_52 g_252 rfl ?_
      refine s_get C fc_1 (zb_lt hb21) (zb hb21 _ _ _) 6 (by decide) e_Fore_busiest_55 g_297 rfl ?_
      refine s_iload_n C e_Fore_busiest_58 rfl ?_
      refine s_iald C (zb1_lt hb21) (zb1 hb21) e_Fore_busiest_59 ?_
      refine s_icmp_le (tgt := 65) C e_Fore_busiest_60 rfl ?_ ?_
      · exact s_cut (w_Fore_busiest_B65 C r5 hr5 _ _ _ _) ⟨rfl, rfl, rfl, rfl, trivial⟩
      · exact s_cut (w_Fore_busiest_B63 C r5 hr5 _ _ _) ⟨rfl, rfl, rfl, trivial⟩
set_option maxRecDepth 100000 in
theorem w_Fore_busiest_B5 {X : CX} (C : Cx X ZX RX2 cX2_busiest 5 (some .int) 1 21)  (r5 : St → Int32 → Int32 → Int32 → Rt) (hr5 : ∀ (σ : St) (x1 : Int32) (x2 : Int32) (x3 : Int32), Sm X ZX 5 (some .int) σ [(0, .ref (cq X 15)), (1, .int x1), (2, .int x2), (3, .int x3)] 5 [] (r5 σ x1 x2 x3)) (σ : St) (x1 : Int32) (x2 : Int32) (x3 : Int32) : Sm X ZX 5 (some .int) σ [(0, .ref (cq X 15)), (1, .int x1), (2, .int x2), (3, .int x3)] 5 [] (m_Fore_busiest_B5 r5 σ x1 x2 x3) := by
  unfold m_Fore_busiest_B5
  refine s_iload_n C e_Fore_busiest_5 rfl ?_
  refine s_aload_n C e_Fore_busiest_6 rfl ?_
  refine s_get C fc_2 zx_lt_15 (zx_15 _ _ _) 1 (by decide) e_Fore_busiest_7 g_252 rfl ?_
  refine s_get C fc_1 (zb_lt hb21) (zb hb21 _ _ _) 0 (by decide) e_Fore_busiest_10 g_296 rfl ?_
  refine s_icmp_ge (tgt := 71) C e_Fore_busiest_13 rfl ?_ ?_
  · refine s_iload_n C e_Fore_busiest_71 rfl ?_
    exact s_iret C e_Fore_busiest_72
  · refine s_iload_n C e_Fore_busiest_16 rfl ?_
    refine s_iload_n C e_Fore_busiest_17 rfl ?_
    refine s_callN_2 C (c_P_isSet C.inj _ _ _) wv_P_isSet g_294 ⟨by decide, by decide⟩ rfl (Nat.le_of_ble_eq_true rfl) e_Fore_busiest_18 (fun v1 σ2 => ?_)
    refine s_if_ne (tgt := 28) C e_Fore_busiest_21 rfl ?_ ?_
    · refine s_iconst C e_Fore_busiest_24 (v := (1 : Int32)) ic_1 ?_
      refine s_goto (tgt := 29) C e_Fore_busiest_25 rfl ?_
      exact s_cut (w_Fore_busiest_B29 C r5 hr5 _ _ _ _ _) ⟨rfl, rfl, rfl, rfl, trivial⟩
    · refine s_iconst C e_Fore_busiest_28 (v := (0 : Int32)) ic_0 ?_
      exact s_cut (w_Fore_busiest_B29 C r5 hr5 _ _ _ _ _) ⟨rfl, rfl, rfl, rfl, trivial⟩
theorem w_Fore_busiest_L5 {X : CX} (C : Cx X ZX RX2 cX2_busiest 5 (some .int) 1 21)   : ∀ (n : Nat) (σ : St) (x1 : Int32) (x2 : Int32) (x3 : Int32), Sm X ZX 5 (some .int) σ [(0, .ref (cq X 15)), (1, .int x1), (2, .int x2), (3, .int x3)] 5 [] (m_Fore_busiest_L5 n σ x1 x2 x3)
  | 0, _, _, _, _ => s_none
  | n + 1, σ, x1, x2, x3 => w_Fore_busiest_B5 C (m_Fore_busiest_L5 n) (w_Fore_busiest_L5 C n) σ x1 x2 x3
set_option maxRecDepth 100000 in
theorem w_Fore_busiest {X : CX} (C : Cx X ZX RX2 cX2_busiest 5 (some .int) 1 21)  (σ : St) (x1 : Int32) : Sm X ZX 5 (some .int) σ [(0, .ref (cq X 15)), (1, .int x1)] 0 [] (m_Fore_busiest σ x1) := by
  unfold m_Fore_busiest
  refine s_ldc C e_Fore_busiest_0 g_261 ?_
  refine s_istore_n C e_Fore_busiest_2 (by decide) ?_
  refine s_iconst C e_Fore_busiest_3 (v := (0 : Int32)) ic_0 ?_
  refine s_istore_n C e_Fore_busiest_4 (by decide) ?_
  exact s_cut (w_Fore_busiest_L5 C FU _ _ _ _) ⟨rfl, rfl, rfl, rfl, trivial⟩
theorem c_Fore_busiest {l : Launch} {D : va_G} {k : Nat → ClassId} {q : Nat → Nat} (hq : Inj ZX q)  (σ : St) (x1 : Int32) : Ct l ZX D k q yX2_busiest cX2_busiest 5 (some .int) 1 21 [.ref (q 15), .int x1] σ (m_Fore_busiest σ x1) :=
  Ct_of hq lcX (by decide) (Nat.le_of_ble_eq_true rfl) (fun _ _ _ _ _ _ _ _ _ _ C => w_Fore_busiest C σ x1)
set_option maxRecDepth 100000 in
theorem w_Fore_mostWorth_B15 {X : CX} (C : Cx X ZX RX2 cX2_mostWorth 9 (some .int) 2 45)  (r15 : St → Int32 → Int32 → Int32 → Int32 → Rt) (hr15 : ∀ (σ : St) (x3 : Int32) (x4 : Int32) (x5 : Int32) (x6 : Int32), Sm X ZX 9 (some .int) σ [(0, .ref (cq X 15)), (3, .int x3), (4, .int x4), (5, .int x5), (6, .int x6)] 15 [] (r15 σ x3 x4 x5 x6)) (σ : St) (x3 : Int32) (x4 : Int32) (x5 : Int32) (x6 : Int32) : Sm X ZX 9 (some .int) σ [(0, .ref (cq X 15)), (3, .int x3), (4, .int x4), (5, .int x5), (6, .int x6)] 15 [] (m_Fore_mostWorth_B15 r15 σ x3 x4 x5 x6) := by
  unfold m_Fore_mostWorth_B15
  refine s_iload C e_Fore_mostWorth_15 rfl ?_
  refine s_aload_n C e_Fore_mostWorth_17 rfl ?_
  refine s_get C fc_2 zx_lt_15 (zx_15 _ _ _) 1 (by decide) e_Fore_mostWorth_18 g_252 rfl ?_
  refine s_get C fc_1 (zb_lt hb21) (zb hb21 _ _ _) 1 (by decide) e_Fore_mostWorth_21 g_267 rfl ?_
  refine s_icmp_ge (tgt := 97) C e_Fore_mostWorth_24 rfl ?_ ?_
  · refine s_iload_n C e_Fore_mostWorth_97 rfl ?_
    exact s_iret C e_Fore_mostWorth_98
  · refine s_aload_n C e_Fore_mostWorth_27 rfl ?_
    refine s_iload C e_Fore_mostWorth_28 rfl ?_
    refine s_callV_1 C (c_Fore_strongest C.inj _ _) wv_Fore_strongest g_303 ⟨by decide, by decide⟩ fc_2 rfl zx_lt_15 (zx_15 _ _ _) rfl (Nat.le_of_ble_eq_true rfl) e_Fore_mostWorth_30 (fun v1 σ2 => ?_)
    refine s_istore C e_Fore_mostWorth_33 (by decide) ?_
    refine s_aload_n C e_Fore_mostWorth_35 rfl ?_
    refine s_iload C e_Fore_mostWorth_36 rfl ?_
    refine s_callV_1 C (c_Fore_busiest C.inj _ _) wv_Fore_busiest g_299 ⟨by decide, by decide⟩ fc_2 rfl zx_lt_15 (zx_15 _ _ _) rfl (Nat.le_of_ble_eq_true rfl) e_Fore_mostWorth_38 (fun v3 σ4 => ?_)
    refine s_istore C e_Fore_mostWorth_41 (by decide) ?_
    refine s_iload C e_Fore_mostWorth_43 rfl ?_
    refine s_ldc C e_Fore_mostWorth_45 g_261 ?_
    refine s_icmp_eq (tgt := 57) C e_Fore_mostWorth_47 rfl ?_ ?_
    · refine s_iload_n C e_Fore_mostWorth_57 rfl ?_
      exact s_iret C e_Fore_mostWorth_58
    · refine s_iload C e_Fore_mostWorth_50 rfl ?_
      refine s_ldc C e_Fore_mostWorth_52 g_261 ?_
      refine s_icmp_ne (tgt := 59) C e_Fore_mostWorth_54 rfl ?_ ?_
      · refine s_iload_n C e_Fore_mostWorth_57 rfl ?_
        exact s_iret C e_Fore_mostWorth_58
      · refine s_iload_n C e_Fore_mostWorth_59 rfl ?_
        refine s_aload_n C e_Fore_mostWorth_60 rfl ?_
        refine s_get C fc_2 zx_lt_15 (zx_15 _ _ _) 1 (by decide) e_Fore_mostWorth_61 g_252 rfl ?_
        refine s_iload C e_Fore_mostWorth_64 rfl ?_
        refine s_iload C e_Fore_mostWorth_66 rfl ?_
        refine s_callV_2 C (c_Board_worth C.inj hb21 _ _ _) wv_Board_worth g_298 ⟨by decide, by decide⟩ fc_1 rfl (zb_lt hb21) (zb hb21 _ _ _) rfl (Nat.le_of_ble_eq_true rfl) e_Fore_mostWorth_68 (fun v5 σ6 => ?_)
        refine s_iadd C e_Fore_mostWorth_71 ?_
        refine s_nm (fun y7 => ?_)
        refine s_istore_n C e_Fore_mostWorth_72 (by decide) ?_
        refine s_iload C e_Fore_mostWorth_73 rfl ?_
        refine s_iconst C e_Fore_mostWorth_75 (v := (1 : Int32)) ic_1 ?_
        refine s_iload C e_Fore_mostWorth_76 rfl ?_
        refine s_ishl C e_Fore_mostWorth_78 ?_
        refine s_ior C e_Fore_mostWorth_79 ?_
        refine s_nm (fun y8 => ?_)
        refine s_istore C e_Fore_mostWorth_80 (by decide) ?_
        refine s_iload C e_Fore_mostWorth_82 rfl ?_
        refine s_iconst C e_Fore_mostWorth_84 (v := (1 : Int32)) ic_1 ?_
        refine s_iload C e_Fore_mostWorth_85 rfl ?_
        refine s_ishl C e_Fore_mostWorth_87 ?_
        refine s_ior C e_Fore_mostWorth_88 ?_
        refine s_nm (fun y9 => ?_)
        refine s_istore C e_Fore_mostWorth_89 (by decide) ?_
        refine s_iinc C e_Fore_mostWorth_91 (v := (1 : Int32)) rfl (by decide) ii_1 ?_
        refine s_goto (tgt := 15) C e_Fore_mostWorth_94 rfl ?_
        exact s_cut (hr15 _ _ _ _ _) ⟨rfl, rfl, rfl, rfl, rfl, trivial⟩
theorem w_Fore_mostWorth_L15 {X : CX} (C : Cx X ZX RX2 cX2_mostWorth 9 (some .int) 2 45)   : ∀ (n : Nat) (σ : St) (x3 : Int32) (x4 : Int32) (x5 : Int32) (x6 : Int32), Sm X ZX 9 (some .int) σ [(0, .ref (cq X 15)), (3, .int x3), (4, .int x4), (5, .int x5), (6, .int x6)] 15 [] (m_Fore_mostWorth_L15 n σ x3 x4 x5 x6)
  | 0, _, _, _, _, _ => s_none
  | n + 1, σ, x3, x4, x5, x6 => w_Fore_mostWorth_B15 C (m_Fore_mostWorth_L15 n) (w_Fore_mostWorth_L15 C n) σ x3 x4 x5 x6
set_option maxRecDepth 100000 in
theorem w_Fore_mostWorth {X : CX} (C : Cx X ZX RX2 cX2_mostWorth 9 (some .int) 2 45)  (σ : St) (x1 : Int32) (x2 : Int32) : Sm X ZX 9 (some .int) σ [(0, .ref (cq X 15)), (1, .int x1), (2, .int x2)] 0 [] (m_Fore_mostWorth σ x1 x2) := by
  unfold m_Fore_mostWorth
  refine s_iconst C e_Fore_mostWorth_0 (v := (0 : Int32)) ic_0 ?_
  refine s_istore_n C e_Fore_mostWorth_1 (by decide) ?_
  refine s_iconst C e_Fore_mostWorth_2 (v := (1 : Int32)) ic_1 ?_
  refine s_iload_n C e_Fore_mostWorth_3 rfl ?_
  refine s_ishl C e_Fore_mostWorth_4 ?_
  refine s_iconst C e_Fore_mostWorth_5 (v := (1 : Int32)) ic_1 ?_
  refine s_isub C e_Fore_mostWorth_6 ?_
  refine s_nm (fun y1 => ?_)
  refine s_istore C e_Fore_mostWorth_7 (by decide) ?_
  refine s_iload_n C e_Fore_mostWorth_9 rfl ?_
  refine s_istore C e_Fore_mostWorth_10 (by decide) ?_
  refine s_iload_n C e_Fore_mostWorth_12 rfl ?_
  refine s_istore C e_Fore_mostWorth_13 (by decide) ?_
  exact s_cut (w_Fore_mostWorth_L15 C FU _ _ _ _ _) ⟨rfl, rfl, rfl, rfl, rfl, trivial⟩
theorem c_Fore_mostWorth {l : Launch} {D : va_G} {k : Nat → ClassId} {q : Nat → Nat} (hq : Inj ZX q)  (σ : St) (x1 : Int32) (x2 : Int32) : Ct l ZX D k q yX2_mostWorth cX2_mostWorth 9 (some .int) 2 45 [.ref (q 15), .int x1, .int x2] σ (m_Fore_mostWorth σ x1 x2) :=
  Ct_of hq lcX (by decide) (Nat.le_of_ble_eq_true rfl) (fun _ _ _ _ _ _ _ _ _ _ C => w_Fore_mostWorth C σ x1 x2)
set_option maxRecDepth 100000 in
theorem w_Fore_leastCell_B62 {X : CX} (C : Cx X ZX RX2 cX2_leastCell 6 (some .int) 3 73)  (r3 : St → Int32 → Int32 → Int32 → Int32 → Rt) (hr3 : ∀ (σ : St) (x1 : Int32) (x2 : Int32) (x3 : Int32) (x4 : Int32), Sm X ZX 6 (some .int) σ [(0, .ref (cq X 15)), (1, .int x1), (2, .int x2), (3, .int x3), (4, .int x4)] 3 [] (r3 σ x1 x2 x3 x4)) (σ : St) (x1 : Int32) (x2 : Int32) (x3 : Int32) (x4 : Int32) : Sm X ZX 6 (some .int) σ [(0, .ref (cq X 15)), (1, .int x1), (2, .int x2), (3, .int x3), (4, .int x4)] 62 [] (m_Fore_leastCell_B62 r3 σ x1 x2 x3 x4) := by
  unfold m_Fore_leastCell_B62
  refine s_iinc C e_Fore_leastCell_62 (v := (1 : Int32)) rfl (by decide) ii_1 ?_
  refine s_goto (tgt := 3) C e_Fore_leastCell_65 rfl ?_
  exact s_cut (hr3 _ _ _ _ _) ⟨rfl, rfl, rfl, rfl, rfl, trivial⟩
set_option maxRecDepth 100000 in
theorem w_Fore_leastCell_B3 {X : CX} (C : Cx X ZX RX2 cX2_leastCell 6 (some .int) 3 73)  (r3 : St → Int32 → Int32 → Int32 → Int32 → Rt) (hr3 : ∀ (σ : St) (x1 : Int32) (x2 : Int32) (x3 : Int32) (x4 : Int32), Sm X ZX 6 (some .int) σ [(0, .ref (cq X 15)), (1, .int x1), (2, .int x2), (3, .int x3), (4, .int x4)] 3 [] (r3 σ x1 x2 x3 x4)) (σ : St) (x1 : Int32) (x2 : Int32) (x3 : Int32) (x4 : Int32) : Sm X ZX 6 (some .int) σ [(0, .ref (cq X 15)), (1, .int x1), (2, .int x2), (3, .int x3), (4, .int x4)] 3 [] (m_Fore_leastCell_B3 r3 σ x1 x2 x3 x4) := by
  unfold m_Fore_leastCell_B3
  refine s_iload C e_Fore_leastCell_3 rfl ?_
  refine s_aload_n C e_Fore_leastCell_5 rfl ?_
  refine s_get C fc_2 zx_lt_15 (zx_15 _ _ _) 1 (by decide) e_Fore_leastCell_6 g_252 rfl ?_
  refine s_get C fc_1 (zb_lt hb21) (zb hb21 _ _ _) 0 (by decide) e_Fore_leastCell_9 g_296 rfl ?_
  refine s_icmp_ge (tgt := 68) C e_Fore_leastCell_12 rfl ?_ ?_
  · refine s_ldc C e_Fore_leastCell_68 g_261 ?_
    exact s_iret C e_Fore_leastCell_70
  · refine s_iload_n C e_Fore_leastCell_15 rfl ?_
    refine s_iload C e_Fore_leastCell_16 rfl ?_
    refine s_callN_2 C (c_P_isSet C.inj _ _ _) wv_P_isSet g_294 ⟨by decide, by decide⟩ rfl (Nat.le_of_ble_eq_true rfl) e_Fore_leastCell_18 (fun v1 σ2 => ?_)
    refine s_if_eq (tgt := 27) C e_Fore_leastCell_21 rfl ?_ ?_
    · refine s_aload_n C e_Fore_leastCell_27 rfl ?_
      refine s_iload_n C e_Fore_leastCell_28 rfl ?_
      refine s_iconst C e_Fore_leastCell_29 (v := (1 : Int32)) ic_1 ?_
      refine s_iadd C e_Fore_leastCell_30 ?_
      refine s_iload_n C e_Fore_leastCell_31 rfl ?_
      refine s_iconst C e_Fore_leastCell_32 (v := (1 : Int32)) ic_1 ?_
      refine s_iload C e_Fore_leastCell_33 rfl ?_
      refine s_ishl C e_Fore_leastCell_35 ?_
      refine s_ior C e_Fore_leastCell_36 ?_
      refine s_callV_2 C (c_Fore_mostWorth C.inj _ _ _) wv_Fore_mostWorth g_307 ⟨by decide, by decide⟩ fc_2 rfl zx_lt_15 (zx_15 _ _ _) rfl (Nat.le_of_ble_eq_true rfl) e_Fore_leastCell_37 (fun v3 σ4 => ?_)
      refine s_istore C e_Fore_leastCell_40 (by decide) ?_
      refine s_aload_n C e_Fore_leastCell_42 rfl ?_
      refine s_get C fc_2 zx_lt_15 (zx_15 _ _ _) 1 (by decide) e_Fore_leastCell_43 g_252 rfl ?_
      refine s_iload_n C e_Fore_leastCell_46 rfl ?_
      refine s_iload C e_Fore_leastCell_47 rfl ?_
      refine s_callV_2 C (c_Board_worth C.inj hb21 _ _ _) wv_Board_worth g_298 ⟨by decide, by decide⟩ fc_1 rfl (zb_lt hb21) (zb hb21 _ _ _) rfl (Nat.le_of_ble_eq_true rfl) e_Fore_leastCell_49 (fun v5 σ6 => ?_)
      refine s_iload C e_Fore_leastCell_52 rfl ?_
      refine s_iadd C e_Fore_leastCell_54 ?_
      refine s_iload_n C e_Fore_leastCell_55 rfl ?_
      refine s_icmp_ne (tgt := 62) C e_Fore_leastCell_56 rfl ?_ ?_
      · refine s_iload C e_Fore_leastCell_59 rfl ?_
        exact s_iret C e_Fore_leastCell_61
      · exact s_cut (w_Fore_leastCell_B62 C r3 hr3 _ _ _ _ _) ⟨rfl, rfl, rfl, rfl, rfl, trivial⟩
    · refine s_goto (tgt := 62) C e_Fore_leastCell_24 rfl ?_
      exact s_cut (w_Fore_leastCell_B62 C r3 hr3 _ _ _ _ _) ⟨rfl, rfl, rfl, rfl, rfl, trivial⟩
theorem w_Fore_leastCell_L3 {X : CX} (C : Cx X ZX RX2 cX2_leastCell 6 (some .int) 3 73)   : ∀ (n : Nat) (σ : St) (x1 : Int32) (x2 : Int32) (x3 : Int32) (x4 : Int32), Sm X ZX 6 (some .int) σ [(0, .ref (cq X 15)), (1, .int x1), (2, .int x2), (3, .int x3), (4, .int x4)] 3 [] (m_Fore_leastCell_L3 n σ x1 x2 x3 x4)
  | 0, _, _, _, _, _ => s_none
  | n + 1, σ, x1, x2, x3, x4 => w_Fore_leastCell_B3 C (m_Fore_leastCell_L3 n) (w_Fore_leastCell_L3 C n) σ x1 x2 x3 x4
set_option maxRecDepth 100000 in
theorem w_Fore_leastCell {X : CX} (C : Cx X ZX RX2 cX2_leastCell 6 (some .int) 3 73)  (σ : St) (x1 : Int32) (x2 : Int32) (x3 : Int32) : Sm X ZX 6 (some .int) σ [(0, .ref (cq X 15)), (1, .int x1), (2, .int x2), (3, .int x3)] 0 [] (m_Fore_leastCell σ x1 x2 x3) := by
  unfold m_Fore_leastCell
  refine s_iconst C e_Fore_leastCell_0 (v := (0 : Int32)) ic_0 ?_
  refine s_istore C e_Fore_leastCell_1 (by decide) ?_
  exact s_cut (w_Fore_leastCell_L3 C FU _ _ _ _ _) ⟨rfl, rfl, rfl, rfl, rfl, trivial⟩
theorem c_Fore_leastCell {l : Launch} {D : va_G} {k : Nat → ClassId} {q : Nat → Nat} (hq : Inj ZX q)  (σ : St) (x1 : Int32) (x2 : Int32) (x3 : Int32) : Ct l ZX D k q yX2_leastCell cX2_leastCell 6 (some .int) 3 73 [.ref (q 15), .int x1, .int x2, .int x3] σ (m_Fore_leastCell σ x1 x2 x3) :=
  Ct_of hq lcX (by decide) (Nat.le_of_ble_eq_true rfl) (fun _ _ _ _ _ _ _ _ _ _ C => w_Fore_leastCell C σ x1 x2 x3)
set_option maxRecDepth 100000 in
theorem w_Fore_bestCell_B16 {X : CX} (C : Cx X ZX RX2 cX2_bestCell 6 (some .int) 4 98)  (r16 : St → Int32 → Int32 → Int32 → Int32 → Int32 → Rt) (hr16 : ∀ (σ : St) (x1 : Int32) (x2 : Int32) (x3 : Int32) (x4 : Int32) (x5 : Int32), Sm X ZX 6 (some .int) σ [(0, .ref (cq X 15)), (1, .int x1), (2, .int x2), (3, .int x3), (4, .int x4), (5, .int x5)] 16 [] (r16 σ x1 x2 x3 x4 x5)) (σ : St) (x1 : Int32) (x2 : Int32) (x3 : Int32) (x4 : Int32) (x5 : Int32) : Sm X ZX 6 (some .int) σ [(0, .ref (cq X 15)), (1, .int x1), (2, .int x2), (3, .int x3), (4, .int x4), (5, .int x5)] 16 [] (m_Fore_bestCell_B16 r16 σ x1 x2 x3 x4 x5) := by
  unfold m_Fore_bestCell_B16
  refine s_iload C e_Fore_bestCell_16 rfl ?_
  refine s_iload_n C e_Fore_bestCell_18 rfl ?_
  refine s_icmp_gt (tgt := 69) C e_Fore_bestCell_19 rfl ?_ ?_
  · refine s_iload C e_Fore_bestCell_69 rfl ?_
    exact s_iret C e_Fore_bestCell_71
  · refine s_aload_n C e_Fore_bestCell_22 rfl ?_
    refine s_iload C e_Fore_bestCell_23 rfl ?_
    refine s_iload_n C e_Fore_bestCell_25 rfl ?_
    refine s_iload_n C e_Fore_bestCell_26 rfl ?_
    refine s_callV_3 C (c_Fore_leastCell C.inj _ _ _ _) wv_Fore_leastCell g_311 ⟨by decide, by decide⟩ fc_2 rfl zx_lt_15 (zx_15 _ _ _) rfl (Nat.le_of_ble_eq_true rfl) e_Fore_bestCell_27 (fun v1 σ2 => ?_)
    refine s_istore C e_Fore_bestCell_30 (by decide) ?_
    refine s_iload C e_Fore_bestCell_32 rfl ?_
    refine s_ldc C e_Fore_bestCell_34 g_261 ?_
    refine s_icmp_ne (tgt := 42) C e_Fore_bestCell_36 rfl ?_ ?_
    · refine s_ldc C e_Fore_bestCell_39 g_261 ?_
      exact s_iret C e_Fore_bestCell_41
    · refine s_iload_n C e_Fore_bestCell_42 rfl ?_
      refine s_iconst C e_Fore_bestCell_43 (v := (1 : Int32)) ic_1 ?_
      refine s_iload C e_Fore_bestCell_44 rfl ?_
      refine s_ishl C e_Fore_bestCell_46 ?_
      refine s_ior C e_Fore_bestCell_47 ?_
      refine s_nm (fun y3 => ?_)
      refine s_istore_n C e_Fore_bestCell_48 (by decide) ?_
      refine s_iload_n C e_Fore_bestCell_49 rfl ?_
      refine s_aload_n C e_Fore_bestCell_50 rfl ?_
      refine s_get C fc_2 zx_lt_15 (zx_15 _ _ _) 1 (by decide) e_Fore_bestCell_51 g_252 rfl ?_
      refine s_iload C e_Fore_bestCell_54 rfl ?_
      refine s_iload C e_Fore_bestCell_56 rfl ?_
      refine s_callV_2 C (c_Board_worth C.inj hb21 _ _ _) wv_Board_worth g_298 ⟨by decide, by decide⟩ fc_1 rfl (zb_lt hb21) (zb hb21 _ _ _) rfl (Nat.le_of_ble_eq_true rfl) e_Fore_bestCell_58 (fun v4 σ5 => ?_)
      refine s_isub C e_Fore_bestCell_61 ?_
      refine s_nm (fun y6 => ?_)
      refine s_istore_n C e_Fore_bestCell_62 (by decide) ?_
      refine s_iinc C e_Fore_bestCell_63 (v := (1 : Int32)) rfl (by decide) ii_1 ?_
      refine s_goto (tgt := 16) C e_Fore_bestCell_66 rfl ?_
      exact s_cut (hr16 _ _ _ _ _ _) ⟨rfl, rfl, rfl, rfl, rfl, rfl, trivial⟩
theorem w_Fore_bestCell_L16 {X : CX} (C : Cx X ZX RX2 cX2_bestCell 6 (some .int) 4 98)   : ∀ (n : Nat) (σ : St) (x1 : Int32) (x2 : Int32) (x3 : Int32) (x4 : Int32) (x5 : Int32), Sm X ZX 6 (some .int) σ [(0, .ref (cq X 15)), (1, .int x1), (2, .int x2), (3, .int x3), (4, .int x4), (5, .int x5)] 16 [] (m_Fore_bestCell_L16 n σ x1 x2 x3 x4 x5)
  | 0, _, _, _, _, _, _ => s_none
  | n + 1, σ, x1, x2, x3, x4, x5 => w_Fore_bestCell_B16 C (m_Fore_bestCell_L16 n) (w_Fore_bestCell_L16 C n) σ x1 x2 x3 x4 x5
set_option maxRecDepth 100000 in
theorem w_Fore_bestCell {X : CX} (C : Cx X ZX RX2 cX2_bestCell 6 (some .int) 4 98)  (σ : St) (x1 : Int32) : Sm X ZX 6 (some .int) σ [(0, .ref (cq X 15)), (1, .int x1)] 0 [] (m_Fore_bestCell σ x1) := by
  unfold m_Fore_bestCell
  refine s_aload_n C e_Fore_bestCell_0 rfl ?_
  refine s_iconst C e_Fore_bestCell_1 (v := (0 : Int32)) ic_0 ?_
  refine s_iconst C e_Fore_bestCell_2 (v := (0 : Int32)) ic_0 ?_
  refine s_callV_2 C (c_Fore_mostWorth C.inj _ _ _) wv_Fore_mostWorth g_307 ⟨by decide, by decide⟩ fc_2 rfl zx_lt_15 (zx_15 _ _ _) rfl (Nat.le_of_ble_eq_true rfl) e_Fore_bestCell_3 (fun v1 σ2 => ?_)
  refine s_istore_n C e_Fore_bestCell_6 (by decide) ?_
  refine s_iconst C e_Fore_bestCell_7 (v := (0 : Int32)) ic_0 ?_
  refine s_istore_n C e_Fore_bestCell_8 (by decide) ?_
  refine s_ldc C e_Fore_bestCell_9 g_261 ?_
  refine s_istore C e_Fore_bestCell_11 (by decide) ?_
  refine s_iconst C e_Fore_bestCell_13 (v := (0 : Int32)) ic_0 ?_
  refine s_istore C e_Fore_bestCell_14 (by decide) ?_
  exact s_cut (w_Fore_bestCell_L16 C FU _ _ _ _ _ _) ⟨rfl, rfl, rfl, rfl, rfl, rfl, trivial⟩
theorem c_Fore_bestCell {l : Launch} {D : va_G} {k : Nat → ClassId} {q : Nat → Nat} (hq : Inj ZX q)  (σ : St) (x1 : Int32) : Ct l ZX D k q yX2_bestCell cX2_bestCell 6 (some .int) 4 98 [.ref (q 15), .int x1] σ (m_Fore_bestCell σ x1) :=
  Ct_of hq lcX (by decide) (Nat.le_of_ble_eq_true rfl) (fun _ _ _ _ _ _ _ _ _ _ C => w_Fore_bestCell C σ x1)
set_option maxRecDepth 100000 in
theorem w_P_best_B32 {X : CX} (C : Cx X ZX RX6 cX6_best 2 (some .int) 5 123)   (σ : St) (x1 : Int32) : Sm X ZX 2 (some .int) σ [(0, .ref (cq X 0)), (1, .int x1)] 32 [] (m_P_best_B32 σ x1) := by
  unfold m_P_best_B32
  refine s_aload_n C e_P_best_32 rfl ?_
  refine s_get C fc_6 zx_lt_0 (zx_0 _ _ _) 2 (by decide) e_P_best_33 g_142 rfl ?_
  refine s_get C fc_1 (zb_lt hb21) (zb hb21 _ _ _) 1 (by decide) e_P_best_36 g_144 rfl ?_
  refine s_aload_n C e_P_best_39 rfl ?_
  refine s_get C fc_6 zx_lt_0 (zx_0 _ _ _) 2 (by decide) e_P_best_40 g_142 rfl ?_
  refine s_get C fc_1 (zb_lt hb21) (zb hb21 _ _ _) 0 (by decide) e_P_best_43 g_315 rfl ?_
  refine s_icmp_le (tgt := 52) C e_P_best_46 rfl ?_ ?_
  · refine s_iload_n C e_P_best_52 rfl ?_
    refine s_iconst C e_P_best_53 (v := (-1 : Int32)) ic_m1 ?_
    refine s_icmp_ne (tgt := 69) C e_P_best_54 rfl ?_ ?_
    · refine s_aload_n C e_P_best_57 rfl ?_
      refine s_get C fc_6 zx_lt_0 (zx_0 _ _ _) 3 (by decide) e_P_best_58 g_140 rfl ?_
      refine s_iconst C e_P_best_61 (v := (0 : Int32)) ic_0 ?_
      refine s_iconst C e_P_best_62 (v := (0 : Int32)) ic_0 ?_
      refine s_callV_2 C (c_Fore_mostWorth C.inj _ _ _) wv_Fore_mostWorth g_320 ⟨by decide, by decide⟩ fc_2 rfl zx_lt_15 (zx_15 _ _ _) rfl (Nat.le_of_ble_eq_true rfl) e_P_best_63 (fun v3 σ4 => ?_)
      refine s_goto (tgt := 77) C e_P_best_66 rfl ?_
      exact s_iret C e_P_best_77
    · refine s_aload_n C e_P_best_69 rfl ?_
      refine s_get C fc_6 zx_lt_0 (zx_0 _ _ _) 3 (by decide) e_P_best_70 g_140 rfl ?_
      refine s_iload_n C e_P_best_73 rfl ?_
      refine s_callV_1 C (c_Fore_bestCell C.inj _ _) wv_Fore_bestCell g_316 ⟨by decide, by decide⟩ fc_2 rfl zx_lt_15 (zx_15 _ _ _) rfl (Nat.le_of_ble_eq_true rfl) e_P_best_74 (fun v1 σ2 => ?_)
      exact s_iret C e_P_best_77
  · refine s_ldc C e_P_best_49 g_321 ?_
    exact s_iret C e_P_best_51
set_option maxRecDepth 100000 in
theorem w_P_best {X : CX} (C : Cx X ZX RX6 cX6_best 2 (some .int) 5 123)  (σ : St) (x1 : Int32) : Sm X ZX 2 (some .int) σ [(0, .ref (cq X 0)), (1, .int x1)] 0 [] (m_P_best σ x1) := by
  unfold m_P_best
  refine s_aload_n C e_P_best_0 rfl ?_
  refine s_get C fc_6 zx_lt_0 (zx_0 _ _ _) 2 (by decide) e_P_best_1 g_142 rfl ?_
  refine s_callV_0 C (c_Board_stands C.inj hb21 _) wv_Board_stands g_215 ⟨by decide, by decide⟩ fc_1 rfl (zb_lt hb21) (zb hb21 _ _ _) rfl (Nat.le_of_ble_eq_true rfl) e_P_best_4 (fun v1 σ2 => ?_)
  refine s_if_ne (tgt := 13) C e_P_best_7 rfl ?_ ?_
  · refine s_ldc C e_P_best_10 g_214 ?_
    exact s_iret C e_P_best_12
  · refine s_iload_n C e_P_best_13 rfl ?_
    refine s_iconst C e_P_best_14 (v := (-1 : Int32)) ic_m1 ?_
    refine s_icmp_eq (tgt := 32) C e_P_best_15 rfl ?_ ?_
    · exact s_cut (w_P_best_B32 C _ _) ⟨rfl, rfl, trivial⟩
    · refine s_aload_n C e_P_best_18 rfl ?_
      refine s_get C fc_6 zx_lt_0 (zx_0 _ _ _) 2 (by decide) e_P_best_19 g_142 rfl ?_
      refine s_iload_n C e_P_best_22 rfl ?_
      refine s_callV_1 C (c_Board_hasPin C.inj hb21 _ _) wv_Board_hasPin g_233 ⟨by decide, by decide⟩ fc_1 rfl (zb_lt hb21) (zb hb21 _ _ _) rfl (Nat.le_of_ble_eq_true rfl) e_P_best_23 (fun v3 σ4 => ?_)
      refine s_if_ne (tgt := 32) C e_P_best_26 rfl ?_ ?_
      · refine s_ldc C e_P_best_29 g_10 ?_
        exact s_iret C e_P_best_31
      · exact s_cut (w_P_best_B32 C _ _) ⟨rfl, rfl, trivial⟩
theorem c_P_best {l : Launch} {D : va_G} {k : Nat → ClassId} {q : Nat → Nat} (hq : Inj ZX q)  (σ : St) (x1 : Int32) : Ct l ZX D k q yX6_best cX6_best 2 (some .int) 5 123 [.ref (q 0), .int x1] σ (m_P_best σ x1) :=
  Ct_of hq lcX (by decide) (Nat.le_of_ble_eq_true rfl) (fun _ _ _ _ _ _ _ _ _ _ C => w_P_best C σ x1)
set_option maxRecDepth 100000 in
theorem w_Fore_mostSupposed {X : CX} (C : Cx X ZX RX2 cX2_mostSupposed 2 (some .int) 0 0)  (σ : St) (x1 : Int32) : Sm X ZX 2 (some .int) σ [(0, .ref (cq X 15)), (1, .int x1)] 0 [] (m_Fore_mostSupposed σ x1) := by
  unfold m_Fore_mostSupposed
  refine s_iload_n C e_Fore_mostSupposed_0 rfl ?_
  refine s_split (fun h1_0 => ?_) (fun h1_0 => ?_)
  · refine s_look (off := 27) (tgt := 28) C e_Fore_mostSupposed_1 rfl (by rw [h1_0]; rfl) rfl ?_
    refine s_iconst C e_Fore_mostSupposed_28 (v := (5 : Int32)) ic_5 ?_
    exact s_iret C e_Fore_mostSupposed_29
  · skip
    refine s_split (fun h1_1 => ?_) (fun h1_1 => ?_)
    · refine s_look (off := 29) (tgt := 30) C e_Fore_mostSupposed_1 rfl (by rw [h1_1]; rfl) rfl ?_
      refine s_bipush C e_Fore_mostSupposed_30 (v := (15 : Int32)) bp_15 ?_
      exact s_iret C e_Fore_mostSupposed_32
    · skip
      refine s_look (off := 32) (tgt := 33) C e_Fore_mostSupposed_1 rfl (by simp [Op.lookupswitch.offset, Ne.symm (ne_i (z := 0) rfl h1_0), Ne.symm (ne_i (z := 1) rfl h1_1)]) rfl ?_
      refine s_aload_n C e_Fore_mostSupposed_33 rfl ?_
      refine s_get C fc_2 zx_lt_15 (zx_15 _ _ _) 1 (by decide) e_Fore_mostSupposed_34 g_252 rfl ?_
      refine s_get C fc_1 (zb_lt hb21) (zb hb21 _ _ _) 0 (by decide) e_Fore_mostSupposed_37 g_296 rfl ?_
      refine s_iconst C e_Fore_mostSupposed_40 (v := (1 : Int32)) ic_1 ?_
      refine s_isub C e_Fore_mostSupposed_41 ?_
      exact s_iret C e_Fore_mostSupposed_42
theorem c_Fore_mostSupposed {l : Launch} {D : va_G} {k : Nat → ClassId} {q : Nat → Nat} (hq : Inj ZX q)  (σ : St) (x1 : Int32) : Ct l ZX D k q yX2_mostSupposed cX2_mostSupposed 2 (some .int) 0 0 [.ref (q 15), .int x1] σ (m_Fore_mostSupposed σ x1) :=
  Ct_of hq lcX (by decide) (Nat.le_of_ble_eq_true rfl) (fun _ _ _ _ _ _ _ _ _ _ C => w_Fore_mostSupposed C σ x1)
set_option maxRecDepth 100000 in
theorem w_Fore_suppose {X : CX} (C : Cx X ZX RX2 cX2_suppose 4 none 0 0)  (σ : St) (x1 : Int32) (x2 : Int32) (x3 : Int32) : Sm X ZX 4 none σ [(0, .ref (cq X 15)), (1, .int x1), (2, .int x2), (3, .int x3)] 0 [] (m_Fore_suppose σ x1 x2 x3) := by
  unfold m_Fore_suppose
  refine s_iload_n C e_Fore_suppose_0 rfl ?_
  refine s_split (fun h1_0 => ?_) (fun h1_0 => ?_)
  · refine s_tabI (v := (0 : Int32)) (off := 27) (tgt := 28) C h1_0 e_Fore_suppose_1 (by decide) (by decide) rfl rfl ?_
    refine s_aload_n C e_Fore_suppose_28 rfl ?_
    refine s_get C fc_2 zx_lt_15 (zx_15 _ _ _) 0 (by decide) e_Fore_suppose_29 g_251 rfl ?_
    refine s_get C fc_1 (zb_lt hb28) (zb hb28 _ _ _) 10 (by decide) e_Fore_suppose_32 g_322 rfl ?_
    refine s_iload_n C e_Fore_suppose_35 rfl ?_
    refine s_iload_n C e_Fore_suppose_36 rfl ?_
    refine s_iast C (zb5_lt hb28) (zb5 hb28) e_Fore_suppose_37 (fun σ1 => ?_)
    refine s_goto (tgt := 75) C e_Fore_suppose_38 rfl ?_
    exact s_vret C e_Fore_suppose_75
  · skip
    refine s_split (fun h1_1 => ?_) (fun h1_1 => ?_)
    · refine s_tabI (v := (1 : Int32)) (off := 40) (tgt := 41) C h1_1 e_Fore_suppose_1 (by decide) (by decide) rfl rfl ?_
      refine s_aload_n C e_Fore_suppose_41 rfl ?_
      refine s_get C fc_2 zx_lt_15 (zx_15 _ _ _) 0 (by decide) e_Fore_suppose_42 g_251 rfl ?_
      refine s_iload_n C e_Fore_suppose_45 rfl ?_
      refine s_put C fc_1 (zb_lt hb28) (zb hb28 _ _ _) 2 (by decide) (zbp_2 hb28 _ _ _ _) (Nat.le_of_ble_eq_true rfl) e_Fore_suppose_46 g_323 rfl rfl (fun σ2 => ?_)
      refine s_goto (tgt := 75) C e_Fore_suppose_49 rfl ?_
      exact s_vret C e_Fore_suppose_75
    · skip
      refine s_split (fun h1_2 => ?_) (fun h1_2 => ?_)
      · refine s_tabI (v := (2 : Int32)) (off := 51) (tgt := 52) C h1_2 e_Fore_suppose_1 (by decide) (by decide) rfl rfl ?_
        refine s_aload_n C e_Fore_suppose_52 rfl ?_
        refine s_get C fc_2 zx_lt_15 (zx_15 _ _ _) 0 (by decide) e_Fore_suppose_53 g_251 rfl ?_
        refine s_get C fc_1 (zb_lt hb28) (zb hb28 _ _ _) 7 (by decide) e_Fore_suppose_56 g_324 rfl ?_
        refine s_iload_n C e_Fore_suppose_59 rfl ?_
        refine s_iload_n C e_Fore_suppose_60 rfl ?_
        refine s_iast C (zb2_lt hb28) (zb2 hb28) e_Fore_suppose_61 (fun σ3 => ?_)
        refine s_goto (tgt := 75) C e_Fore_suppose_62 rfl ?_
        exact s_vret C e_Fore_suppose_75
      · skip
        have hx : x2.toInt < 0 ∨ 2 < x2.toInt := by
          have q0 := ne_i (z := 0) rfl h1_0
          have q1 := ne_i (z := 1) rfl h1_1
          have q2 := ne_i (z := 2) rfl h1_2
          omega
        refine s_tabO (tgt := 65) C e_Fore_suppose_1 hx rfl ?_
        refine s_aload_n C e_Fore_suppose_65 rfl ?_
        refine s_get C fc_2 zx_lt_15 (zx_15 _ _ _) 0 (by decide) e_Fore_suppose_66 g_251 rfl ?_
        refine s_get C fc_1 (zb_lt hb28) (zb hb28 _ _ _) 11 (by decide) e_Fore_suppose_69 g_325 rfl ?_
        refine s_iload_n C e_Fore_suppose_72 rfl ?_
        refine s_iload_n C e_Fore_suppose_73 rfl ?_
        refine s_iast C (zb6_lt hb28) (zb6 hb28) e_Fore_suppose_74 (fun σ4 => ?_)
        exact s_vret C e_Fore_suppose_75
theorem c_Fore_suppose {l : Launch} {D : va_G} {k : Nat → ClassId} {q : Nat → Nat} (hq : Inj ZX q)  (σ : St) (x1 : Int32) (x2 : Int32) (x3 : Int32) : Ct l ZX D k q yX2_suppose cX2_suppose 4 none 0 0 [.ref (q 15), .int x1, .int x2, .int x3] σ (m_Fore_suppose σ x1 x2 x3) :=
  Ct_of hq lcX (by decide) (Nat.le_of_ble_eq_true rfl) (fun _ _ _ _ _ _ _ _ _ _ C => w_Fore_suppose C σ x1 x2 x3)
set_option maxRecDepth 100000 in
theorem w_Fore_tells_B3 {X : CX} (C : Cx X ZX RX2 cX2_tells 6 (some .boolean) 3 67) {w1 : Nat} (hw1 : isI w1) (r3 : St → Int32 → Int32 → Int32 → Int32 → Rt) (hr3 : ∀ (σ : St) (x2 : Int32) (x3 : Int32) (x4 : Int32) (x5 : Int32), Sm X ZX 6 (some .boolean) σ [(0, .ref (cq X 15)), (1, .ref (cq X w1)), (2, .int x2), (3, .int x3), (4, .int x4), (5, .int x5)] 3 [] (r3 σ x2 x3 x4 x5)) (σ : St) (x2 : Int32) (x3 : Int32) (x4 : Int32) (x5 : Int32) : Sm X ZX 6 (some .boolean) σ [(0, .ref (cq X 15)), (1, .ref (cq X w1)), (2, .int x2), (3, .int x3), (4, .int x4), (5, .int x5)] 3 [] (m_Fore_tells_B3 w1 r3 σ x2 x3 x4 x5) := by
  unfold m_Fore_tells_B3
  refine s_iload C e_Fore_tells_3 rfl ?_
  refine s_iload_n C e_Fore_tells_5 rfl ?_
  refine s_icmp_ge (tgt := 53) C e_Fore_tells_6 rfl ?_ ?_
  · refine s_iconst C e_Fore_tells_53 (v := (1 : Int32)) ic_1 ?_
    exact s_zret C e_Fore_tells_54
  · refine s_iload_n C e_Fore_tells_9 rfl ?_
    refine s_iload C e_Fore_tells_10 rfl ?_
    refine s_iadd C e_Fore_tells_12 ?_
    refine s_aload_n C e_Fore_tells_13 rfl ?_
    refine s_alen (v := (40 : Int32)) C (zi_lt hw1) (zi hw1) e_Fore_tells_14 rfl ?_
    refine s_icmp_ge (tgt := 53) C e_Fore_tells_15 rfl ?_ ?_
    · refine s_iconst C e_Fore_tells_53 (v := (1 : Int32)) ic_1 ?_
      exact s_zret C e_Fore_tells_54
    · refine s_aload_n C e_Fore_tells_18 rfl ?_
      refine s_get C fc_2 zx_lt_15 (zx_15 _ _ _) 0 (by decide) e_Fore_tells_19 g_251 rfl ?_
      refine s_iconst C e_Fore_tells_22 (v := (0 : Int32)) ic_0 ?_
      refine s_callVv_1 C (c_Board_open C.inj hb28 _ _) wv_Board_open g_326 ⟨by decide, by decide⟩ fc_1 rfl (zb_lt hb28) (zb hb28 _ _ _) rfl (Nat.le_of_ble_eq_true rfl) e_Fore_tells_23 (fun v1 σ2 => ?_)
      refine s_aload_n C e_Fore_tells_26 rfl ?_
      refine s_get C fc_2 zx_lt_15 (zx_15 _ _ _) 0 (by decide) e_Fore_tells_27 g_251 rfl ?_
      refine s_get C fc_1 (zb_lt hb28) (zb hb28 _ _ _) 11 (by decide) e_Fore_tells_30 g_325 rfl ?_
      refine s_iload C e_Fore_tells_33 rfl ?_
      refine s_iald C (zb6_lt hb28) (zb6 hb28) e_Fore_tells_35 ?_
      refine s_aload_n C e_Fore_tells_36 rfl ?_
      refine s_iload_n C e_Fore_tells_37 rfl ?_
      refine s_iload C e_Fore_tells_38 rfl ?_
      refine s_iadd C e_Fore_tells_40 ?_
      refine s_iald C (zi_lt hw1) (zi hw1) e_Fore_tells_41 ?_
      refine s_icmp_eq (tgt := 47) C e_Fore_tells_42 rfl ?_ ?_
      · refine s_iinc C e_Fore_tells_47 (v := (1 : Int32)) rfl (by decide) ii_1 ?_
        refine s_goto (tgt := 3) C e_Fore_tells_50 rfl ?_
        exact s_cut (hr3 _ _ _ _ _) ⟨rfl, rfl, rfl, rfl, rfl, rfl, trivial⟩
      · refine s_iconst C e_Fore_tells_45 (v := (0 : Int32)) ic_0 ?_
        exact s_zret C e_Fore_tells_46
theorem w_Fore_tells_L3 {X : CX} (C : Cx X ZX RX2 cX2_tells 6 (some .boolean) 3 67) {w1 : Nat} (hw1 : isI w1)  : ∀ (n : Nat) (σ : St) (x2 : Int32) (x3 : Int32) (x4 : Int32) (x5 : Int32), Sm X ZX 6 (some .boolean) σ [(0, .ref (cq X 15)), (1, .ref (cq X w1)), (2, .int x2), (3, .int x3), (4, .int x4), (5, .int x5)] 3 [] (m_Fore_tells_L3 w1 n σ x2 x3 x4 x5)
  | 0, _, _, _, _, _ => s_none
  | n + 1, σ, x2, x3, x4, x5 => w_Fore_tells_B3 C hw1 (m_Fore_tells_L3 w1 n) (w_Fore_tells_L3 C hw1 n) σ x2 x3 x4 x5
set_option maxRecDepth 100000 in
theorem w_Fore_tells {X : CX} (C : Cx X ZX RX2 cX2_tells 6 (some .boolean) 3 67) {w1 : Nat} (hw1 : isI w1) (σ : St) (x2 : Int32) (x3 : Int32) (x4 : Int32) : Sm X ZX 6 (some .boolean) σ [(0, .ref (cq X 15)), (1, .ref (cq X w1)), (2, .int x2), (3, .int x3), (4, .int x4)] 0 [] (m_Fore_tells w1 σ x2 x3 x4) := by
  unfold m_Fore_tells
  refine s_iconst C e_Fore_tells_0 (v := (0 : Int32)) ic_0 ?_
  refine s_istore C e_Fore_tells_1 (by decide) ?_
  exact s_cut (w_Fore_tells_L3 C hw1 FU _ _ _ _ _) ⟨rfl, rfl, rfl, rfl, rfl, rfl, trivial⟩
theorem c_Fore_tells {l : Launch} {D : va_G} {k : Nat → ClassId} {q : Nat → Nat} (hq : Inj ZX q) {w1 : Nat} (hw1 : isI w1) (σ : St) (x2 : Int32) (x3 : Int32) (x4 : Int32) : Ct l ZX D k q yX2_tells cX2_tells 6 (some .boolean) 3 67 [.ref (q 15), .ref (q w1), .int x2, .int x3, .int x4] σ (m_Fore_tells w1 σ x2 x3 x4) :=
  Ct_of hq lcX (by decide) (Nat.le_of_ble_eq_true rfl) (fun _ _ _ _ _ _ _ _ _ _ C => w_Fore_tells C hw1 σ x2 x3 x4)
set_option maxRecDepth 100000 in
theorem w_Fore_fitting_B69 {X : CX} (C : Cx X ZX RX2 cX2_fitting 9 (some .int) 4 92) {w1 : Nat} (hw1 : isI w1) (r21 : St → Int32 → Int32 → Int32 → Int32 → Int32 → Int32 → Int32 → Rt) (hr21 : ∀ (σ : St) (x1 : Int32) (x2 : Int32) (x4 : Int32) (x5 : Int32) (x6 : Int32) (x7 : Int32) (x8 : Int32), Sm X ZX 9 (some .int) σ [(0, .ref (cq X 15)), (1, .int x1), (2, .int x2), (3, .ref (cq X w1)), (4, .int x4), (5, .int x5), (6, .int x6), (7, .int x7), (8, .int x8)] 21 [] (r21 σ x1 x2 x4 x5 x6 x7 x8)) (σ : St) (x1 : Int32) (x2 : Int32) (x4 : Int32) (x5 : Int32) (x6 : Int32) (x7 : Int32) (x8 : Int32) : Sm X ZX 9 (some .int) σ [(0, .ref (cq X 15)), (1, .int x1), (2, .int x2), (3, .ref (cq X w1)), (4, .int x4), (5, .int x5), (6, .int x6), (7, .int x7), (8, .int x8)] 69 [] (m_Fore_fitting_B69 w1 r21 σ x1 x2 x4 x5 x6 x7 x8) := by
  unfold m_Fore_fitting_B69
  refine s_iinc C e_Fore_fitting_69 (v := (1 : Int32)) rfl (by decide) ii_1 ?_
  refine s_goto (tgt := 21) C e_Fore_fitting_72 rfl ?_
  exact s_cut (hr21 _ _ _ _ _ _ _ _) ⟨rfl, rfl, rfl, rfl, rfl, rfl, rfl, rfl, rfl, trivial⟩
set_option maxRecDepth 100000 in
theorem w_Fore_fitting_B21 {X : CX} (C : Cx X ZX RX2 cX2_fitting 9 (some .int) 4 92) {w1 : Nat} (hw1 : isI w1) (r21 : St → Int32 → Int32 → Int32 → Int32 → Int32 → Int32 → Int32 → Rt) (hr21 : ∀ (σ : St) (x1 : Int32) (x2 : Int32) (x4 : Int32) (x5 : Int32) (x6 : Int32) (x7 : Int32) (x8 : Int32), Sm X ZX 9 (some .int) σ [(0, .ref (cq X 15)), (1, .int x1), (2, .int x2), (3, .ref (cq X w1)), (4, .int x4), (5, .int x5), (6, .int x6), (7, .int x7), (8, .int x8)] 21 [] (r21 σ x1 x2 x4 x5 x6 x7 x8)) (σ : St) (x1 : Int32) (x2 : Int32) (x4 : Int32) (x5 : Int32) (x6 : Int32) (x7 : Int32) (x8 : Int32) : Sm X ZX 9 (some .int) σ [(0, .ref (cq X 15)), (1, .int x1), (2, .int x2), (3, .ref (cq X w1)), (4, .int x4), (5, .int x5), (6, .int x6), (7, .int x7), (8, .int x8)] 21 [] (m_Fore_fitting_B21 w1 r21 σ x1 x2 x4 x5 x6 x7 x8) := by
  unfold m_Fore_fitting_B21
  refine s_iload C e_Fore_fitting_21 rfl ?_
  refine s_iload C e_Fore_fitting_23 rfl ?_
  refine s_icmp_gt (tgt := 75) C e_Fore_fitting_25 rfl ?_ ?_
  · refine s_iload C e_Fore_fitting_75 rfl ?_
    exact s_iret C e_Fore_fitting_77
  · refine s_aload_n C e_Fore_fitting_28 rfl ?_
    refine s_get C fc_2 zx_lt_15 (zx_15 _ _ _) 0 (by decide) e_Fore_fitting_29 g_251 rfl ?_
    refine s_aload_n C e_Fore_fitting_32 rfl ?_
    refine s_get C fc_2 zx_lt_15 (zx_15 _ _ _) 1 (by decide) e_Fore_fitting_33 g_252 rfl ?_
    refine s_callVv_1 C (c_Board_takeFrom C.inj hb28 hb21 _) wv_Board_takeFrom g_253 ⟨by decide, by decide⟩ fc_1 rfl (zb_lt hb28) (zb hb28 _ _ _) rfl (Nat.le_of_ble_eq_true rfl) e_Fore_fitting_36 (fun v1 σ2 => ?_)
    refine s_aload_n C e_Fore_fitting_39 rfl ?_
    refine s_iload_n C e_Fore_fitting_40 rfl ?_
    refine s_iload_n C e_Fore_fitting_41 rfl ?_
    refine s_iload C e_Fore_fitting_42 rfl ?_
    refine s_callVv_3 C (c_Fore_suppose C.inj _ _ _ _) wv_Fore_suppose g_335 ⟨by decide, by decide⟩ fc_2 rfl zx_lt_15 (zx_15 _ _ _) rfl (Nat.le_of_ble_eq_true rfl) e_Fore_fitting_44 (fun v3 σ4 => ?_)
    refine s_aload_n C e_Fore_fitting_47 rfl ?_
    refine s_aload_n C e_Fore_fitting_48 rfl ?_
    refine s_iload C e_Fore_fitting_49 rfl ?_
    refine s_iload C e_Fore_fitting_51 rfl ?_
    refine s_iload_n C e_Fore_fitting_53 rfl ?_
    refine s_callV_4 C (c_Fore_tells C.inj hw1 _ _ _ _) wv_Fore_tells g_331 ⟨by decide, by decide⟩ fc_2 rfl zx_lt_15 (zx_15 _ _ _) rfl (Nat.le_of_ble_eq_true rfl) e_Fore_fitting_54 (fun v5 σ6 => ?_)
    refine s_if_eq (tgt := 69) C e_Fore_fitting_57 rfl ?_ ?_
    · exact s_cut (w_Fore_fitting_B69 C hw1 r21 hr21 _ _ _ _ _ _ _ _) ⟨rfl, rfl, rfl, rfl, rfl, rfl, rfl, rfl, rfl, trivial⟩
    · refine s_iload C e_Fore_fitting_60 rfl ?_
      refine s_iconst C e_Fore_fitting_62 (v := (1 : Int32)) ic_1 ?_
      refine s_iload C e_Fore_fitting_63 rfl ?_
      refine s_ishl C e_Fore_fitting_65 ?_
      refine s_ior C e_Fore_fitting_66 ?_
      refine s_nm (fun y7 => ?_)
      refine s_istore C e_Fore_fitting_67 (by decide) ?_
      exact s_cut (w_Fore_fitting_B69 C hw1 r21 hr21 _ _ _ _ _ _ _ _) ⟨rfl, rfl, rfl, rfl, rfl, rfl, rfl, rfl, rfl, trivial⟩
theorem w_Fore_fitting_L21 {X : CX} (C : Cx X ZX RX2 cX2_fitting 9 (some .int) 4 92) {w1 : Nat} (hw1 : isI w1)  : ∀ (n : Nat) (σ : St) (x1 : Int32) (x2 : Int32) (x4 : Int32) (x5 : Int32) (x6 : Int32) (x7 : Int32) (x8 : Int32), Sm X ZX 9 (some .int) σ [(0, .ref (cq X 15)), (1, .int x1), (2, .int x2), (3, .ref (cq X w1)), (4, .int x4), (5, .int x5), (6, .int x6), (7, .int x7), (8, .int x8)] 21 [] (m_Fore_fitting_L21 w1 n σ x1 x2 x4 x5 x6 x7 x8)
  | 0, _, _, _, _, _, _, _, _ => s_none
  | n + 1, σ, x1, x2, x4, x5, x6, x7, x8 => w_Fore_fitting_B21 C hw1 (m_Fore_fitting_L21 w1 n) (w_Fore_fitting_L21 C hw1 n) σ x1 x2 x4 x5 x6 x7 x8
set_option maxRecDepth 100000 in
theorem w_Fore_fitting_B19 {X : CX} (C : Cx X ZX RX2 cX2_fitting 9 (some .int) 4 92) {w1 : Nat} (hw1 : isI w1)  (σ : St) (x1 : Int32) (x2 : Int32) (x4 : Int32) (x5 : Int32) (x6 : Int32) (x7 : Int32) (s0 : Int32) : Sm X ZX 9 (some .int) σ [(0, .ref (cq X 15)), (1, .int x1), (2, .int x2), (3, .ref (cq X w1)), (4, .int x4), (5, .int x5), (6, .int x6), (7, .int x7)] 19 [.int s0] (m_Fore_fitting_B19 w1 σ x1 x2 x4 x5 x6 x7 s0) := by
  unfold m_Fore_fitting_B19
  refine s_istore C e_Fore_fitting_19 (by decide) ?_
  exact s_cut (w_Fore_fitting_L21 C hw1 FU _ _ _ _ _ _ _ _) ⟨rfl, rfl, rfl, rfl, rfl, rfl, rfl, rfl, rfl, trivial⟩
set_option maxRecDepth 100000 in
theorem w_Fore_fitting {X : CX} (C : Cx X ZX RX2 cX2_fitting 9 (some .int) 4 92) {w1 : Nat} (hw1 : isI w1) (σ : St) (x1 : Int32) (x2 : Int32) (x4 : Int32) (x5 : Int32) : Sm X ZX 9 (some .int) σ [(0, .ref (cq X 15)), (1, .int x1), (2, .int x2), (3, .ref (cq X w1)), (4, .int x4), (5, .int x5)] 0 [] (m_Fore_fitting w1 σ x1 x2 x4 x5) := by
  unfold m_Fore_fitting
  refine s_iconst C e_Fore_fitting_0 (v := (0 : Int32)) ic_0 ?_
  refine s_istore C e_Fore_fitting_1 (by decide) ?_
  refine s_aload_n C e_Fore_fitting_3 rfl ?_
  refine s_iload_n C e_Fore_fitting_4 rfl ?_
  refine s_callV_1 C (c_Fore_mostSupposed C.inj _ _) wv_Fore_mostSupposed g_327 ⟨by decide, by decide⟩ fc_2 rfl zx_lt_15 (zx_15 _ _ _) rfl (Nat.le_of_ble_eq_true rfl) e_Fore_fitting_5 (fun v1 σ2 => ?_)
  refine s_istore C e_Fore_fitting_8 (by decide) ?_
  refine s_iload_n C e_Fore_fitting_10 rfl ?_
  refine s_if_ne (tgt := 18) C e_Fore_fitting_11 rfl ?_ ?_
  · refine s_iconst C e_Fore_fitting_14 (v := (1 : Int32)) ic_1 ?_
    refine s_goto (tgt := 19) C e_Fore_fitting_15 rfl ?_
    exact s_cut (w_Fore_fitting_B19 C hw1 _ _ _ _ _ _ _ _) ⟨rfl, rfl, rfl, rfl, rfl, rfl, rfl, rfl, trivial⟩
  · refine s_iconst C e_Fore_fitting_18 (v := (0 : Int32)) ic_0 ?_
    exact s_cut (w_Fore_fitting_B19 C hw1 _ _ _ _ _ _ _ _) ⟨rfl, rfl, rfl, rfl, rfl, rfl, rfl, rfl, trivial⟩
theorem c_Fore_fitting {l : Launch} {D : va_G} {k : Nat → ClassId} {q : Nat → Nat} (hq : Inj ZX q) {w1 : Nat} (hw1 : isI w1) (σ : St) (x1 : Int32) (x2 : Int32) (x4 : Int32) (x5 : Int32) : Ct l ZX D k q yX2_fitting cX2_fitting 9 (some .int) 4 92 [.ref (q 15), .int x1, .int x2, .ref (q w1), .int x4, .int x5] σ (m_Fore_fitting w1 σ x1 x2 x4 x5) :=
  Ct_of hq lcX (by decide) (Nat.le_of_ble_eq_true rfl) (fun _ _ _ _ _ _ _ _ _ _ C => w_Fore_fitting C hw1 σ x1 x2 x4 x5)
set_option maxRecDepth 100000 in
theorem w_P_fits_B27 {X : CX} (C : Cx X ZX RX6 cX6_fits 7 (some .int) 5 120)   (σ : St) (x1 : Int32) (x2 : Int32) (x3 : Int32) (x4 : Int32) (x5 : Int32) (s0 : Int32) : Sm X ZX 7 (some .int) σ [(0, .ref (cq X 0)), (1, .int x1), (2, .int x2), (3, .int x3), (4, .int x4), (5, .int x5)] 27 [.int s0] (m_P_fits_B27 σ x1 x2 x3 x4 x5 s0) := by
  unfold m_P_fits_B27
  refine s_istore C e_P_fits_27 (by decide) ?_
  refine s_iload C e_P_fits_29 rfl ?_
  refine s_if_eq (tgt := 55) C e_P_fits_31 rfl ?_ ?_
  · refine s_ldc C e_P_fits_55 g_10 ?_
    exact s_iret C e_P_fits_57
  · refine s_iload C e_P_fits_34 rfl ?_
    refine s_iconst C e_P_fits_36 (v := (1 : Int32)) ic_1 ?_
    refine s_bipush C e_P_fits_37 (v := (12 : Int32)) bp_12 ?_
    refine s_callS_3 C (c_P_within C.inj _ _ _ _) wv_P_within g_24 ⟨by decide, by decide⟩ rfl (Nat.le_of_ble_eq_true rfl) e_P_fits_39 (fun v1 σ2 => ?_)
    refine s_if_eq (tgt := 55) C e_P_fits_42 rfl ?_ ?_
    · refine s_ldc C e_P_fits_55 g_10 ?_
      exact s_iret C e_P_fits_57
    · refine s_iload C e_P_fits_45 rfl ?_
      refine s_iconst C e_P_fits_47 (v := (0 : Int32)) ic_0 ?_
      refine s_iconst C e_P_fits_48 (v := (3 : Int32)) ic_3 ?_
      refine s_callS_3 C (c_P_within C.inj _ _ _ _) wv_P_within g_24 ⟨by decide, by decide⟩ rfl (Nat.le_of_ble_eq_true rfl) e_P_fits_49 (fun v3 σ4 => ?_)
      refine s_if_ne (tgt := 58) C e_P_fits_52 rfl ?_ ?_
      · refine s_ldc C e_P_fits_55 g_10 ?_
        exact s_iret C e_P_fits_57
      · refine s_aload_n C e_P_fits_58 rfl ?_
        refine s_get C fc_6 zx_lt_0 (zx_0 _ _ _) 0 (by decide) e_P_fits_59 g_9 rfl ?_
        refine s_iload_n C e_P_fits_62 rfl ?_
        refine s_callV_1 C (c_Rows_isMissing C.inj _ _) wv_Rows_isMissing g_37 ⟨by decide, by decide⟩ fc_5 rfl zx_lt_1 (zx_1 _ _ _) rfl (Nat.le_of_ble_eq_true rfl) e_P_fits_63 (fun v5 σ6 => ?_)
        refine s_if_eq (tgt := 75) C e_P_fits_66 rfl ?_ ?_
        · refine s_aload_n C e_P_fits_75 rfl ?_
          refine s_get C fc_6 zx_lt_0 (zx_0 _ _ _) 0 (by decide) e_P_fits_76 g_9 rfl ?_
          refine s_iload_n C e_P_fits_79 rfl ?_
          refine s_iload_n C e_P_fits_80 rfl ?_
          refine s_iload C e_P_fits_81 rfl ?_
          refine s_callV_3 C (c_Rows_hasPlaces C.inj _ _ _ _) wv_Rows_hasPlaces g_33 ⟨by decide, by decide⟩ fc_5 rfl zx_lt_1 (zx_1 _ _ _) rfl (Nat.le_of_ble_eq_true rfl) e_P_fits_83 (fun v7 σ8 => ?_)
          refine s_if_ne (tgt := 95) C e_P_fits_86 rfl ?_ ?_
          · refine s_aload_n C e_P_fits_89 rfl ?_
            refine s_iconst C e_P_fits_90 (v := (2 : Int32)) ic_2 ?_
            refine s_callV_1 C (c_P_finding C.inj _ _) wv_P_finding g_20 ⟨by decide, by decide⟩ fc_6 rfl zx_lt_0 (zx_0 _ _ _) rfl (Nat.le_of_ble_eq_true rfl) e_P_fits_91 (fun v13 σ14 => ?_)
            exact s_iret C e_P_fits_94
          · refine s_aload_n C e_P_fits_95 rfl ?_
            refine s_aload_n C e_P_fits_96 rfl ?_
            refine s_get C fc_6 zx_lt_0 (zx_0 _ _ _) 3 (by decide) e_P_fits_97 g_140 rfl ?_
            refine s_iload_n C e_P_fits_100 rfl ?_
            refine s_iload C e_P_fits_101 rfl ?_
            refine s_aload_n C e_P_fits_103 rfl ?_
            refine s_get C fc_6 zx_lt_0 (zx_0 _ _ _) 0 (by decide) e_P_fits_104 g_9 rfl ?_
            refine s_get C fc_5 zx_lt_1 (zx_1 _ _ _) 2 (by decide) e_P_fits_107 g_42 rfl ?_
            refine s_iload_n C e_P_fits_110 rfl ?_
            refine s_aald (c := 3) (ty := .array .int) C gIt zx_lt_4 (zx_4 _ _ _) rfl rfl zxf_4 e_P_fits_111 (fun hi111 => ?_)
            refine s_iload_n C e_P_fits_112 rfl ?_
            refine s_iload C e_P_fits_113 rfl ?_
            refine s_callV_5 C (c_Fore_fitting C.inj (isI_g hi111) _ _ _ _ _) wv_Fore_fitting g_339 ⟨by decide, by decide⟩ fc_2 rfl zx_lt_15 (zx_15 _ _ _) rfl (Nat.le_of_ble_eq_true rfl) e_P_fits_115 (fun v9 σ10 => ?_)
            refine s_callV_1 C (c_P_foundNothing C.inj _ _) wv_P_foundNothing g_11 ⟨by decide, by decide⟩ fc_6 rfl zx_lt_0 (zx_0 _ _ _) rfl (Nat.le_of_ble_eq_true rfl) e_P_fits_118 (fun v11 σ12 => ?_)
            exact s_iret C e_P_fits_121
        · refine s_aload_n C e_P_fits_69 rfl ?_
          refine s_iconst C e_P_fits_70 (v := (1 : Int32)) ic_1 ?_
          refine s_callV_1 C (c_P_finding C.inj _ _) wv_P_finding g_20 ⟨by decide, by decide⟩ fc_6 rfl zx_lt_0 (zx_0 _ _ _) rfl (Nat.le_of_ble_eq_true rfl) e_P_fits_71 (fun v15 σ16 => ?_)
          exact s_iret C e_P_fits_74
set_option maxRecDepth 100000 in
theorem w_P_fits_B26 {X : CX} (C : Cx X ZX RX6 cX6_fits 7 (some .int) 5 120)   (σ : St) (x1 : Int32) (x2 : Int32) (x3 : Int32) (x4 : Int32) (x5 : Int32) : Sm X ZX 7 (some .int) σ [(0, .ref (cq X 0)), (1, .int x1), (2, .int x2), (3, .int x3), (4, .int x4), (5, .int x5)] 26 [] (m_P_fits_B26 σ x1 x2 x3 x4 x5) := by
  unfold m_P_fits_B26
  refine s_iconst C e_P_fits_26 (v := (0 : Int32)) ic_0 ?_
  exact s_cut (w_P_fits_B27 C _ _ _ _ _ _ _) ⟨rfl, rfl, rfl, rfl, rfl, rfl, trivial⟩
set_option maxRecDepth 100000 in
theorem w_P_fits {X : CX} (C : Cx X ZX RX6 cX6_fits 7 (some .int) 5 120)  (σ : St) (x1 : Int32) (x2 : Int32) (x3 : Int32) (x4 : Int32) (x5 : Int32) : Sm X ZX 7 (some .int) σ [(0, .ref (cq X 0)), (1, .int x1), (2, .int x2), (3, .int x3), (4, .int x4), (5, .int x5)] 0 [] (m_P_fits σ x1 x2 x3 x4 x5) := by
  unfold m_P_fits
  refine s_aload_n C e_P_fits_0 rfl ?_
  refine s_get C fc_6 zx_lt_0 (zx_0 _ _ _) 2 (by decide) e_P_fits_1 g_142 rfl ?_
  refine s_iload_n C e_P_fits_4 rfl ?_
  refine s_callV_1 C (c_Board_hasPin C.inj hb21 _ _) wv_Board_hasPin g_233 ⟨by decide, by decide⟩ fc_1 rfl (zb_lt hb21) (zb hb21 _ _ _) rfl (Nat.le_of_ble_eq_true rfl) e_P_fits_5 (fun v1 σ2 => ?_)
  refine s_if_eq (tgt := 26) C e_P_fits_8 rfl ?_ ?_
  · exact s_cut (w_P_fits_B26 C _ _ _ _ _ _) ⟨rfl, rfl, rfl, rfl, rfl, rfl, trivial⟩
  · refine s_aload_n C e_P_fits_11 rfl ?_
    refine s_get C fc_6 zx_lt_0 (zx_0 _ _ _) 0 (by decide) e_P_fits_12 g_9 rfl ?_
    refine s_iload_n C e_P_fits_15 rfl ?_
    refine s_callV_1 C (c_Rows_isRow C.inj _ _) wv_Rows_isRow g_25 ⟨by decide, by decide⟩ fc_5 rfl zx_lt_1 (zx_1 _ _ _) rfl (Nat.le_of_ble_eq_true rfl) e_P_fits_16 (fun v3 σ4 => ?_)
    refine s_if_eq (tgt := 26) C e_P_fits_19 rfl ?_ ?_
    · exact s_cut (w_P_fits_B26 C _ _ _ _ _ _) ⟨rfl, rfl, rfl, rfl, rfl, rfl, trivial⟩
    · refine s_iconst C e_P_fits_22 (v := (1 : Int32)) ic_1 ?_
      refine s_goto (tgt := 27) C e_P_fits_23 rfl ?_
      exact s_cut (w_P_fits_B27 C _ _ _ _ _ _ _) ⟨rfl, rfl, rfl, rfl, rfl, rfl, trivial⟩
theorem c_P_fits {l : Launch} {D : va_G} {k : Nat → ClassId} {q : Nat → Nat} (hq : Inj ZX q)  (σ : St) (x1 : Int32) (x2 : Int32) (x3 : Int32) (x4 : Int32) (x5 : Int32) : Ct l ZX D k q yX6_fits cX6_fits 7 (some .int) 5 120 [.ref (q 0), .int x1, .int x2, .int x3, .int x4, .int x5] σ (m_P_fits σ x1 x2 x3 x4 x5) :=
  Ct_of hq lcX (by decide) (Nat.le_of_ble_eq_true rfl) (fun _ _ _ _ _ _ _ _ _ _ C => w_P_fits C σ x1 x2 x3 x4 x5)
set_option maxRecDepth 100000 in
theorem w_Board_pinsInTray_B30 {X : CX} (C : Cx X ZX RX1 cX1_pinsInTray 3 (some .int) 1 21) {b : Nat} (hb : isB b) (r4 : St → Int32 → Int32 → Rt) (hr4 : ∀ (σ : St) (x1 : Int32) (x2 : Int32), Sm X ZX 3 (some .int) σ [(0, .ref (cq X b)), (1, .int x1), (2, .int x2)] 4 [] (r4 σ x1 x2)) (σ : St) (x2 : Int32) (s0 : Int32) (s1 : Int32) : Sm X ZX 3 (some .int) σ [(0, .ref (cq X b)), (2, .int x2)] 30 [.int s0, .int s1] (m_Board_pinsInTray_B30 b r4 σ x2 s0 s1) := by
  unfold m_Board_pinsInTray_B30
  refine s_ior C e_Board_pinsInTray_30 ?_
  refine s_nm (fun y1 => ?_)
  refine s_istore_n C e_Board_pinsInTray_31 (by decide) ?_
  refine s_iinc C e_Board_pinsInTray_32 (v := (1 : Int32)) rfl (by decide) ii_1 ?_
  refine s_goto (tgt := 4) C e_Board_pinsInTray_35 rfl ?_
  exact s_cut (hr4 _ _ _) ⟨rfl, rfl, rfl, trivial⟩
set_option maxRecDepth 100000 in
theorem w_Board_pinsInTray_B4 {X : CX} (C : Cx X ZX RX1 cX1_pinsInTray 3 (some .int) 1 21) {b : Nat} (hb : isB b) (r4 : St → Int32 → Int32 → Rt) (hr4 : ∀ (σ : St) (x1 : Int32) (x2 : Int32), Sm X ZX 3 (some .int) σ [(0, .ref (cq X b)), (1, .int x1), (2, .int x2)] 4 [] (r4 σ x1 x2)) (σ : St) (x1 : Int32) (x2 : Int32) : Sm X ZX 3 (some .int) σ [(0, .ref (cq X b)), (1, .int x1), (2, .int x2)] 4 [] (m_Board_pinsInTray_B4 b r4 σ x1 x2) := by
  unfold m_Board_pinsInTray_B4
  refine s_iload_n C e_Board_pinsInTray_4 rfl ?_
  refine s_aload_n C e_Board_pinsInTray_5 rfl ?_
  refine s_get C fc_1 (zb_lt hb) (zb hb _ _ _) 1 (by decide) e_Board_pinsInTray_6 g_59 rfl ?_
  refine s_icmp_ge (tgt := 38) C e_Board_pinsInTray_9 rfl ?_ ?_
  · refine s_iload_n C e_Board_pinsInTray_38 rfl ?_
    exact s_iret C e_Board_pinsInTray_39
  · refine s_iload_n C e_Board_pinsInTray_12 rfl ?_
    refine s_aload_n C e_Board_pinsInTray_13 rfl ?_
    refine s_iload_n C e_Board_pinsInTray_14 rfl ?_
    refine s_callV_1 C (c_Board_place C.inj hb _ _) wv_Board_place g_179 ⟨by decide, by decide⟩ fc_1 rfl (zb_lt hb) (zb hb _ _ _) rfl (Nat.le_of_ble_eq_true rfl) e_Board_pinsInTray_15 (fun v1 σ2 => ?_)
    refine s_ldc C e_Board_pinsInTray_18 g_92 ?_
    refine s_icmp_ne (tgt := 29) C e_Board_pinsInTray_20 rfl ?_ ?_
    · refine s_iconst C e_Board_pinsInTray_23 (v := (1 : Int32)) ic_1 ?_
      refine s_iload_n C e_Board_pinsInTray_24 rfl ?_
      refine s_ishl C e_Board_pinsInTray_25 ?_
      refine s_goto (tgt := 30) C e_Board_pinsInTray_26 rfl ?_
      exact s_cut (w_Board_pinsInTray_B30 C hb r4 hr4 _ _ _ _) ⟨rfl, rfl, trivial⟩
    · refine s_iconst C e_Board_pinsInTray_29 (v := (0 : Int32)) ic_0 ?_
      exact s_cut (w_Board_pinsInTray_B30 C hb r4 hr4 _ _ _ _) ⟨rfl, rfl, trivial⟩
theorem w_Board_pinsInTray_L4 {X : CX} (C : Cx X ZX RX1 cX1_pinsInTray 3 (some .int) 1 21) {b : Nat} (hb : isB b)  : ∀ (n : Nat) (σ : St) (x1 : Int32) (x2 : Int32), Sm X ZX 3 (some .int) σ [(0, .ref (cq X b)), (1, .int x1), (2, .int x2)] 4 [] (m_Board_pinsInTray_L4 b n σ x1 x2)
  | 0, _, _, _ => s_none
  | n + 1, σ, x1, x2 => w_Board_pinsInTray_B4 C hb (m_Board_pinsInTray_L4 b n) (w_Board_pinsInTray_L4 C hb n) σ x1 x2
set_option maxRecDepth 100000 in
theorem w_Board_pinsInTray {X : CX} (C : Cx X ZX RX1 cX1_pinsInTray 3 (some .int) 1 21) {b : Nat} (hb : isB b) (σ : St)  : Sm X ZX 3 (some .int) σ [(0, .ref (cq X b))] 0 [] (m_Board_pinsInTray b σ) := by
  unfold m_Board_pinsInTray
  refine s_iconst C e_Board_pinsInTray_0 (v := (0 : Int32)) ic_0 ?_
  refine s_istore_n C e_Board_pinsInTray_1 (by decide) ?_
  refine s_iconst C e_Board_pinsInTray_2 (v := (0 : Int32)) ic_0 ?_
  refine s_istore_n C e_Board_pinsInTray_3 (by decide) ?_
  exact s_cut (w_Board_pinsInTray_L4 C hb FU _ _ _) ⟨rfl, rfl, rfl, trivial⟩
theorem c_Board_pinsInTray {l : Launch} {D : va_G} {k : Nat → ClassId} {q : Nat → Nat} (hq : Inj ZX q) {b : Nat} (hb : isB b) (σ : St)  : Ct l ZX D k q yX1_pinsInTray cX1_pinsInTray 3 (some .int) 1 21 [.ref (q b)] σ (m_Board_pinsInTray b σ) :=
  Ct_of hq lcX (by decide) (Nat.le_of_ble_eq_true rfl) (fun _ _ _ _ _ _ _ _ _ _ C => w_Board_pinsInTray C hb σ)
set_option maxRecDepth 100000 in
theorem w_Fore_isHeld {X : CX} (C : Cx X ZX RX2 cX2_isHeld 3 (some .boolean) 3 67)  (σ : St) (x1 : Int32) (x2 : Int32) : Sm X ZX 3 (some .boolean) σ [(0, .ref (cq X 15)), (1, .int x1), (2, .int x2)] 0 [] (m_Fore_isHeld σ x1 x2) := by
  unfold m_Fore_isHeld
  refine s_aload_n C e_Fore_isHeld_0 rfl ?_
  refine s_get C fc_2 zx_lt_15 (zx_15 _ _ _) 0 (by decide) e_Fore_isHeld_1 g_251 rfl ?_
  refine s_aload_n C e_Fore_isHeld_4 rfl ?_
  refine s_get C fc_2 zx_lt_15 (zx_15 _ _ _) 1 (by decide) e_Fore_isHeld_5 g_252 rfl ?_
  refine s_callVv_1 C (c_Board_takeFrom C.inj hb28 hb21 _) wv_Board_takeFrom g_253 ⟨by decide, by decide⟩ fc_1 rfl (zb_lt hb28) (zb hb28 _ _ _) rfl (Nat.le_of_ble_eq_true rfl) e_Fore_isHeld_8 (fun v1 σ2 => ?_)
  refine s_aload_n C e_Fore_isHeld_11 rfl ?_
  refine s_get C fc_2 zx_lt_15 (zx_15 _ _ _) 0 (by decide) e_Fore_isHeld_12 g_251 rfl ?_
  refine s_iload_n C e_Fore_isHeld_15 rfl ?_
  refine s_callVv_1 C (c_Board_open C.inj hb28 _ _) wv_Board_open g_326 ⟨by decide, by decide⟩ fc_1 rfl (zb_lt hb28) (zb hb28 _ _ _) rfl (Nat.le_of_ble_eq_true rfl) e_Fore_isHeld_16 (fun v3 σ4 => ?_)
  refine s_aload_n C e_Fore_isHeld_19 rfl ?_
  refine s_get C fc_2 zx_lt_15 (zx_15 _ _ _) 0 (by decide) e_Fore_isHeld_20 g_251 rfl ?_
  refine s_iload_n C e_Fore_isHeld_23 rfl ?_
  refine s_callV_1 C (c_Board_pinsIn C.inj hb28 _ _) wv_Board_pinsIn g_343 ⟨by decide, by decide⟩ fc_1 rfl (zb_lt hb28) (zb hb28 _ _ _) rfl (Nat.le_of_ble_eq_true rfl) e_Fore_isHeld_24 (fun v5 σ6 => ?_)
  refine s_iload_n C e_Fore_isHeld_27 rfl ?_
  refine s_iconst C e_Fore_isHeld_28 (v := (-1 : Int32)) ic_m1 ?_
  refine s_ixor C e_Fore_isHeld_29 ?_
  refine s_iand C e_Fore_isHeld_30 ?_
  refine s_if_eq (tgt := 38) C e_Fore_isHeld_31 rfl ?_ ?_
  · refine s_iconst C e_Fore_isHeld_38 (v := (0 : Int32)) ic_0 ?_
    exact s_zret C e_Fore_isHeld_39
  · refine s_iconst C e_Fore_isHeld_34 (v := (1 : Int32)) ic_1 ?_
    refine s_goto (tgt := 39) C e_Fore_isHeld_35 rfl ?_
    exact s_zret C e_Fore_isHeld_39
theorem c_Fore_isHeld {l : Launch} {D : va_G} {k : Nat → ClassId} {q : Nat → Nat} (hq : Inj ZX q)  (σ : St) (x1 : Int32) (x2 : Int32) : Ct l ZX D k q yX2_isHeld cX2_isHeld 3 (some .boolean) 3 67 [.ref (q 15), .int x1, .int x2] σ (m_Fore_isHeld σ x1 x2) :=
  Ct_of hq lcX (by decide) (Nat.le_of_ble_eq_true rfl) (fun _ _ _ _ _ _ _ _ _ _ C => w_Fore_isHeld C σ x1 x2)
set_option maxRecDepth 100000 in
theorem w_Fore_power_B4 {X : CX} (C : Cx X ZX RX2 cX2_power 4 (some .int) 0 0)  (r4 : St → Int32 → Int32 → Int32 → Int32 → Rt) (hr4 : ∀ (σ : St) (x0 : Int32) (x1 : Int32) (x2 : Int32) (x3 : Int32), Sm X ZX 4 (some .int) σ [(0, .int x0), (1, .int x1), (2, .int x2), (3, .int x3)] 4 [] (r4 σ x0 x1 x2 x3)) (σ : St) (x0 : Int32) (x1 : Int32) (x2 : Int32) (x3 : Int32) : Sm X ZX 4 (some .int) σ [(0, .int x0), (1, .int x1), (2, .int x2), (3, .int x3)] 4 [] (m_Fore_power_B4 r4 σ x0 x1 x2 x3) := by
  unfold m_Fore_power_B4
  refine s_iload_n C e_Fore_power_4 rfl ?_
  refine s_iload_n C e_Fore_power_5 rfl ?_
  refine s_icmp_ge (tgt := 19) C e_Fore_power_6 rfl ?_ ?_
  · refine s_iload_n C e_Fore_power_19 rfl ?_
    exact s_iret C e_Fore_power_20
  · refine s_iload_n C e_Fore_power_9 rfl ?_
    refine s_iload_n C e_Fore_power_10 rfl ?_
    refine s_imul C e_Fore_power_11 ?_
    refine s_nm (fun y1 => ?_)
    refine s_istore_n C e_Fore_power_12 (by decide) ?_
    refine s_iinc C e_Fore_power_13 (v := (1 : Int32)) rfl (by decide) ii_1 ?_
    refine s_goto (tgt := 4) C e_Fore_power_16 rfl ?_
    exact s_cut (hr4 _ _ _ _ _) ⟨rfl, rfl, rfl, rfl, trivial⟩
theorem w_Fore_power_L4 {X : CX} (C : Cx X ZX RX2 cX2_power 4 (some .int) 0 0)   : ∀ (n : Nat) (σ : St) (x0 : Int32) (x1 : Int32) (x2 : Int32) (x3 : Int32), Sm X ZX 4 (some .int) σ [(0, .int x0), (1, .int x1), (2, .int x2), (3, .int x3)] 4 [] (m_Fore_power_L4 n σ x0 x1 x2 x3)
  | 0, _, _, _, _, _ => s_none
  | n + 1, σ, x0, x1, x2, x3 => w_Fore_power_B4 C (m_Fore_power_L4 n) (w_Fore_power_L4 C n) σ x0 x1 x2 x3
set_option maxRecDepth 100000 in
theorem w_Fore_power {X : CX} (C : Cx X ZX RX2 cX2_power 4 (some .int) 0 0)  (σ : St) (x0 : Int32) (x1 : Int32) : Sm X ZX 4 (some .int) σ [(0, .int x0), (1, .int x1)] 0 [] (m_Fore_power σ x0 x1) := by
  unfold m_Fore_power
  refine s_iconst C e_Fore_power_0 (v := (1 : Int32)) ic_1 ?_
  refine s_istore_n C e_Fore_power_1 (by decide) ?_
  refine s_iconst C e_Fore_power_2 (v := (0 : Int32)) ic_0 ?_
  refine s_istore_n C e_Fore_power_3 (by decide) ?_
  exact s_cut (w_Fore_power_L4 C FU _ _ _ _ _) ⟨rfl, rfl, rfl, rfl, trivial⟩
theorem c_Fore_power {l : Launch} {D : va_G} {k : Nat → ClassId} {q : Nat → Nat} (hq : Inj ZX q)  (σ : St) (x0 : Int32) (x1 : Int32) : Ct l ZX D k q yX2_power cX2_power 4 (some .int) 0 0 [.int x0, .int x1] σ (m_Fore_power σ x0 x1) :=
  Ct_of hq lcX (by decide) (Nat.le_of_ble_eq_true rfl) (fun _ _ _ _ _ _ _ _ _ _ C => w_Fore_power C σ x0 x1)
set_option maxRecDepth 100000 in
theorem w_Fore_commonDivisor_B7 {X : CX} (C : Cx X ZX RX2 cX2_commonDivisor 6 (some .int) 0 0)  (r7 : St → Int32 → Int32 → Int32 → Rt) (hr7 : ∀ (σ : St) (x2 : Int32) (x3 : Int32) (x4 : Int32), Sm X ZX 6 (some .int) σ [(2, .int x2), (3, .int x3), (4, .int x4)] 7 [] (r7 σ x2 x3 x4)) (σ : St) (x2 : Int32) (x3 : Int32) (x4 : Int32) : Sm X ZX 6 (some .int) σ [(2, .int x2), (3, .int x3), (4, .int x4)] 7 [] (m_Fore_commonDivisor_B7 r7 σ x2 x3 x4) := by
  unfold m_Fore_commonDivisor_B7
  refine s_iload C e_Fore_commonDivisor_7 rfl ?_
  refine s_bipush C e_Fore_commonDivisor_9 (v := (100 : Int32)) bp_100 ?_
  refine s_icmp_ge (tgt := 34) C e_Fore_commonDivisor_11 rfl ?_ ?_
  · refine s_iload_n C e_Fore_commonDivisor_34 rfl ?_
    exact s_iret C e_Fore_commonDivisor_35
  · refine s_iload_n C e_Fore_commonDivisor_14 rfl ?_
    refine s_if_le (tgt := 34) C e_Fore_commonDivisor_15 rfl ?_ ?_
    · refine s_iload_n C e_Fore_commonDivisor_34 rfl ?_
      exact s_iret C e_Fore_commonDivisor_35
    · refine s_iload_n C e_Fore_commonDivisor_18 rfl ?_
      refine s_iload_n C e_Fore_commonDivisor_19 rfl ?_
      refine s_irem C e_Fore_commonDivisor_20 ?_
      refine s_nm (fun y1 => ?_)
      refine s_istore C e_Fore_commonDivisor_21 (by decide) ?_
      refine s_iload_n C e_Fore_commonDivisor_23 rfl ?_
      refine s_istore_n C e_Fore_commonDivisor_24 (by decide) ?_
      refine s_iload C e_Fore_commonDivisor_25 rfl ?_
      refine s_istore_n C e_Fore_commonDivisor_27 (by decide) ?_
      refine s_iinc C e_Fore_commonDivisor_28 (v := (1 : Int32)) rfl (by decide) ii_1 ?_
      refine s_goto (tgt := 7) C e_Fore_commonDivisor_31 rfl ?_
      exact s_cut (hr7 _ _ _ _) ⟨rfl, rfl, rfl, trivial⟩
theorem w_Fore_commonDivisor_L7 {X : CX} (C : Cx X ZX RX2 cX2_commonDivisor 6 (some .int) 0 0)   : ∀ (n : Nat) (σ : St) (x2 : Int32) (x3 : Int32) (x4 : Int32), Sm X ZX 6 (some .int) σ [(2, .int x2), (3, .int x3), (4, .int x4)] 7 [] (m_Fore_commonDivisor_L7 n σ x2 x3 x4)
  | 0, _, _, _, _ => s_none
  | n + 1, σ, x2, x3, x4 => w_Fore_commonDivisor_B7 C (m_Fore_commonDivisor_L7 n) (w_Fore_commonDivisor_L7 C n) σ x2 x3 x4
set_option maxRecDepth 100000 in
theorem w_Fore_commonDivisor {X : CX} (C : Cx X ZX RX2 cX2_commonDivisor 6 (some .int) 0 0)  (σ : St) (x0 : Int32) (x1 : Int32) : Sm X ZX 6 (some .int) σ [(0, .int x0), (1, .int x1)] 0 [] (m_Fore_commonDivisor σ x0 x1) := by
  unfold m_Fore_commonDivisor
  refine s_iload_n C e_Fore_commonDivisor_0 rfl ?_
  refine s_istore_n C e_Fore_commonDivisor_1 (by decide) ?_
  refine s_iload_n C e_Fore_commonDivisor_2 rfl ?_
  refine s_istore_n C e_Fore_commonDivisor_3 (by decide) ?_
  refine s_iconst C e_Fore_commonDivisor_4 (v := (0 : Int32)) ic_0 ?_
  refine s_istore C e_Fore_commonDivisor_5 (by decide) ?_
  exact s_cut (w_Fore_commonDivisor_L7 C FU _ _ _ _) ⟨rfl, rfl, rfl, trivial⟩
theorem c_Fore_commonDivisor {l : Launch} {D : va_G} {k : Nat → ClassId} {q : Nat → Nat} (hq : Inj ZX q)  (σ : St) (x0 : Int32) (x1 : Int32) : Ct l ZX D k q yX2_commonDivisor cX2_commonDivisor 6 (some .int) 0 0 [.int x0, .int x1] σ (m_Fore_commonDivisor σ x0 x1) :=
  Ct_of hq lcX (by decide) (Nat.le_of_ble_eq_true rfl) (fun _ _ _ _ _ _ _ _ _ _ C => w_Fore_commonDivisor C σ x0 x1)
set_option maxRecDepth 100000 in
theorem w_Fore_heldWhenLeftOut_B99 {X : CX} (C : Cx X ZX RX2 cX2_heldWhenLeftOut 9 (some .int) 4 89)  (r34 : St → Int32 → Int32 → Int32 → Int32 → Int32 → Int32 → Rt) (hr34 : ∀ (σ : St) (x1 : Int32) (x2 : Int32) (x3 : Int32) (x4 : Int32) (x5 : Int32) (x6 : Int32), Sm X ZX 9 (some .int) σ [(0, .ref (cq X 15)), (1, .int x1), (2, .int x2), (3, .int x3), (4, .int x4), (5, .int x5), (6, .int x6)] 34 [] (r34 σ x1 x2 x3 x4 x5 x6)) (σ : St) (x1 : Int32) (x2 : Int32) (x3 : Int32) (x4 : Int32) (x5 : Int32) (x6 : Int32) : Sm X ZX 9 (some .int) σ [(0, .ref (cq X 15)), (1, .int x1), (2, .int x2), (3, .int x3), (4, .int x4), (5, .int x5), (6, .int x6)] 99 [] (m_Fore_heldWhenLeftOut_B99 r34 σ x1 x2 x3 x4 x5 x6) := by
  unfold m_Fore_heldWhenLeftOut_B99
  refine s_iinc C e_Fore_heldWhenLeftOut_99 (v := (1 : Int32)) rfl (by decide) ii_1 ?_
  refine s_goto (tgt := 34) C e_Fore_heldWhenLeftOut_102 rfl ?_
  exact s_cut (hr34 _ _ _ _ _ _ _) ⟨rfl, rfl, rfl, rfl, rfl, rfl, rfl, trivial⟩
set_option maxRecDepth 100000 in
theorem w_Fore_heldWhenLeftOut_B105 {X : CX} (C : Cx X ZX RX2 cX2_heldWhenLeftOut 9 (some .int) 4 89)   (σ : St) (x3 : Int32) (x4 : Int32) (x5 : Int32) : Sm X ZX 9 (some .int) σ [(3, .int x3), (4, .int x4), (5, .int x5)] 105 [] (m_Fore_heldWhenLeftOut_B105 σ x3 x4 x5) := by
  unfold m_Fore_heldWhenLeftOut_B105
  refine s_bipush C e_Fore_heldWhenLeftOut_105 (v := (10 : Int32)) bp_10 ?_
  refine s_iload C e_Fore_heldWhenLeftOut_107 rfl ?_
  refine s_callS_1 C (c_I_bitCount C.inj C.lc _ _) wv_I_bitCount g_352 ⟨by decide, by decide⟩ rfl (Nat.le_of_ble_eq_true rfl) e_Fore_heldWhenLeftOut_109 (fun v1 σ2 => ?_)
  refine s_callS_2 C (c_Fore_power C.inj _ _ _) wv_Fore_power g_349 ⟨by decide, by decide⟩ rfl (Nat.le_of_ble_eq_true rfl) e_Fore_heldWhenLeftOut_112 (fun v3 σ4 => ?_)
  refine s_istore C e_Fore_heldWhenLeftOut_115 (by decide) ?_
  refine s_iload C e_Fore_heldWhenLeftOut_117 rfl ?_
  refine s_iload C e_Fore_heldWhenLeftOut_119 rfl ?_
  refine s_callS_2 C (c_Fore_commonDivisor C.inj _ _ _) wv_Fore_commonDivisor g_357 ⟨by decide, by decide⟩ rfl (Nat.le_of_ble_eq_true rfl) e_Fore_heldWhenLeftOut_121 (fun v5 σ6 => ?_)
  refine s_istore C e_Fore_heldWhenLeftOut_124 (by decide) ?_
  refine s_iload C e_Fore_heldWhenLeftOut_126 rfl ?_
  refine s_if_le (tgt := 148) C e_Fore_heldWhenLeftOut_128 rfl ?_ ?_
  · refine s_iconst C e_Fore_heldWhenLeftOut_148 (v := (0 : Int32)) ic_0 ?_
    exact s_iret C e_Fore_heldWhenLeftOut_149
  · refine s_iload_n C e_Fore_heldWhenLeftOut_131 rfl ?_
    refine s_if_ne (tgt := 140) C e_Fore_heldWhenLeftOut_132 rfl ?_ ?_
    · refine s_iload C e_Fore_heldWhenLeftOut_135 rfl ?_
      refine s_goto (tgt := 142) C e_Fore_heldWhenLeftOut_137 rfl ?_
      refine s_iload C e_Fore_heldWhenLeftOut_142 rfl ?_
      refine s_idiv C e_Fore_heldWhenLeftOut_144 ?_
      refine s_goto (tgt := 149) C e_Fore_heldWhenLeftOut_145 rfl ?_
      exact s_iret C e_Fore_heldWhenLeftOut_149
    · refine s_iload C e_Fore_heldWhenLeftOut_140 rfl ?_
      refine s_iload C e_Fore_heldWhenLeftOut_142 rfl ?_
      refine s_idiv C e_Fore_heldWhenLeftOut_144 ?_
      refine s_goto (tgt := 149) C e_Fore_heldWhenLeftOut_145 rfl ?_
      exact s_iret C e_Fore_heldWhenLeftOut_149
set_option maxRecDepth 100000 in
theorem w_Fore_heldWhenLeftOut_B34 {X : CX} (C : Cx X ZX RX2 cX2_heldWhenLeftOut 9 (some .int) 4 89)  (r34 : St → Int32 → Int32 → Int32 → Int32 → Int32 → Int32 → Rt) (hr34 : ∀ (σ : St) (x1 : Int32) (x2 : Int32) (x3 : Int32) (x4 : Int32) (x5 : Int32) (x6 : Int32), Sm X ZX 9 (some .int) σ [(0, .ref (cq X 15)), (1, .int x1), (2, .int x2), (3, .int x3), (4, .int x4), (5, .int x5), (6, .int x6)] 34 [] (r34 σ x1 x2 x3 x4 x5 x6)) (σ : St) (x1 : Int32) (x2 : Int32) (x3 : Int32) (x4 : Int32) (x5 : Int32) (x6 : Int32) : Sm X ZX 9 (some .int) σ [(0, .ref (cq X 15)), (1, .int x1), (2, .int x2), (3, .int x3), (4, .int x4), (5, .int x5), (6, .int x6)] 34 [] (m_Fore_heldWhenLeftOut_B34 r34 σ x1 x2 x3 x4 x5 x6) := by
  unfold m_Fore_heldWhenLeftOut_B34
  refine s_iload C e_Fore_heldWhenLeftOut_34 rfl ?_
  refine s_iload C e_Fore_heldWhenLeftOut_36 rfl ?_
  refine s_icmp_gt (tgt := 105) C e_Fore_heldWhenLeftOut_38 rfl ?_ ?_
  · exact s_cut (w_Fore_heldWhenLeftOut_B105 C _ _ _ _) ⟨rfl, rfl, rfl, trivial⟩
  · refine s_iload C e_Fore_heldWhenLeftOut_41 rfl ?_
    refine s_iload C e_Fore_heldWhenLeftOut_43 rfl ?_
    refine s_iconst C e_Fore_heldWhenLeftOut_45 (v := (-1 : Int32)) ic_m1 ?_
    refine s_ixor C e_Fore_heldWhenLeftOut_46 ?_
    refine s_iand C e_Fore_heldWhenLeftOut_47 ?_
    refine s_if_ne (tgt := 99) C e_Fore_heldWhenLeftOut_48 rfl ?_ ?_
    · refine s_aload_n C e_Fore_heldWhenLeftOut_51 rfl ?_
      refine s_iload_n C e_Fore_heldWhenLeftOut_52 rfl ?_
      refine s_iload C e_Fore_heldWhenLeftOut_53 rfl ?_
      refine s_callV_2 C (c_Fore_isHeld C.inj _ _ _) wv_Fore_isHeld g_353 ⟨by decide, by decide⟩ fc_2 rfl zx_lt_15 (zx_15 _ _ _) rfl (Nat.le_of_ble_eq_true rfl) e_Fore_heldWhenLeftOut_55 (fun v1 σ2 => ?_)
      refine s_if_eq (tgt := 99) C e_Fore_heldWhenLeftOut_58 rfl ?_ ?_
      · exact s_cut (w_Fore_heldWhenLeftOut_B99 C r34 hr34 _ _ _ _ _ _ _) ⟨rfl, rfl, rfl, rfl, rfl, rfl, rfl, trivial⟩
      · refine s_iload C e_Fore_heldWhenLeftOut_61 rfl ?_
        refine s_callS_1 C (c_I_bitCount C.inj C.lc _ _) wv_I_bitCount g_352 ⟨by decide, by decide⟩ rfl (Nat.le_of_ble_eq_true rfl) e_Fore_heldWhenLeftOut_63 (fun v3 σ4 => ?_)
        refine s_istore C e_Fore_heldWhenLeftOut_66 (by decide) ?_
        refine s_iload C e_Fore_heldWhenLeftOut_68 rfl ?_
        refine s_callS_1 C (c_I_bitCount C.inj C.lc _ _) wv_I_bitCount g_352 ⟨by decide, by decide⟩ rfl (Nat.le_of_ble_eq_true rfl) e_Fore_heldWhenLeftOut_70 (fun v5 σ6 => ?_)
        refine s_iload C e_Fore_heldWhenLeftOut_73 rfl ?_
        refine s_isub C e_Fore_heldWhenLeftOut_75 ?_
        refine s_nm (fun y7 => ?_)
        refine s_istore C e_Fore_heldWhenLeftOut_76 (by decide) ?_
        refine s_iload C e_Fore_heldWhenLeftOut_78 rfl ?_
        refine s_iload_n C e_Fore_heldWhenLeftOut_80 rfl ?_
        refine s_iload C e_Fore_heldWhenLeftOut_81 rfl ?_
        refine s_callS_2 C (c_Fore_power C.inj _ _ _) wv_Fore_power g_349 ⟨by decide, by decide⟩ rfl (Nat.le_of_ble_eq_true rfl) e_Fore_heldWhenLeftOut_83 (fun v8 σ9 => ?_)
        refine s_bipush C e_Fore_heldWhenLeftOut_86 (v := (10 : Int32)) bp_10 ?_
        refine s_iload_n C e_Fore_heldWhenLeftOut_88 rfl ?_
        refine s_isub C e_Fore_heldWhenLeftOut_89 ?_
        refine s_iload C e_Fore_heldWhenLeftOut_90 rfl ?_
        refine s_callS_2 C (c_Fore_power C.inj _ _ _) wv_Fore_power g_349 ⟨by decide, by decide⟩ rfl (Nat.le_of_ble_eq_true rfl) e_Fore_heldWhenLeftOut_92 (fun v10 σ11 => ?_)
        refine s_imul C e_Fore_heldWhenLeftOut_95 ?_
        refine s_iadd C e_Fore_heldWhenLeftOut_96 ?_
        refine s_nm (fun y12 => ?_)
        refine s_istore C e_Fore_heldWhenLeftOut_97 (by decide) ?_
        exact s_cut (w_Fore_heldWhenLeftOut_B99 C r34 hr34 _ _ _ _ _ _ _) ⟨rfl, rfl, rfl, rfl, rfl, rfl, rfl, trivial⟩
    · exact s_cut (w_Fore_heldWhenLeftOut_B99 C r34 hr34 _ _ _ _ _ _ _) ⟨rfl, rfl, rfl, rfl, rfl, rfl, rfl, trivial⟩
theorem w_Fore_heldWhenLeftOut_L34 {X : CX} (C : Cx X ZX RX2 cX2_heldWhenLeftOut 9 (some .int) 4 89)   : ∀ (n : Nat) (σ : St) (x1 : Int32) (x2 : Int32) (x3 : Int32) (x4 : Int32) (x5 : Int32) (x6 : Int32), Sm X ZX 9 (some .int) σ [(0, .ref (cq X 15)), (1, .int x1), (2, .int x2), (3, .int x3), (4, .int x4), (5, .int x5), (6, .int x6)] 34 [] (m_Fore_heldWhenLeftOut_L34 n σ x1 x2 x3 x4 x5 x6)
  | 0, _, _, _, _, _, _, _ => s_none
  | n + 1, σ, x1, x2, x3, x4, x5, x6 => w_Fore_heldWhenLeftOut_B34 C (m_Fore_heldWhenLeftOut_L34 n) (w_Fore_heldWhenLeftOut_L34 C n) σ x1 x2 x3 x4 x5 x6
set_option maxRecDepth 100000 in
theorem w_Fore_heldWhenLeftOut {X : CX} (C : Cx X ZX RX2 cX2_heldWhenLeftOut 9 (some .int) 4 89)  (σ : St) (x1 : Int32) (x2 : Int32) (x3 : Int32) : Sm X ZX 9 (some .int) σ [(0, .ref (cq X 15)), (1, .int x1), (2, .int x2), (3, .int x3)] 0 [] (m_Fore_heldWhenLeftOut σ x1 x2 x3) := by
  unfold m_Fore_heldWhenLeftOut
  refine s_aload_n C e_Fore_heldWhenLeftOut_0 rfl ?_
  refine s_get C fc_2 zx_lt_15 (zx_15 _ _ _) 0 (by decide) e_Fore_heldWhenLeftOut_1 g_251 rfl ?_
  refine s_aload_n C e_Fore_heldWhenLeftOut_4 rfl ?_
  refine s_get C fc_2 zx_lt_15 (zx_15 _ _ _) 1 (by decide) e_Fore_heldWhenLeftOut_5 g_252 rfl ?_
  refine s_callVv_1 C (c_Board_takeFrom C.inj hb28 hb21 _) wv_Board_takeFrom g_253 ⟨by decide, by decide⟩ fc_1 rfl (zb_lt hb28) (zb hb28 _ _ _) rfl (Nat.le_of_ble_eq_true rfl) e_Fore_heldWhenLeftOut_8 (fun v1 σ2 => ?_)
  refine s_aload_n C e_Fore_heldWhenLeftOut_11 rfl ?_
  refine s_get C fc_2 zx_lt_15 (zx_15 _ _ _) 0 (by decide) e_Fore_heldWhenLeftOut_12 g_251 rfl ?_
  refine s_iconst C e_Fore_heldWhenLeftOut_15 (v := (0 : Int32)) ic_0 ?_
  refine s_putZ C fc_1 (zb_lt hb28) (zb hb28 _ _ _) 5 (by decide) (zbp_5 hb28 _ _ _ _) (Nat.le_of_ble_eq_true rfl) e_Fore_heldWhenLeftOut_16 g_344 rfl rfl (fun σ3 => ?_)
  refine s_aload_n C e_Fore_heldWhenLeftOut_19 rfl ?_
  refine s_get C fc_2 zx_lt_15 (zx_15 _ _ _) 0 (by decide) e_Fore_heldWhenLeftOut_20 g_251 rfl ?_
  refine s_callV_0 C (c_Board_pinsInTray C.inj hb28 _) wv_Board_pinsInTray g_345 ⟨by decide, by decide⟩ fc_1 rfl (zb_lt hb28) (zb hb28 _ _ _) rfl (Nat.le_of_ble_eq_true rfl) e_Fore_heldWhenLeftOut_23 (fun v4 σ5 => ?_)
  refine s_istore C e_Fore_heldWhenLeftOut_26 (by decide) ?_
  refine s_iconst C e_Fore_heldWhenLeftOut_28 (v := (0 : Int32)) ic_0 ?_
  refine s_istore C e_Fore_heldWhenLeftOut_29 (by decide) ?_
  refine s_iconst C e_Fore_heldWhenLeftOut_31 (v := (0 : Int32)) ic_0 ?_
  refine s_istore C e_Fore_heldWhenLeftOut_32 (by decide) ?_
  exact s_cut (w_Fore_heldWhenLeftOut_L34 C FU _ _ _ _ _ _ _) ⟨rfl, rfl, rfl, rfl, rfl, rfl, rfl, trivial⟩
theorem c_Fore_heldWhenLeftOut {l : Launch} {D : va_G} {k : Nat → ClassId} {q : Nat → Nat} (hq : Inj ZX q)  (σ : St) (x1 : Int32) (x2 : Int32) (x3 : Int32) : Ct l ZX D k q yX2_heldWhenLeftOut cX2_heldWhenLeftOut 9 (some .int) 4 89 [.ref (q 15), .int x1, .int x2, .int x3] σ (m_Fore_heldWhenLeftOut σ x1 x2 x3) :=
  Ct_of hq lcX (by decide) (Nat.le_of_ble_eq_true rfl) (fun _ _ _ _ _ _ _ _ _ _ C => w_Fore_heldWhenLeftOut C σ x1 x2 x3)
set_option maxRecDepth 100000 in
theorem w_P_left {X : CX} (C : Cx X ZX RX6 cX6_left 4 (some .int) 5 117)  (σ : St) (x1 : Int32) (x2 : Int32) (x3 : Int32) : Sm X ZX 4 (some .int) σ [(0, .ref (cq X 0)), (1, .int x1), (2, .int x2), (3, .int x3)] 0 [] (m_P_left σ x1 x2 x3) := by
  unfold m_P_left
  refine s_aload_n C e_P_left_0 rfl ?_
  refine s_get C fc_6 zx_lt_0 (zx_0 _ _ _) 2 (by decide) e_P_left_1 g_142 rfl ?_
  refine s_iload_n C e_P_left_4 rfl ?_
  refine s_callV_1 C (c_Board_hasCell C.inj hb21 _ _) wv_Board_hasCell g_229 ⟨by decide, by decide⟩ fc_1 rfl (zb_lt hb21) (zb hb21 _ _ _) rfl (Nat.le_of_ble_eq_true rfl) e_P_left_5 (fun v1 σ2 => ?_)
  refine s_if_eq (tgt := 30) C e_P_left_8 rfl ?_ ?_
  · refine s_ldc C e_P_left_30 g_10 ?_
    exact s_iret C e_P_left_32
  · refine s_iload_n C e_P_left_11 rfl ?_
    refine s_iconst C e_P_left_12 (v := (0 : Int32)) ic_0 ?_
    refine s_bipush C e_P_left_13 (v := (10 : Int32)) bp_10 ?_
    refine s_callS_3 C (c_P_within C.inj _ _ _ _) wv_P_within g_24 ⟨by decide, by decide⟩ rfl (Nat.le_of_ble_eq_true rfl) e_P_left_15 (fun v3 σ4 => ?_)
    refine s_if_eq (tgt := 30) C e_P_left_18 rfl ?_ ?_
    · refine s_ldc C e_P_left_30 g_10 ?_
      exact s_iret C e_P_left_32
    · refine s_iload_n C e_P_left_21 rfl ?_
      refine s_iconst C e_P_left_22 (v := (0 : Int32)) ic_0 ?_
      refine s_iconst C e_P_left_23 (v := (1 : Int32)) ic_1 ?_
      refine s_callS_3 C (c_P_within C.inj _ _ _ _) wv_P_within g_24 ⟨by decide, by decide⟩ rfl (Nat.le_of_ble_eq_true rfl) e_P_left_24 (fun v5 σ6 => ?_)
      refine s_if_ne (tgt := 33) C e_P_left_27 rfl ?_ ?_
      · refine s_ldc C e_P_left_30 g_10 ?_
        exact s_iret C e_P_left_32
      · refine s_aload_n C e_P_left_33 rfl ?_
        refine s_get C fc_6 zx_lt_0 (zx_0 _ _ _) 3 (by decide) e_P_left_34 g_140 rfl ?_
        refine s_iload_n C e_P_left_37 rfl ?_
        refine s_iload_n C e_P_left_38 rfl ?_
        refine s_iload_n C e_P_left_39 rfl ?_
        refine s_callV_3 C (c_Fore_heldWhenLeftOut C.inj _ _ _ _) wv_Fore_heldWhenLeftOut g_360 ⟨by decide, by decide⟩ fc_2 rfl zx_lt_15 (zx_15 _ _ _) rfl (Nat.le_of_ble_eq_true rfl) e_P_left_40 (fun v7 σ8 => ?_)
        exact s_iret C e_P_left_43
theorem c_P_left {l : Launch} {D : va_G} {k : Nat → ClassId} {q : Nat → Nat} (hq : Inj ZX q)  (σ : St) (x1 : Int32) (x2 : Int32) (x3 : Int32) : Ct l ZX D k q yX6_left cX6_left 4 (some .int) 5 117 [.ref (q 0), .int x1, .int x2, .int x3] σ (m_P_left σ x1 x2 x3) :=
  Ct_of hq lcX (by decide) (Nat.le_of_ble_eq_true rfl) (fun _ _ _ _ _ _ _ _ _ _ C => w_P_left C σ x1 x2 x3)
set_option maxRecDepth 100000 in
theorem w_Fore_drawYears_B114 {X : CX} (C : Cx X ZX RX2 cX2_drawYears 6 none 4 87)  (r25 : St → Int32 → Int64 → Int32 → Rt) (hr25 : ∀ (σ : St) (x1 : Int32) (x3 : Int64) (x5 : Int32), Sm X ZX 6 none σ [(0, .ref (cq X 15)), (1, .int x1), (3, .long x3), (5, .int x5)] 25 [] (r25 σ x1 x3 x5)) (σ : St) (x1 : Int32) (x3 : Int64) (x5 : Int32) : Sm X ZX 6 none σ [(0, .ref (cq X 15)), (1, .int x1), (3, .long x3), (5, .int x5)] 114 [] (m_Fore_drawYears_B114 r25 σ x1 x3 x5) := by
  unfold m_Fore_drawYears_B114
  refine s_aload_n C e_Fore_drawYears_114 rfl ?_
  refine s_get C fc_2 zx_lt_15 (zx_15 _ _ _) 0 (by decide) e_Fore_drawYears_115 g_251 rfl ?_
  refine s_callVv_0 C (c_Board_openAndWork C.inj hb28 _) wv_Board_openAndWork g_368 ⟨by decide, by decide⟩ fc_1 rfl (zb_lt hb28) (zb hb28 _ _ _) rfl (Nat.le_of_ble_eq_true rfl) e_Fore_drawYears_118 (fun v1 σ2 => ?_)
  refine s_iinc C e_Fore_drawYears_121 (v := (1 : Int32)) rfl (by decide) ii_1 ?_
  refine s_goto (tgt := 25) C e_Fore_drawYears_124 rfl ?_
  exact s_cut (hr25 _ _ _ _) ⟨rfl, rfl, rfl, rfl, trivial⟩
set_option maxRecDepth 100000 in
theorem w_Fore_drawYears_B25 {X : CX} (C : Cx X ZX RX2 cX2_drawYears 6 none 4 87)  (r25 : St → Int32 → Int64 → Int32 → Rt) (hr25 : ∀ (σ : St) (x1 : Int32) (x3 : Int64) (x5 : Int32), Sm X ZX 6 none σ [(0, .ref (cq X 15)), (1, .int x1), (3, .long x3), (5, .int x5)] 25 [] (r25 σ x1 x3 x5)) (σ : St) (x1 : Int32) (x3 : Int64) (x5 : Int32) : Sm X ZX 6 none σ [(0, .ref (cq X 15)), (1, .int x1), (3, .long x3), (5, .int x5)] 25 [] (m_Fore_drawYears_B25 r25 σ x1 x3 x5) := by
  unfold m_Fore_drawYears_B25
  refine s_iload C e_Fore_drawYears_25 rfl ?_
  refine s_iload_n C e_Fore_drawYears_27 rfl ?_
  refine s_icmp_ge (tgt := 127) C e_Fore_drawYears_28 rfl ?_ ?_
  · exact s_vret C e_Fore_drawYears_127
  · refine s_lload_n C e_Fore_drawYears_31 rfl ?_
    refine s_ldc2 C e_Fore_drawYears_32 g_365 ?_
    refine s_lmul C e_Fore_drawYears_35 ?_
    refine s_ldc2 C e_Fore_drawYears_36 g_366 ?_
    refine s_lrem C e_Fore_drawYears_39 ?_
    refine s_nml (fun y1 => ?_)
    refine s_lstore_n C e_Fore_drawYears_40 (by decide) ?_
    refine s_aload_n C e_Fore_drawYears_41 rfl ?_
    refine s_get C fc_2 zx_lt_15 (zx_15 _ _ _) 0 (by decide) e_Fore_drawYears_42 g_251 rfl ?_
    refine s_lload_n C e_Fore_drawYears_45 rfl ?_
    refine s_ldc2 C e_Fore_drawYears_46 g_367 ?_
    refine s_lrem C e_Fore_drawYears_49 ?_
    refine s_l2i C e_Fore_drawYears_50 ?_
    refine s_put C fc_1 (zb_lt hb28) (zb hb28 _ _ _) 2 (by decide) (zbp_2 hb28 _ _ _ _) (Nat.le_of_ble_eq_true rfl) e_Fore_drawYears_51 g_323 rfl rfl (fun σ2 => ?_)
    refine s_aload_n C e_Fore_drawYears_54 rfl ?_
    refine s_get C fc_2 zx_lt_15 (zx_15 _ _ _) 0 (by decide) e_Fore_drawYears_55 g_251 rfl ?_
    refine s_get C fc_1 (zb_lt hb28) (zb hb28 _ _ _) 5 (by decide) e_Fore_drawYears_58 g_344 rfl ?_
    refine s_if_eq (tgt := 114) C e_Fore_drawYears_61 rfl ?_ ?_
    · exact s_cut (w_Fore_drawYears_B114 C r25 hr25 _ _ _ _) ⟨rfl, rfl, rfl, rfl, trivial⟩
    · refine s_aload_n C e_Fore_drawYears_64 rfl ?_
      refine s_get C fc_2 zx_lt_15 (zx_15 _ _ _) 0 (by decide) e_Fore_drawYears_65 g_251 rfl ?_
      refine s_get C fc_1 (zb_lt hb28) (zb hb28 _ _ _) 1 (by decide) e_Fore_drawYears_68 g_267 rfl ?_
      refine s_if_le (tgt := 114) C e_Fore_drawYears_71 rfl ?_ ?_
      · exact s_cut (w_Fore_drawYears_B114 C r25 hr25 _ _ _ _) ⟨rfl, rfl, rfl, rfl, trivial⟩
      · refine s_aload_n C e_Fore_drawYears_74 rfl ?_
        refine s_get C fc_2 zx_lt_15 (zx_15 _ _ _) 0 (by decide) e_Fore_drawYears_75 g_251 rfl ?_
        refine s_get C fc_1 (zb_lt hb28) (zb hb28 _ _ _) 0 (by decide) e_Fore_drawYears_78 g_296 rfl ?_
        refine s_if_le (tgt := 114) C e_Fore_drawYears_81 rfl ?_ ?_
        · exact s_cut (w_Fore_drawYears_B114 C r25 hr25 _ _ _ _) ⟨rfl, rfl, rfl, rfl, trivial⟩
        · refine s_aload_n C e_Fore_drawYears_84 rfl ?_
          refine s_get C fc_2 zx_lt_15 (zx_15 _ _ _) 0 (by decide) e_Fore_drawYears_85 g_251 rfl ?_
          refine s_get C fc_1 (zb_lt hb28) (zb hb28 _ _ _) 11 (by decide) e_Fore_drawYears_88 g_325 rfl ?_
          refine s_lload_n C e_Fore_drawYears_91 rfl ?_
          refine s_aload_n C e_Fore_drawYears_92 rfl ?_
          refine s_get C fc_2 zx_lt_15 (zx_15 _ _ _) 0 (by decide) e_Fore_drawYears_93 g_251 rfl ?_
          refine s_get C fc_1 (zb_lt hb28) (zb hb28 _ _ _) 1 (by decide) e_Fore_drawYears_96 g_267 rfl ?_
          refine s_i2l C e_Fore_drawYears_99 ?_
          refine s_lrem C e_Fore_drawYears_100 ?_
          refine s_l2i C e_Fore_drawYears_101 ?_
          refine s_lload_n C e_Fore_drawYears_102 rfl ?_
          refine s_aload_n C e_Fore_drawYears_103 rfl ?_
          refine s_get C fc_2 zx_lt_15 (zx_15 _ _ _) 0 (by decide) e_Fore_drawYears_104 g_251 rfl ?_
          refine s_get C fc_1 (zb_lt hb28) (zb hb28 _ _ _) 0 (by decide) e_Fore_drawYears_107 g_296 rfl ?_
          refine s_i2l C e_Fore_drawYears_110 ?_
          refine s_lrem C e_Fore_drawYears_111 ?_
          refine s_l2i C e_Fore_drawYears_112 ?_
          refine s_iast C (zb6_lt hb28) (zb6 hb28) e_Fore_drawYears_113 (fun σ3 => ?_)
          exact s_cut (w_Fore_drawYears_B114 C r25 hr25 _ _ _ _) ⟨rfl, rfl, rfl, rfl, trivial⟩
theorem w_Fore_drawYears_L25 {X : CX} (C : Cx X ZX RX2 cX2_drawYears 6 none 4 87)   : ∀ (n : Nat) (σ : St) (x1 : Int32) (x3 : Int64) (x5 : Int32), Sm X ZX 6 none σ [(0, .ref (cq X 15)), (1, .int x1), (3, .long x3), (5, .int x5)] 25 [] (m_Fore_drawYears_L25 n σ x1 x3 x5)
  | 0, _, _, _, _ => s_none
  | n + 1, σ, x1, x3, x5 => w_Fore_drawYears_B25 C (m_Fore_drawYears_L25 n) (w_Fore_drawYears_L25 C n) σ x1 x3 x5
set_option maxRecDepth 100000 in
theorem w_Fore_drawYears {X : CX} (C : Cx X ZX RX2 cX2_drawYears 6 none 4 87)  (σ : St) (x1 : Int32) (x2 : Int32) : Sm X ZX 6 none σ [(0, .ref (cq X 15)), (1, .int x1), (2, .int x2)] 0 [] (m_Fore_drawYears σ x1 x2) := by
  unfold m_Fore_drawYears
  refine s_aload_n C e_Fore_drawYears_0 rfl ?_
  refine s_get C fc_2 zx_lt_15 (zx_15 _ _ _) 0 (by decide) e_Fore_drawYears_1 g_251 rfl ?_
  refine s_aload_n C e_Fore_drawYears_4 rfl ?_
  refine s_get C fc_2 zx_lt_15 (zx_15 _ _ _) 1 (by decide) e_Fore_drawYears_5 g_252 rfl ?_
  refine s_callVv_1 C (c_Board_takeFrom C.inj hb28 hb21 _) wv_Board_takeFrom g_253 ⟨by decide, by decide⟩ fc_1 rfl (zb_lt hb28) (zb hb28 _ _ _) rfl (Nat.le_of_ble_eq_true rfl) e_Fore_drawYears_8 (fun v1 σ2 => ?_)
  refine s_aload_n C e_Fore_drawYears_11 rfl ?_
  refine s_get C fc_2 zx_lt_15 (zx_15 _ _ _) 0 (by decide) e_Fore_drawYears_12 g_251 rfl ?_
  refine s_iconst C e_Fore_drawYears_15 (v := (0 : Int32)) ic_0 ?_
  refine s_put C fc_1 (zb_lt hb28) (zb hb28 _ _ _) 4 (by decide) (zbp_4 hb28 _ _ _ _) (Nat.le_of_ble_eq_true rfl) e_Fore_drawYears_16 g_364 rfl rfl (fun σ3 => ?_)
  refine s_iload_n C e_Fore_drawYears_19 rfl ?_
  refine s_i2l C e_Fore_drawYears_20 ?_
  refine s_nml (fun y4 => ?_)
  refine s_lstore_n C e_Fore_drawYears_21 (by decide) ?_
  refine s_iconst C e_Fore_drawYears_22 (v := (0 : Int32)) ic_0 ?_
  refine s_istore C e_Fore_drawYears_23 (by decide) ?_
  exact s_cut (w_Fore_drawYears_L25 C FU _ _ _ _) ⟨rfl, rfl, rfl, rfl, trivial⟩
theorem c_Fore_drawYears {l : Launch} {D : va_G} {k : Nat → ClassId} {q : Nat → Nat} (hq : Inj ZX q)  (σ : St) (x1 : Int32) (x2 : Int32) : Ct l ZX D k q yX2_drawYears cX2_drawYears 6 none 4 87 [.ref (q 15), .int x1, .int x2] σ (m_Fore_drawYears σ x1 x2) :=
  Ct_of hq lcX (by decide) (Nat.le_of_ble_eq_true rfl) (fun _ _ _ _ _ _ _ _ _ _ C => w_Fore_drawYears C σ x1 x2)
set_option maxRecDepth 100000 in
theorem w_P_drawn {X : CX} (C : Cx X ZX RX6 cX6_drawn 4 (some .int) 5 112)  (σ : St) (x1 : Int32) (x2 : Int32) (x3 : Int32) : Sm X ZX 4 (some .int) σ [(0, .ref (cq X 0)), (1, .int x1), (2, .int x2), (3, .int x3)] 0 [] (m_P_drawn σ x1 x2 x3) := by
  unfold m_P_drawn
  refine s_aload_n C e_P_drawn_0 rfl ?_
  refine s_get C fc_6 zx_lt_0 (zx_0 _ _ _) 2 (by decide) e_P_drawn_1 g_142 rfl ?_
  refine s_callV_0 C (c_Board_stands C.inj hb21 _) wv_Board_stands g_215 ⟨by decide, by decide⟩ fc_1 rfl (zb_lt hb21) (zb hb21 _ _ _) rfl (Nat.le_of_ble_eq_true rfl) e_P_drawn_4 (fun v1 σ2 => ?_)
  refine s_if_ne (tgt := 13) C e_P_drawn_7 rfl ?_ ?_
  · refine s_ldc C e_P_drawn_10 g_214 ?_
    exact s_iret C e_P_drawn_12
  · refine s_iload_n C e_P_drawn_13 rfl ?_
    refine s_iconst C e_P_drawn_14 (v := (0 : Int32)) ic_0 ?_
    refine s_bipush C e_P_drawn_15 (v := (30 : Int32)) bp_30 ?_
    refine s_callS_3 C (c_P_within C.inj _ _ _ _) wv_P_within g_24 ⟨by decide, by decide⟩ rfl (Nat.le_of_ble_eq_true rfl) e_P_drawn_17 (fun v3 σ4 => ?_)
    refine s_if_eq (tgt := 42) C e_P_drawn_20 rfl ?_ ?_
    · refine s_ldc C e_P_drawn_42 g_10 ?_
      exact s_iret C e_P_drawn_44
    · refine s_iload_n C e_P_drawn_23 rfl ?_
      refine s_iconst C e_P_drawn_24 (v := (1 : Int32)) ic_1 ?_
      refine s_ldc C e_P_drawn_25 g_369 ?_
      refine s_callS_3 C (c_P_within C.inj _ _ _ _) wv_P_within g_24 ⟨by decide, by decide⟩ rfl (Nat.le_of_ble_eq_true rfl) e_P_drawn_27 (fun v5 σ6 => ?_)
      refine s_if_eq (tgt := 42) C e_P_drawn_30 rfl ?_ ?_
      · refine s_ldc C e_P_drawn_42 g_10 ?_
        exact s_iret C e_P_drawn_44
      · refine s_iload_n C e_P_drawn_33 rfl ?_
        refine s_iconst C e_P_drawn_34 (v := (0 : Int32)) ic_0 ?_
        refine s_iconst C e_P_drawn_35 (v := (1 : Int32)) ic_1 ?_
        refine s_callS_3 C (c_P_within C.inj _ _ _ _) wv_P_within g_24 ⟨by decide, by decide⟩ rfl (Nat.le_of_ble_eq_true rfl) e_P_drawn_36 (fun v7 σ8 => ?_)
        refine s_if_ne (tgt := 45) C e_P_drawn_39 rfl ?_ ?_
        · refine s_ldc C e_P_drawn_42 g_10 ?_
          exact s_iret C e_P_drawn_44
        · refine s_aload_n C e_P_drawn_45 rfl ?_
          refine s_get C fc_6 zx_lt_0 (zx_0 _ _ _) 3 (by decide) e_P_drawn_46 g_140 rfl ?_
          refine s_iload_n C e_P_drawn_49 rfl ?_
          refine s_iload_n C e_P_drawn_50 rfl ?_
          refine s_callVv_2 C (c_Fore_drawYears C.inj _ _ _) wv_Fore_drawYears g_371 ⟨by decide, by decide⟩ fc_2 rfl zx_lt_15 (zx_15 _ _ _) rfl (Nat.le_of_ble_eq_true rfl) e_P_drawn_51 (fun v9 σ10 => ?_)
          refine s_iload_n C e_P_drawn_54 rfl ?_
          refine s_if_ne (tgt := 71) C e_P_drawn_55 rfl ?_ ?_
          · refine s_aload_n C e_P_drawn_58 rfl ?_
            refine s_get C fc_6 zx_lt_0 (zx_0 _ _ _) 3 (by decide) e_P_drawn_59 g_140 rfl ?_
            refine s_get C fc_2 zx_lt_15 (zx_15 _ _ _) 0 (by decide) e_P_drawn_62 g_141 rfl ?_
            refine s_get C fc_1 (zb_lt hb28) (zb hb28 _ _ _) 4 (by decide) e_P_drawn_65 g_260 rfl ?_
            refine s_goto (tgt := 84) C e_P_drawn_68 rfl ?_
            exact s_iret C e_P_drawn_84
          · refine s_aload_n C e_P_drawn_71 rfl ?_
            refine s_get C fc_6 zx_lt_0 (zx_0 _ _ _) 3 (by decide) e_P_drawn_72 g_140 rfl ?_
            refine s_get C fc_2 zx_lt_15 (zx_15 _ _ _) 0 (by decide) e_P_drawn_75 g_141 rfl ?_
            refine s_callV_0 C (c_Board_pinsAtHome C.inj hb28 _) wv_Board_pinsAtHome g_286 ⟨by decide, by decide⟩ fc_1 rfl (zb_lt hb28) (zb hb28 _ _ _) rfl (Nat.le_of_ble_eq_true rfl) e_P_drawn_78 (fun v11 σ12 => ?_)
            refine s_callS_1 C (c_I_bitCount C.inj C.lc _ _) wv_I_bitCount g_370 ⟨by decide, by decide⟩ rfl (Nat.le_of_ble_eq_true rfl) e_P_drawn_81 (fun v13 σ14 => ?_)
            exact s_iret C e_P_drawn_84
theorem c_P_drawn {l : Launch} {D : va_G} {k : Nat → ClassId} {q : Nat → Nat} (hq : Inj ZX q)  (σ : St) (x1 : Int32) (x2 : Int32) (x3 : Int32) : Ct l ZX D k q yX6_drawn cX6_drawn 4 (some .int) 5 112 [.ref (q 0), .int x1, .int x2, .int x3] σ (m_P_drawn σ x1 x2 x3) :=
  Ct_of hq lcX (by decide) (Nat.le_of_ble_eq_true rfl) (fun _ _ _ _ _ _ _ _ _ _ C => w_P_drawn C σ x1 x2 x3)
set_option maxRecDepth 100000 in
theorem w_P_image {X : CX} (C : Cx X ZX RX6 cX6_image 2 (some .int) 2 47)  (σ : St) (x1 : Int32) : Sm X ZX 2 (some .int) σ [(0, .ref (cq X 0)), (1, .int x1)] 0 [] (m_P_image σ x1) := by
  unfold m_P_image
  refine s_iload_n C e_P_image_0 rfl ?_
  refine s_iconst C e_P_image_1 (v := (0 : Int32)) ic_0 ?_
  refine s_iconst C e_P_image_2 (v := (1 : Int32)) ic_1 ?_
  refine s_callS_3 C (c_P_within C.inj _ _ _ _) wv_P_within g_24 ⟨by decide, by decide⟩ rfl (Nat.le_of_ble_eq_true rfl) e_P_image_3 (fun v1 σ2 => ?_)
  refine s_if_ne (tgt := 12) C e_P_image_6 rfl ?_ ?_
  · refine s_ldc C e_P_image_9 g_10 ?_
    exact s_iret C e_P_image_11
  · refine s_aload_n C e_P_image_12 rfl ?_
    refine s_get C fc_6 zx_lt_0 (zx_0 _ _ _) 2 (by decide) e_P_image_13 g_142 rfl ?_
    refine s_callV_0 C (c_Board_stands C.inj hb21 _) wv_Board_stands g_215 ⟨by decide, by decide⟩ fc_1 rfl (zb_lt hb21) (zb hb21 _ _ _) rfl (Nat.le_of_ble_eq_true rfl) e_P_image_16 (fun v3 σ4 => ?_)
    refine s_if_ne (tgt := 25) C e_P_image_19 rfl ?_ ?_
    · refine s_ldc C e_P_image_22 g_214 ?_
      exact s_iret C e_P_image_24
    · refine s_aload_n C e_P_image_25 rfl ?_
      refine s_get C fc_6 zx_lt_0 (zx_0 _ _ _) 6 (by decide) e_P_image_26 g_375 rfl ?_
      refine s_iload_n C e_P_image_29 rfl ?_
      refine s_aald (c := 2) (ty := .object "PinBoards$Board") C gImg zx_lt_20 (zx_20 _ _ _) rfl rfl zxf_20 e_P_image_30 (fun hi30 => ?_)
      refine s_aload_n C e_P_image_31 rfl ?_
      refine s_get C fc_6 zx_lt_0 (zx_0 _ _ _) 2 (by decide) e_P_image_32 g_142 rfl ?_
      refine s_callVv_1 C (c_Board_takeFrom C.inj (hb_img hi30) hb21 _) wv_Board_takeFrom g_150 ⟨by decide, by decide⟩ fc_1 rfl (zb_lt (hb_img hi30)) (zb (hb_img hi30) _ _ _) rfl (Nat.le_of_ble_eq_true rfl) e_P_image_35 (fun v5 σ6 => ?_)
      refine s_iconst C e_P_image_38 (v := (1 : Int32)) ic_1 ?_
      exact s_iret C e_P_image_39
theorem c_P_image {l : Launch} {D : va_G} {k : Nat → ClassId} {q : Nat → Nat} (hq : Inj ZX q)  (σ : St) (x1 : Int32) : Ct l ZX D k q yX6_image cX6_image 2 (some .int) 2 47 [.ref (q 0), .int x1] σ (m_P_image σ x1) :=
  Ct_of hq lcX (by decide) (Nat.le_of_ble_eq_true rfl) (fun _ _ _ _ _ _ _ _ _ _ C => w_P_image C σ x1)
set_option maxRecDepth 100000 in
theorem w_P_restore {X : CX} (C : Cx X ZX RX6 cX6_restore 2 (some .int) 2 47)  (σ : St) (x1 : Int32) : Sm X ZX 2 (some .int) σ [(0, .ref (cq X 0)), (1, .int x1)] 0 [] (m_P_restore σ x1) := by
  unfold m_P_restore
  refine s_iload_n C e_P_restore_0 rfl ?_
  refine s_iconst C e_P_restore_1 (v := (0 : Int32)) ic_0 ?_
  refine s_iconst C e_P_restore_2 (v := (1 : Int32)) ic_1 ?_
  refine s_callS_3 C (c_P_within C.inj _ _ _ _) wv_P_within g_24 ⟨by decide, by decide⟩ rfl (Nat.le_of_ble_eq_true rfl) e_P_restore_3 (fun v1 σ2 => ?_)
  refine s_if_ne (tgt := 12) C e_P_restore_6 rfl ?_ ?_
  · refine s_ldc C e_P_restore_9 g_10 ?_
    exact s_iret C e_P_restore_11
  · refine s_aload_n C e_P_restore_12 rfl ?_
    refine s_get C fc_6 zx_lt_0 (zx_0 _ _ _) 6 (by decide) e_P_restore_13 g_375 rfl ?_
    refine s_iload_n C e_P_restore_16 rfl ?_
    refine s_aald (c := 2) (ty := .object "PinBoards$Board") C gImg zx_lt_20 (zx_20 _ _ _) rfl rfl zxf_20 e_P_restore_17 (fun hi17 => ?_)
    refine s_callV_0 C (c_Board_stands C.inj (hb_img hi17) _) wv_Board_stands g_215 ⟨by decide, by decide⟩ fc_1 rfl (zb_lt (hb_img hi17)) (zb (hb_img hi17) _ _ _) rfl (Nat.le_of_ble_eq_true rfl) e_P_restore_18 (fun v3 σ4 => ?_)
    refine s_if_ne (tgt := 27) C e_P_restore_21 rfl ?_ ?_
    · refine s_ldc C e_P_restore_24 g_214 ?_
      exact s_iret C e_P_restore_26
    · refine s_aload_n C e_P_restore_27 rfl ?_
      refine s_get C fc_6 zx_lt_0 (zx_0 _ _ _) 2 (by decide) e_P_restore_28 g_142 rfl ?_
      refine s_aload_n C e_P_restore_31 rfl ?_
      refine s_get C fc_6 zx_lt_0 (zx_0 _ _ _) 6 (by decide) e_P_restore_32 g_375 rfl ?_
      refine s_iload_n C e_P_restore_35 rfl ?_
      refine s_aald (c := 2) (ty := .object "PinBoards$Board") C gImg zx_lt_20 (zx_20 _ _ _) rfl rfl zxf_20 e_P_restore_36 (fun hi36 => ?_)
      refine s_callVv_1 C (c_Board_takeFrom C.inj hb21 (hb_img hi36) _) wv_Board_takeFrom g_150 ⟨by decide, by decide⟩ fc_1 rfl (zb_lt hb21) (zb hb21 _ _ _) rfl (Nat.le_of_ble_eq_true rfl) e_P_restore_37 (fun v5 σ6 => ?_)
      refine s_aload_n C e_P_restore_40 rfl ?_
      refine s_get C fc_6 zx_lt_0 (zx_0 _ _ _) 4 (by decide) e_P_restore_41 g_143 rfl ?_
      refine s_callVv_0 C (c_Past_forget C.inj _) wv_Past_forget g_145 ⟨by decide, by decide⟩ fc_3 rfl zx_lt_16 (zx_16 _ _ _) rfl (Nat.le_of_ble_eq_true rfl) e_P_restore_44 (fun v7 σ8 => ?_)
      refine s_iconst C e_P_restore_47 (v := (1 : Int32)) ic_1 ?_
      exact s_iret C e_P_restore_48
theorem c_P_restore {l : Launch} {D : va_G} {k : Nat → ClassId} {q : Nat → Nat} (hq : Inj ZX q)  (σ : St) (x1 : Int32) : Ct l ZX D k q yX6_restore cX6_restore 2 (some .int) 2 47 [.ref (q 0), .int x1] σ (m_P_restore σ x1) :=
  Ct_of hq lcX (by decide) (Nat.le_of_ble_eq_true rfl) (fun _ _ _ _ _ _ _ _ _ _ C => w_P_restore C σ x1)
set_option maxRecDepth 100000 in
theorem w_P_kind {X : CX} (C : Cx X ZX RX6 cX6_kind 2 (some .int) 2 43)  (σ : St) (x1 : Int32) : Sm X ZX 2 (some .int) σ [(0, .ref (cq X 0)), (1, .int x1)] 0 [] (m_P_kind σ x1) := by
  unfold m_P_kind
  refine s_aload_n C e_P_kind_0 rfl ?_
  refine s_get C fc_6 zx_lt_0 (zx_0 _ _ _) 2 (by decide) e_P_kind_1 g_142 rfl ?_
  refine s_iload_n C e_P_kind_4 rfl ?_
  refine s_callV_1 C (c_Board_hasPin C.inj hb21 _ _) wv_Board_hasPin g_233 ⟨by decide, by decide⟩ fc_1 rfl (zb_lt hb21) (zb hb21 _ _ _) rfl (Nat.le_of_ble_eq_true rfl) e_P_kind_5 (fun v1 σ2 => ?_)
  refine s_if_eq (tgt := 23) C e_P_kind_8 rfl ?_ ?_
  · refine s_ldc C e_P_kind_23 g_10 ?_
    exact s_iret C e_P_kind_25
  · refine s_aload_n C e_P_kind_11 rfl ?_
    refine s_get C fc_6 zx_lt_0 (zx_0 _ _ _) 2 (by decide) e_P_kind_12 g_142 rfl ?_
    refine s_get C fc_1 (zb_lt hb21) (zb hb21 _ _ _) 10 (by decide) e_P_kind_15 g_376 rfl ?_
    refine s_iload_n C e_P_kind_18 rfl ?_
    refine s_iald C (zb5_lt hb21) (zb5 hb21) e_P_kind_19 ?_
    refine s_goto (tgt := 25) C e_P_kind_20 rfl ?_
    exact s_iret C e_P_kind_25
theorem c_P_kind {l : Launch} {D : va_G} {k : Nat → ClassId} {q : Nat → Nat} (hq : Inj ZX q)  (σ : St) (x1 : Int32) : Ct l ZX D k q yX6_kind cX6_kind 2 (some .int) 2 43 [.ref (q 0), .int x1] σ (m_P_kind σ x1) :=
  Ct_of hq lcX (by decide) (Nat.le_of_ble_eq_true rfl) (fun _ _ _ _ _ _ _ _ _ _ C => w_P_kind C σ x1)
set_option maxRecDepth 100000 in
theorem w_P_isA {X : CX} (C : Cx X ZX RX6 cX6_isA 2 (some .boolean) 0 0)  (σ : St) (x0 : Int32) (x1 : Int32) : Sm X ZX 2 (some .boolean) σ [(0, .int x0), (1, .int x1)] 0 [] (m_P_isA σ x0 x1) := by
  unfold m_P_isA
  refine s_iload_n C e_P_isA_0 rfl ?_
  refine s_if_eq (tgt := 9) C e_P_isA_1 rfl ?_ ?_
  · refine s_iconst C e_P_isA_9 (v := (1 : Int32)) ic_1 ?_
    exact s_zret C e_P_isA_10
  · refine s_iload_n C e_P_isA_4 rfl ?_
    refine s_iload_n C e_P_isA_5 rfl ?_
    refine s_icmp_ne (tgt := 11) C e_P_isA_6 rfl ?_ ?_
    · refine s_iconst C e_P_isA_9 (v := (1 : Int32)) ic_1 ?_
      exact s_zret C e_P_isA_10
    · refine s_iload_n C e_P_isA_11 rfl ?_
      refine s_iconst C e_P_isA_12 (v := (1 : Int32)) ic_1 ?_
      refine s_icmp_ne (tgt := 34) C e_P_isA_13 rfl ?_ ?_
      · refine s_iload_n C e_P_isA_16 rfl ?_
        refine s_iconst C e_P_isA_17 (v := (2 : Int32)) ic_2 ?_
        refine s_icmp_eq (tgt := 26) C e_P_isA_18 rfl ?_ ?_
        · refine s_iconst C e_P_isA_26 (v := (1 : Int32)) ic_1 ?_
          refine s_goto (tgt := 49) C e_P_isA_27 rfl ?_
          exact s_zret C e_P_isA_49
        · refine s_iload_n C e_P_isA_21 rfl ?_
          refine s_iconst C e_P_isA_22 (v := (3 : Int32)) ic_3 ?_
          refine s_icmp_ne (tgt := 30) C e_P_isA_23 rfl ?_ ?_
          · refine s_iconst C e_P_isA_26 (v := (1 : Int32)) ic_1 ?_
            refine s_goto (tgt := 49) C e_P_isA_27 rfl ?_
            exact s_zret C e_P_isA_49
          · refine s_iconst C e_P_isA_30 (v := (0 : Int32)) ic_0 ?_
            refine s_goto (tgt := 49) C e_P_isA_31 rfl ?_
            exact s_zret C e_P_isA_49
      · refine s_iload_n C e_P_isA_34 rfl ?_
        refine s_iconst C e_P_isA_35 (v := (4 : Int32)) ic_4 ?_
        refine s_icmp_ne (tgt := 48) C e_P_isA_36 rfl ?_ ?_
        · refine s_iload_n C e_P_isA_39 rfl ?_
          refine s_iconst C e_P_isA_40 (v := (5 : Int32)) ic_5 ?_
          refine s_icmp_ne (tgt := 48) C e_P_isA_41 rfl ?_ ?_
          · refine s_iconst C e_P_isA_44 (v := (1 : Int32)) ic_1 ?_
            refine s_goto (tgt := 49) C e_P_isA_45 rfl ?_
            exact s_zret C e_P_isA_49
          · refine s_iconst C e_P_isA_48 (v := (0 : Int32)) ic_0 ?_
            exact s_zret C e_P_isA_49
        · refine s_iconst C e_P_isA_48 (v := (0 : Int32)) ic_0 ?_
          exact s_zret C e_P_isA_49
theorem c_P_isA {l : Launch} {D : va_G} {k : Nat → ClassId} {q : Nat → Nat} (hq : Inj ZX q)  (σ : St) (x0 : Int32) (x1 : Int32) : Ct l ZX D k q yX6_isA cX6_isA 2 (some .boolean) 0 0 [.int x0, .int x1] σ (m_P_isA σ x0 x1) :=
  Ct_of hq lcX (by decide) (Nat.le_of_ble_eq_true rfl) (fun _ _ _ _ _ _ _ _ _ _ C => w_P_isA C σ x0 x1)
set_option maxRecDepth 100000 in
theorem w_P_as {X : CX} (C : Cx X ZX RX6 cX6_as 3 (some .int) 2 43)  (σ : St) (x1 : Int32) (x2 : Int32) : Sm X ZX 3 (some .int) σ [(0, .ref (cq X 0)), (1, .int x1), (2, .int x2)] 0 [] (m_P_as σ x1 x2) := by
  unfold m_P_as
  refine s_aload_n C e_P_as_0 rfl ?_
  refine s_get C fc_6 zx_lt_0 (zx_0 _ _ _) 2 (by decide) e_P_as_1 g_142 rfl ?_
  refine s_iload_n C e_P_as_4 rfl ?_
  refine s_callV_1 C (c_Board_hasPin C.inj hb21 _ _) wv_Board_hasPin g_233 ⟨by decide, by decide⟩ fc_1 rfl (zb_lt hb21) (zb hb21 _ _ _) rfl (Nat.le_of_ble_eq_true rfl) e_P_as_5 (fun v1 σ2 => ?_)
  refine s_if_eq (tgt := 20) C e_P_as_8 rfl ?_ ?_
  · refine s_ldc C e_P_as_20 g_10 ?_
    exact s_iret C e_P_as_22
  · refine s_iload_n C e_P_as_11 rfl ?_
    refine s_iconst C e_P_as_12 (v := (0 : Int32)) ic_0 ?_
    refine s_iconst C e_P_as_13 (v := (5 : Int32)) ic_5 ?_
    refine s_callS_3 C (c_P_within C.inj _ _ _ _) wv_P_within g_24 ⟨by decide, by decide⟩ rfl (Nat.le_of_ble_eq_true rfl) e_P_as_14 (fun v3 σ4 => ?_)
    refine s_if_ne (tgt := 23) C e_P_as_17 rfl ?_ ?_
    · refine s_ldc C e_P_as_20 g_10 ?_
      exact s_iret C e_P_as_22
    · refine s_aload_n C e_P_as_23 rfl ?_
      refine s_get C fc_6 zx_lt_0 (zx_0 _ _ _) 2 (by decide) e_P_as_24 g_142 rfl ?_
      refine s_get C fc_1 (zb_lt hb21) (zb hb21 _ _ _) 10 (by decide) e_P_as_27 g_376 rfl ?_
      refine s_iload_n C e_P_as_30 rfl ?_
      refine s_iald C (zb5_lt hb21) (zb5 hb21) e_P_as_31 ?_
      refine s_iload_n C e_P_as_32 rfl ?_
      refine s_callS_2 C (c_P_isA C.inj _ _ _) wv_P_isA g_377 ⟨by decide, by decide⟩ rfl (Nat.le_of_ble_eq_true rfl) e_P_as_33 (fun v5 σ6 => ?_)
      refine s_if_ne (tgt := 45) C e_P_as_36 rfl ?_ ?_
      · refine s_aload_n C e_P_as_39 rfl ?_
        refine s_iconst C e_P_as_40 (v := (3 : Int32)) ic_3 ?_
        refine s_callV_1 C (c_P_finding C.inj _ _) wv_P_finding g_20 ⟨by decide, by decide⟩ fc_6 rfl zx_lt_0 (zx_0 _ _ _) rfl (Nat.le_of_ble_eq_true rfl) e_P_as_41 (fun v9 σ10 => ?_)
        exact s_iret C e_P_as_44
      · refine s_aload_n C e_P_as_45 rfl ?_
        refine s_iload_n C e_P_as_46 rfl ?_
        refine s_callV_1 C (c_P_foundNothing C.inj _ _) wv_P_foundNothing g_11 ⟨by decide, by decide⟩ fc_6 rfl zx_lt_0 (zx_0 _ _ _) rfl (Nat.le_of_ble_eq_true rfl) e_P_as_47 (fun v7 σ8 => ?_)
        exact s_iret C e_P_as_50
theorem c_P_as {l : Launch} {D : va_G} {k : Nat → ClassId} {q : Nat → Nat} (hq : Inj ZX q)  (σ : St) (x1 : Int32) (x2 : Int32) : Ct l ZX D k q yX6_as cX6_as 3 (some .int) 2 43 [.ref (q 0), .int x1, .int x2] σ (m_P_as σ x1 x2) :=
  Ct_of hq lcX (by decide) (Nat.le_of_ble_eq_true rfl) (fun _ _ _ _ _ _ _ _ _ _ C => w_P_as C σ x1 x2)
set_option maxRecDepth 100000 in
theorem w_Asks_begin {X : CX} (C : Cx X ZX RX0 cX0_begin 1 none 0 0)  (σ : St)  : Sm X ZX 1 none σ [(0, .ref (cq X 18))] 0 [] (m_Asks_begin σ) := by
  unfold m_Asks_begin
  refine s_aload_n C e_Asks_begin_0 rfl ?_
  refine s_iconst C e_Asks_begin_1 (v := (0 : Int32)) ic_0 ?_
  refine s_put C fc_0 zx_lt_18 (zx_18 _ _ _) 1 (by decide) (zxp_18_1 _ _ _ _) (Nat.le_of_ble_eq_true rfl) e_Asks_begin_2 g_380 rfl rfl (fun σ1 => ?_)
  exact s_vret C e_Asks_begin_5
theorem c_Asks_begin {l : Launch} {D : va_G} {k : Nat → ClassId} {q : Nat → Nat} (hq : Inj ZX q)  (σ : St)  : Ct l ZX D k q yX0_begin cX0_begin 1 none 0 0 [.ref (q 18)] σ (m_Asks_begin σ) :=
  Ct_of hq lcX (by decide) (Nat.le_of_ble_eq_true rfl) (fun _ _ _ _ _ _ _ _ _ _ C => w_Asks_begin C σ)
set_option maxRecDepth 100000 in
theorem w_Asks_leave {X : CX} (C : Cx X ZX RX0 cX0_leave 2 none 0 0)  (σ : St) (x1 : Int32) : Sm X ZX 2 none σ [(0, .ref (cq X 18)), (1, .int x1)] 0 [] (m_Asks_leave σ x1) := by
  unfold m_Asks_leave
  refine s_aload_n C e_Asks_leave_0 rfl ?_
  refine s_get C fc_0 zx_lt_18 (zx_18 _ _ _) 1 (by decide) e_Asks_leave_1 g_380 rfl ?_
  refine s_bipush C e_Asks_leave_4 (v := (16 : Int32)) bp_16 ?_
  refine s_icmp_ge (tgt := 29) C e_Asks_leave_6 rfl ?_ ?_
  · exact s_vret C e_Asks_leave_29
  · refine s_aload_n C e_Asks_leave_9 rfl ?_
    refine s_get C fc_0 zx_lt_18 (zx_18 _ _ _) 0 (by decide) e_Asks_leave_10 g_381 rfl ?_
    refine s_aload_n C e_Asks_leave_13 rfl ?_
    refine s_get C fc_0 zx_lt_18 (zx_18 _ _ _) 1 (by decide) e_Asks_leave_14 g_380 rfl ?_
    refine s_iload_n C e_Asks_leave_17 rfl ?_
    refine s_iast C zx_lt_19 zx_19 e_Asks_leave_18 (fun σ1 => ?_)
    refine s_aload_n C e_Asks_leave_19 rfl ?_
    refine s_dup C e_Asks_leave_20 rfl ?_
    refine s_get C fc_0 zx_lt_18 (zx_18 _ _ _) 1 (by decide) e_Asks_leave_21 g_380 rfl ?_
    refine s_iconst C e_Asks_leave_24 (v := (1 : Int32)) ic_1 ?_
    refine s_iadd C e_Asks_leave_25 ?_
    refine s_put C fc_0 zx_lt_18 (zx_18 _ _ _) 1 (by decide) (zxp_18_1 _ _ _ _) (Nat.le_of_ble_eq_true rfl) e_Asks_leave_26 g_380 rfl rfl (fun σ2 => ?_)
    exact s_vret C e_Asks_leave_29
theorem c_Asks_leave {l : Launch} {D : va_G} {k : Nat → ClassId} {q : Nat → Nat} (hq : Inj ZX q)  (σ : St) (x1 : Int32) : Ct l ZX D k q yX0_leave cX0_leave 2 none 0 0 [.ref (q 18), .int x1] σ (m_Asks_leave σ x1) :=
  Ct_of hq lcX (by decide) (Nat.le_of_ble_eq_true rfl) (fun _ _ _ _ _ _ _ _ _ _ C => w_Asks_leave C σ x1)
set_option maxRecDepth 100000 in
theorem w_Asks_body10 {X : CX} (C : Cx X ZX RX0 cX0_body10 2 (some .int) 1 21)  (σ : St) (x1 : Int32) : Sm X ZX 2 (some .int) σ [(0, .ref (cq X 18)), (1, .int x1)] 0 [] (m_Asks_body10 σ x1) := by
  unfold m_Asks_body10
  refine s_aload_n C e_Asks_body10_0 rfl ?_
  refine s_bipush C e_Asks_body10_1 (v := (10 : Int32)) bp_10 ?_
  refine s_callVv_1 C (c_Asks_leave C.inj _ _) wv_Asks_leave g_384 ⟨by decide, by decide⟩ fc_0 rfl zx_lt_18 (zx_18 _ _ _) rfl (Nat.le_of_ble_eq_true rfl) e_Asks_body10_3 (fun v1 σ2 => ?_)
  refine s_aload_n C e_Asks_body10_6 rfl ?_
  refine s_get C fc_0 zx_lt_18 (zx_18 _ _ _) 2 (by decide) e_Asks_body10_7 g_382 rfl ?_
  refine s_get C fc_1 (zb_lt hb21) (zb hb21 _ _ _) 8 (by decide) e_Asks_body10_10 g_383 rfl ?_
  refine s_iload_n C e_Asks_body10_13 rfl ?_
  refine s_iald C (zb3_lt hb21) (zb3 hb21) e_Asks_body10_14 ?_
  exact s_iret C e_Asks_body10_15
theorem c_Asks_body10 {l : Launch} {D : va_G} {k : Nat → ClassId} {q : Nat → Nat} (hq : Inj ZX q)  (σ : St) (x1 : Int32) : Ct l ZX D k q yX0_body10 cX0_body10 2 (some .int) 1 21 [.ref (q 18), .int x1] σ (m_Asks_body10 σ x1) :=
  Ct_of hq lcX (by decide) (Nat.le_of_ble_eq_true rfl) (fun _ _ _ _ _ _ _ _ _ _ C => w_Asks_body10 C σ x1)
set_option maxRecDepth 100000 in
theorem w_Asks_body13 {X : CX} (C : Cx X ZX RX0 cX0_body13 2 (some .int) 2 42)  (σ : St) (x1 : Int32) : Sm X ZX 2 (some .int) σ [(0, .ref (cq X 18)), (1, .int x1)] 0 [] (m_Asks_body13 σ x1) := by
  unfold m_Asks_body13
  refine s_aload_n C e_Asks_body13_0 rfl ?_
  refine s_bipush C e_Asks_body13_1 (v := (13 : Int32)) bp_13 ?_
  refine s_callVv_1 C (c_Asks_leave C.inj _ _) wv_Asks_leave g_384 ⟨by decide, by decide⟩ fc_0 rfl zx_lt_18 (zx_18 _ _ _) rfl (Nat.le_of_ble_eq_true rfl) e_Asks_body13_3 (fun v1 σ2 => ?_)
  refine s_aload_n C e_Asks_body13_6 rfl ?_
  refine s_iload_n C e_Asks_body13_7 rfl ?_
  refine s_callV_1 C (c_Asks_body10 C.inj _ _) wv_Asks_body10 g_389 ⟨by decide, by decide⟩ fc_0 rfl zx_lt_18 (zx_18 _ _ _) rfl (Nat.le_of_ble_eq_true rfl) e_Asks_body13_8 (fun v3 σ4 => ?_)
  refine s_bipush C e_Asks_body13_11 (v := (100 : Int32)) bp_100 ?_
  refine s_isub C e_Asks_body13_13 ?_
  exact s_iret C e_Asks_body13_14
theorem c_Asks_body13 {l : Launch} {D : va_G} {k : Nat → ClassId} {q : Nat → Nat} (hq : Inj ZX q)  (σ : St) (x1 : Int32) : Ct l ZX D k q yX0_body13 cX0_body13 2 (some .int) 2 42 [.ref (q 18), .int x1] σ (m_Asks_body13 σ x1) :=
  Ct_of hq lcX (by decide) (Nat.le_of_ble_eq_true rfl) (fun _ _ _ _ _ _ _ _ _ _ C => w_Asks_body13 C σ x1)
set_option maxRecDepth 100000 in
theorem w_Asks_sizeOfOldOne {X : CX} (C : Cx X ZX RX0 cX0_sizeOfOldOne 2 (some .int) 3 63)  (σ : St) (x1 : Int32) : Sm X ZX 2 (some .int) σ [(0, .ref (cq X 18)), (1, .int x1)] 0 [] (m_Asks_sizeOfOldOne σ x1) := by
  unfold m_Asks_sizeOfOldOne
  refine s_aload_n C e_Asks_sizeOfOldOne_0 rfl ?_
  refine s_get C fc_0 zx_lt_18 (zx_18 _ _ _) 2 (by decide) e_Asks_sizeOfOldOne_1 g_382 rfl ?_
  refine s_get C fc_1 (zb_lt hb21) (zb hb21 _ _ _) 10 (by decide) e_Asks_sizeOfOldOne_4 g_393 rfl ?_
  refine s_iload_n C e_Asks_sizeOfOldOne_7 rfl ?_
  refine s_iald C (zb5_lt hb21) (zb5 hb21) e_Asks_sizeOfOldOne_8 ?_
  refine s_iconst C e_Asks_sizeOfOldOne_9 (v := (5 : Int32)) ic_5 ?_
  refine s_icmp_eq (tgt := 19) C e_Asks_sizeOfOldOne_10 rfl ?_ ?_
  · refine s_aload_n C e_Asks_sizeOfOldOne_19 rfl ?_
    refine s_bipush C e_Asks_sizeOfOldOne_20 (v := (14 : Int32)) bp_14 ?_
    refine s_callVv_1 C (c_Asks_leave C.inj _ _) wv_Asks_leave g_384 ⟨by decide, by decide⟩ fc_0 rfl zx_lt_18 (zx_18 _ _ _) rfl (Nat.le_of_ble_eq_true rfl) e_Asks_sizeOfOldOne_22 (fun v1 σ2 => ?_)
    refine s_iconst C e_Asks_sizeOfOldOne_25 (v := (2 : Int32)) ic_2 ?_
    refine s_aload_n C e_Asks_sizeOfOldOne_26 rfl ?_
    refine s_iload_n C e_Asks_sizeOfOldOne_27 rfl ?_
    refine s_callV_1 C (c_Asks_body13 C.inj _ _) wv_Asks_body13 g_394 ⟨by decide, by decide⟩ fc_0 rfl zx_lt_18 (zx_18 _ _ _) rfl (Nat.le_of_ble_eq_true rfl) e_Asks_sizeOfOldOne_28 (fun v3 σ4 => ?_)
    refine s_imul C e_Asks_sizeOfOldOne_31 ?_
    exact s_iret C e_Asks_sizeOfOldOne_32
  · refine s_aload_n C e_Asks_sizeOfOldOne_13 rfl ?_
    refine s_iload_n C e_Asks_sizeOfOldOne_14 rfl ?_
    refine s_callV_1 C (c_Asks_body13 C.inj _ _) wv_Asks_body13 g_394 ⟨by decide, by decide⟩ fc_0 rfl zx_lt_18 (zx_18 _ _ _) rfl (Nat.le_of_ble_eq_true rfl) e_Asks_sizeOfOldOne_15 (fun v5 σ6 => ?_)
    exact s_iret C e_Asks_sizeOfOldOne_18
theorem c_Asks_sizeOfOldOne {l : Launch} {D : va_G} {k : Nat → ClassId} {q : Nat → Nat} (hq : Inj ZX q)  (σ : St) (x1 : Int32) : Ct l ZX D k q yX0_sizeOfOldOne cX0_sizeOfOldOne 2 (some .int) 3 63 [.ref (q 18), .int x1] σ (m_Asks_sizeOfOldOne σ x1) :=
  Ct_of hq lcX (by decide) (Nat.le_of_ble_eq_true rfl) (fun _ _ _ _ _ _ _ _ _ _ C => w_Asks_sizeOfOldOne C σ x1)
set_option maxRecDepth 100000 in
theorem w_Asks_body20 {X : CX} (C : Cx X ZX RX0 cX0_body20 2 (some .int) 1 21)  (σ : St) (x1 : Int32) : Sm X ZX 2 (some .int) σ [(0, .ref (cq X 18)), (1, .int x1)] 0 [] (m_Asks_body20 σ x1) := by
  unfold m_Asks_body20
  refine s_aload_n C e_Asks_body20_0 rfl ?_
  refine s_bipush C e_Asks_body20_1 (v := (20 : Int32)) bp_20 ?_
  refine s_callVv_1 C (c_Asks_leave C.inj _ _) wv_Asks_leave g_384 ⟨by decide, by decide⟩ fc_0 rfl zx_lt_18 (zx_18 _ _ _) rfl (Nat.le_of_ble_eq_true rfl) e_Asks_body20_3 (fun v1 σ2 => ?_)
  refine s_iload_n C e_Asks_body20_6 rfl ?_
  exact s_iret C e_Asks_body20_7
theorem c_Asks_body20 {l : Launch} {D : va_G} {k : Nat → ClassId} {q : Nat → Nat} (hq : Inj ZX q)  (σ : St) (x1 : Int32) : Ct l ZX D k q yX0_body20 cX0_body20 2 (some .int) 1 21 [.ref (q 18), .int x1] σ (m_Asks_body20 σ x1) :=
  Ct_of hq lcX (by decide) (Nat.le_of_ble_eq_true rfl) (fun _ _ _ _ _ _ _ _ _ _ C => w_Asks_body20 C σ x1)
set_option maxRecDepth 100000 in
theorem w_Asks_body21 {X : CX} (C : Cx X ZX RX0 cX0_body21 2 (some .int) 2 42)  (σ : St) (x1 : Int32) : Sm X ZX 2 (some .int) σ [(0, .ref (cq X 18)), (1, .int x1)] 0 [] (m_Asks_body21 σ x1) := by
  unfold m_Asks_body21
  refine s_aload_n C e_Asks_body21_0 rfl ?_
  refine s_bipush C e_Asks_body21_1 (v := (21 : Int32)) bp_21 ?_
  refine s_callVv_1 C (c_Asks_leave C.inj _ _) wv_Asks_leave g_384 ⟨by decide, by decide⟩ fc_0 rfl zx_lt_18 (zx_18 _ _ _) rfl (Nat.le_of_ble_eq_true rfl) e_Asks_body21_3 (fun v1 σ2 => ?_)
  refine s_aload_n C e_Asks_body21_6 rfl ?_
  refine s_iload_n C e_Asks_body21_7 rfl ?_
  refine s_callV_1 C (c_Asks_body20 C.inj _ _) wv_Asks_body20 g_399 ⟨by decide, by decide⟩ fc_0 rfl zx_lt_18 (zx_18 _ _ _) rfl (Nat.le_of_ble_eq_true rfl) e_Asks_body21_8 (fun v3 σ4 => ?_)
  refine s_aload_n C e_Asks_body21_11 rfl ?_
  refine s_get C fc_0 zx_lt_18 (zx_18 _ _ _) 2 (by decide) e_Asks_body21_12 g_382 rfl ?_
  refine s_get C fc_1 (zb_lt hb21) (zb hb21 _ _ _) 11 (by decide) e_Asks_body21_15 g_398 rfl ?_
  refine s_iload_n C e_Asks_body21_18 rfl ?_
  refine s_iald C (zb6_lt hb21) (zb6 hb21) e_Asks_body21_19 ?_
  refine s_iadd C e_Asks_body21_20 ?_
  exact s_iret C e_Asks_body21_21
theorem c_Asks_body21 {l : Launch} {D : va_G} {k : Nat → ClassId} {q : Nat → Nat} (hq : Inj ZX q)  (σ : St) (x1 : Int32) : Ct l ZX D k q yX0_body21 cX0_body21 2 (some .int) 2 42 [.ref (q 18), .int x1] σ (m_Asks_body21 σ x1) :=
  Ct_of hq lcX (by decide) (Nat.le_of_ble_eq_true rfl) (fun _ _ _ _ _ _ _ _ _ _ C => w_Asks_body21 C σ x1)
set_option maxRecDepth 100000 in
theorem w_Asks_markOfAgent {X : CX} (C : Cx X ZX RX0 cX0_markOfAgent 2 (some .int) 3 63)  (σ : St) (x1 : Int32) : Sm X ZX 2 (some .int) σ [(0, .ref (cq X 18)), (1, .int x1)] 0 [] (m_Asks_markOfAgent σ x1) := by
  unfold m_Asks_markOfAgent
  refine s_aload_n C e_Asks_markOfAgent_0 rfl ?_
  refine s_get C fc_0 zx_lt_18 (zx_18 _ _ _) 2 (by decide) e_Asks_markOfAgent_1 g_382 rfl ?_
  refine s_get C fc_1 (zb_lt hb21) (zb hb21 _ _ _) 10 (by decide) e_Asks_markOfAgent_4 g_393 rfl ?_
  refine s_iload_n C e_Asks_markOfAgent_7 rfl ?_
  refine s_iald C (zb5_lt hb21) (zb5 hb21) e_Asks_markOfAgent_8 ?_
  refine s_iconst C e_Asks_markOfAgent_9 (v := (2 : Int32)) ic_2 ?_
  refine s_icmp_ne (tgt := 27) C e_Asks_markOfAgent_10 rfl ?_ ?_
  · refine s_aload_n C e_Asks_markOfAgent_13 rfl ?_
    refine s_bipush C e_Asks_markOfAgent_14 (v := (24 : Int32)) bp_24 ?_
    refine s_callVv_1 C (c_Asks_leave C.inj _ _) wv_Asks_leave g_384 ⟨by decide, by decide⟩ fc_0 rfl zx_lt_18 (zx_18 _ _ _) rfl (Nat.le_of_ble_eq_true rfl) e_Asks_markOfAgent_16 (fun v7 σ8 => ?_)
    refine s_iconst C e_Asks_markOfAgent_19 (v := (2 : Int32)) ic_2 ?_
    refine s_aload_n C e_Asks_markOfAgent_20 rfl ?_
    refine s_iload_n C e_Asks_markOfAgent_21 rfl ?_
    refine s_callV_1 C (c_Asks_body21 C.inj _ _) wv_Asks_body21 g_403 ⟨by decide, by decide⟩ fc_0 rfl zx_lt_18 (zx_18 _ _ _) rfl (Nat.le_of_ble_eq_true rfl) e_Asks_markOfAgent_22 (fun v9 σ10 => ?_)
    refine s_imul C e_Asks_markOfAgent_25 ?_
    exact s_iret C e_Asks_markOfAgent_26
  · refine s_aload_n C e_Asks_markOfAgent_27 rfl ?_
    refine s_get C fc_0 zx_lt_18 (zx_18 _ _ _) 2 (by decide) e_Asks_markOfAgent_28 g_382 rfl ?_
    refine s_get C fc_1 (zb_lt hb21) (zb hb21 _ _ _) 10 (by decide) e_Asks_markOfAgent_31 g_393 rfl ?_
    refine s_iload_n C e_Asks_markOfAgent_34 rfl ?_
    refine s_iald C (zb5_lt hb21) (zb5 hb21) e_Asks_markOfAgent_35 ?_
    refine s_iconst C e_Asks_markOfAgent_36 (v := (3 : Int32)) ic_3 ?_
    refine s_icmp_eq (tgt := 46) C e_Asks_markOfAgent_37 rfl ?_ ?_
    · refine s_aload_n C e_Asks_markOfAgent_46 rfl ?_
      refine s_bipush C e_Asks_markOfAgent_47 (v := (22 : Int32)) bp_22 ?_
      refine s_callVv_1 C (c_Asks_leave C.inj _ _) wv_Asks_leave g_384 ⟨by decide, by decide⟩ fc_0 rfl zx_lt_18 (zx_18 _ _ _) rfl (Nat.le_of_ble_eq_true rfl) e_Asks_markOfAgent_49 (fun v1 σ2 => ?_)
      refine s_aload_n C e_Asks_markOfAgent_52 rfl ?_
      refine s_iload_n C e_Asks_markOfAgent_53 rfl ?_
      refine s_callV_1 C (c_Asks_body21 C.inj _ _) wv_Asks_body21 g_403 ⟨by decide, by decide⟩ fc_0 rfl zx_lt_18 (zx_18 _ _ _) rfl (Nat.le_of_ble_eq_true rfl) e_Asks_markOfAgent_54 (fun v3 σ4 => ?_)
      refine s_sipush C e_Asks_markOfAgent_57 (v := (1000 : Int32)) sp_1000 ?_
      refine s_isub C e_Asks_markOfAgent_60 ?_
      exact s_iret C e_Asks_markOfAgent_61
    · refine s_aload_n C e_Asks_markOfAgent_40 rfl ?_
      refine s_iload_n C e_Asks_markOfAgent_41 rfl ?_
      refine s_callV_1 C (c_Asks_body21 C.inj _ _) wv_Asks_body21 g_403 ⟨by decide, by decide⟩ fc_0 rfl zx_lt_18 (zx_18 _ _ _) rfl (Nat.le_of_ble_eq_true rfl) e_Asks_markOfAgent_42 (fun v5 σ6 => ?_)
      exact s_iret C e_Asks_markOfAgent_45
theorem c_Asks_markOfAgent {l : Launch} {D : va_G} {k : Nat → ClassId} {q : Nat → Nat} (hq : Inj ZX q)  (σ : St) (x1 : Int32) : Ct l ZX D k q yX0_markOfAgent cX0_markOfAgent 2 (some .int) 3 63 [.ref (q 18), .int x1] σ (m_Asks_markOfAgent σ x1) :=
  Ct_of hq lcX (by decide) (Nat.le_of_ble_eq_true rfl) (fun _ _ _ _ _ _ _ _ _ _ C => w_Asks_markOfAgent C σ x1)
set_option maxRecDepth 100000 in
theorem w_Asks_body11 {X : CX} (C : Cx X ZX RX0 cX0_body11 3 (some .int) 4 84)  (σ : St) (x1 : Int32) : Sm X ZX 3 (some .int) σ [(0, .ref (cq X 18)), (1, .int x1)] 0 [] (m_Asks_body11 σ x1) := by
  unfold m_Asks_body11
  refine s_aload_n C e_Asks_body11_0 rfl ?_
  refine s_bipush C e_Asks_body11_1 (v := (11 : Int32)) bp_11 ?_
  refine s_callVv_1 C (c_Asks_leave C.inj _ _) wv_Asks_leave g_384 ⟨by decide, by decide⟩ fc_0 rfl zx_lt_18 (zx_18 _ _ _) rfl (Nat.le_of_ble_eq_true rfl) e_Asks_body11_3 (fun v1 σ2 => ?_)
  refine s_aload_n C e_Asks_body11_6 rfl ?_
  refine s_iload_n C e_Asks_body11_7 rfl ?_
  refine s_callV_1 C (c_Asks_body10 C.inj _ _) wv_Asks_body10 g_389 ⟨by decide, by decide⟩ fc_0 rfl zx_lt_18 (zx_18 _ _ _) rfl (Nat.le_of_ble_eq_true rfl) e_Asks_body11_8 (fun v3 σ4 => ?_)
  refine s_istore_n C e_Asks_body11_11 (by decide) ?_
  refine s_iload_n C e_Asks_body11_12 rfl ?_
  refine s_aload_n C e_Asks_body11_13 rfl ?_
  refine s_iload_n C e_Asks_body11_14 rfl ?_
  refine s_callV_1 C (c_Asks_markOfAgent C.inj _ _) wv_Asks_markOfAgent g_407 ⟨by decide, by decide⟩ fc_0 rfl zx_lt_18 (zx_18 _ _ _) rfl (Nat.le_of_ble_eq_true rfl) e_Asks_body11_15 (fun v5 σ6 => ?_)
  refine s_iadd C e_Asks_body11_18 ?_
  exact s_iret C e_Asks_body11_19
theorem c_Asks_body11 {l : Launch} {D : va_G} {k : Nat → ClassId} {q : Nat → Nat} (hq : Inj ZX q)  (σ : St) (x1 : Int32) : Ct l ZX D k q yX0_body11 cX0_body11 3 (some .int) 4 84 [.ref (q 18), .int x1] σ (m_Asks_body11 σ x1) :=
  Ct_of hq lcX (by decide) (Nat.le_of_ble_eq_true rfl) (fun _ _ _ _ _ _ _ _ _ _ C => w_Asks_body11 C σ x1)
set_option maxRecDepth 100000 in
theorem w_Asks_sizeOf {X : CX} (C : Cx X ZX RX0 cX0_sizeOf 2 (some .int) 5 106)  (σ : St) (x1 : Int32) : Sm X ZX 2 (some .int) σ [(0, .ref (cq X 18)), (1, .int x1)] 0 [] (m_Asks_sizeOf σ x1) := by
  unfold m_Asks_sizeOf
  refine s_aload_n C e_Asks_sizeOf_0 rfl ?_
  refine s_get C fc_0 zx_lt_18 (zx_18 _ _ _) 2 (by decide) e_Asks_sizeOf_1 g_382 rfl ?_
  refine s_get C fc_1 (zb_lt hb21) (zb hb21 _ _ _) 10 (by decide) e_Asks_sizeOf_4 g_393 rfl ?_
  refine s_iload_n C e_Asks_sizeOf_7 rfl ?_
  refine s_iald C (zb5_lt hb21) (zb5 hb21) e_Asks_sizeOf_8 ?_
  refine s_iconst C e_Asks_sizeOf_9 (v := (4 : Int32)) ic_4 ?_
  refine s_callN_2 C (c_P_isA C.inj _ _ _) wv_P_isA g_419 ⟨by decide, by decide⟩ rfl (Nat.le_of_ble_eq_true rfl) e_Asks_sizeOf_10 (fun v1 σ2 => ?_)
  refine s_if_eq (tgt := 22) C e_Asks_sizeOf_13 rfl ?_ ?_
  · refine s_aload_n C e_Asks_sizeOf_22 rfl ?_
    refine s_get C fc_0 zx_lt_18 (zx_18 _ _ _) 2 (by decide) e_Asks_sizeOf_23 g_382 rfl ?_
    refine s_get C fc_1 (zb_lt hb21) (zb hb21 _ _ _) 10 (by decide) e_Asks_sizeOf_26 g_393 rfl ?_
    refine s_iload_n C e_Asks_sizeOf_29 rfl ?_
    refine s_iald C (zb5_lt hb21) (zb5 hb21) e_Asks_sizeOf_30 ?_
    refine s_iconst C e_Asks_sizeOf_31 (v := (2 : Int32)) ic_2 ?_
    refine s_icmp_eq (tgt := 41) C e_Asks_sizeOf_32 rfl ?_ ?_
    · refine s_aload_n C e_Asks_sizeOf_41 rfl ?_
      refine s_bipush C e_Asks_sizeOf_42 (v := (12 : Int32)) bp_12 ?_
      refine s_callVv_1 C (c_Asks_leave C.inj _ _) wv_Asks_leave g_384 ⟨by decide, by decide⟩ fc_0 rfl zx_lt_18 (zx_18 _ _ _) rfl (Nat.le_of_ble_eq_true rfl) e_Asks_sizeOf_44 (fun v3 σ4 => ?_)
      refine s_aload_n C e_Asks_sizeOf_47 rfl ?_
      refine s_iload_n C e_Asks_sizeOf_48 rfl ?_
      refine s_callV_1 C (c_Asks_body11 C.inj _ _) wv_Asks_body11 g_411 ⟨by decide, by decide⟩ fc_0 rfl zx_lt_18 (zx_18 _ _ _) rfl (Nat.le_of_ble_eq_true rfl) e_Asks_sizeOf_49 (fun v5 σ6 => ?_)
      refine s_ineg C e_Asks_sizeOf_52 ?_
      exact s_iret C e_Asks_sizeOf_53
    · refine s_aload_n C e_Asks_sizeOf_35 rfl ?_
      refine s_iload_n C e_Asks_sizeOf_36 rfl ?_
      refine s_callV_1 C (c_Asks_body11 C.inj _ _) wv_Asks_body11 g_411 ⟨by decide, by decide⟩ fc_0 rfl zx_lt_18 (zx_18 _ _ _) rfl (Nat.le_of_ble_eq_true rfl) e_Asks_sizeOf_37 (fun v7 σ8 => ?_)
      exact s_iret C e_Asks_sizeOf_40
  · refine s_aload_n C e_Asks_sizeOf_16 rfl ?_
    refine s_iload_n C e_Asks_sizeOf_17 rfl ?_
    refine s_callV_1 C (c_Asks_sizeOfOldOne C.inj _ _) wv_Asks_sizeOfOldOne g_415 ⟨by decide, by decide⟩ fc_0 rfl zx_lt_18 (zx_18 _ _ _) rfl (Nat.le_of_ble_eq_true rfl) e_Asks_sizeOf_18 (fun v9 σ10 => ?_)
    exact s_iret C e_Asks_sizeOf_21
theorem c_Asks_sizeOf {l : Launch} {D : va_G} {k : Nat → ClassId} {q : Nat → Nat} (hq : Inj ZX q)  (σ : St) (x1 : Int32) : Ct l ZX D k q yX0_sizeOf cX0_sizeOf 2 (some .int) 5 106 [.ref (q 18), .int x1] σ (m_Asks_sizeOf σ x1) :=
  Ct_of hq lcX (by decide) (Nat.le_of_ble_eq_true rfl) (fun _ _ _ _ _ _ _ _ _ _ C => w_Asks_sizeOf C σ x1)
set_option maxRecDepth 100000 in
theorem w_Asks_body23 {X : CX} (C : Cx X ZX RX0 cX0_body23 3 (some .int) 4 84)  (σ : St) (x1 : Int32) : Sm X ZX 3 (some .int) σ [(0, .ref (cq X 18)), (1, .int x1)] 0 [] (m_Asks_body23 σ x1) := by
  unfold m_Asks_body23
  refine s_aload_n C e_Asks_body23_0 rfl ?_
  refine s_bipush C e_Asks_body23_1 (v := (23 : Int32)) bp_23 ?_
  refine s_callVv_1 C (c_Asks_leave C.inj _ _) wv_Asks_leave g_384 ⟨by decide, by decide⟩ fc_0 rfl zx_lt_18 (zx_18 _ _ _) rfl (Nat.le_of_ble_eq_true rfl) e_Asks_body23_3 (fun v1 σ2 => ?_)
  refine s_aload_n C e_Asks_body23_6 rfl ?_
  refine s_iload_n C e_Asks_body23_7 rfl ?_
  refine s_callV_1 C (c_Asks_body20 C.inj _ _) wv_Asks_body20 g_399 ⟨by decide, by decide⟩ fc_0 rfl zx_lt_18 (zx_18 _ _ _) rfl (Nat.le_of_ble_eq_true rfl) e_Asks_body23_8 (fun v3 σ4 => ?_)
  refine s_istore_n C e_Asks_body23_11 (by decide) ?_
  refine s_iload_n C e_Asks_body23_12 rfl ?_
  refine s_aload_n C e_Asks_body23_13 rfl ?_
  refine s_iload_n C e_Asks_body23_14 rfl ?_
  refine s_callV_1 C (c_Asks_sizeOfOldOne C.inj _ _) wv_Asks_sizeOfOldOne g_415 ⟨by decide, by decide⟩ fc_0 rfl zx_lt_18 (zx_18 _ _ _) rfl (Nat.le_of_ble_eq_true rfl) e_Asks_body23_15 (fun v5 σ6 => ?_)
  refine s_isub C e_Asks_body23_18 ?_
  exact s_iret C e_Asks_body23_19
theorem c_Asks_body23 {l : Launch} {D : va_G} {k : Nat → ClassId} {q : Nat → Nat} (hq : Inj ZX q)  (σ : St) (x1 : Int32) : Ct l ZX D k q yX0_body23 cX0_body23 3 (some .int) 4 84 [.ref (q 18), .int x1] σ (m_Asks_body23 σ x1) :=
  Ct_of hq lcX (by decide) (Nat.le_of_ble_eq_true rfl) (fun _ _ _ _ _ _ _ _ _ _ C => w_Asks_body23 C σ x1)
set_option maxRecDepth 100000 in
theorem w_Asks_markOf {X : CX} (C : Cx X ZX RX0 cX0_markOf 2 (some .int) 5 106)  (σ : St) (x1 : Int32) : Sm X ZX 2 (some .int) σ [(0, .ref (cq X 18)), (1, .int x1)] 0 [] (m_Asks_markOf σ x1) := by
  unfold m_Asks_markOf
  refine s_aload_n C e_Asks_markOf_0 rfl ?_
  refine s_get C fc_0 zx_lt_18 (zx_18 _ _ _) 2 (by decide) e_Asks_markOf_1 g_382 rfl ?_
  refine s_get C fc_1 (zb_lt hb21) (zb hb21 _ _ _) 10 (by decide) e_Asks_markOf_4 g_393 rfl ?_
  refine s_iload_n C e_Asks_markOf_7 rfl ?_
  refine s_iald C (zb5_lt hb21) (zb5 hb21) e_Asks_markOf_8 ?_
  refine s_iconst C e_Asks_markOf_9 (v := (4 : Int32)) ic_4 ?_
  refine s_callN_2 C (c_P_isA C.inj _ _ _) wv_P_isA g_419 ⟨by decide, by decide⟩ rfl (Nat.le_of_ble_eq_true rfl) e_Asks_markOf_10 (fun v1 σ2 => ?_)
  refine s_if_eq (tgt := 24) C e_Asks_markOf_13 rfl ?_ ?_
  · refine s_aload_n C e_Asks_markOf_24 rfl ?_
    refine s_iload_n C e_Asks_markOf_25 rfl ?_
    refine s_callV_1 C (c_Asks_markOfAgent C.inj _ _) wv_Asks_markOfAgent g_407 ⟨by decide, by decide⟩ fc_0 rfl zx_lt_18 (zx_18 _ _ _) rfl (Nat.le_of_ble_eq_true rfl) e_Asks_markOf_26 (fun v3 σ4 => ?_)
    exact s_iret C e_Asks_markOf_29
  · refine s_aload_n C e_Asks_markOf_16 rfl ?_
    refine s_iload_n C e_Asks_markOf_17 rfl ?_
    refine s_callV_1 C (c_Asks_body23 C.inj _ _) wv_Asks_body23 g_420 ⟨by decide, by decide⟩ fc_0 rfl zx_lt_18 (zx_18 _ _ _) rfl (Nat.le_of_ble_eq_true rfl) e_Asks_markOf_18 (fun v5 σ6 => ?_)
    refine s_goto (tgt := 29) C e_Asks_markOf_21 rfl ?_
    exact s_iret C e_Asks_markOf_29
theorem c_Asks_markOf {l : Launch} {D : va_G} {k : Nat → ClassId} {q : Nat → Nat} (hq : Inj ZX q)  (σ : St) (x1 : Int32) : Ct l ZX D k q yX0_markOf cX0_markOf 2 (some .int) 5 106 [.ref (q 18), .int x1] σ (m_Asks_markOf σ x1) :=
  Ct_of hq lcX (by decide) (Nat.le_of_ble_eq_true rfl) (fun _ _ _ _ _ _ _ _ _ _ C => w_Asks_markOf C σ x1)
set_option maxRecDepth 100000 in
theorem w_P_ask {X : CX} (C : Cx X ZX RX6 cX6_ask 3 (some .int) 6 127)  (σ : St) (x1 : Int32) (x2 : Int32) : Sm X ZX 3 (some .int) σ [(0, .ref (cq X 0)), (1, .int x1), (2, .int x2)] 0 [] (m_P_ask σ x1 x2) := by
  unfold m_P_ask
  refine s_aload_n C e_P_ask_0 rfl ?_
  refine s_get C fc_6 zx_lt_0 (zx_0 _ _ _) 2 (by decide) e_P_ask_1 g_142 rfl ?_
  refine s_iload_n C e_P_ask_4 rfl ?_
  refine s_callV_1 C (c_Board_hasPin C.inj hb21 _ _) wv_Board_hasPin g_233 ⟨by decide, by decide⟩ fc_1 rfl (zb_lt hb21) (zb hb21 _ _ _) rfl (Nat.le_of_ble_eq_true rfl) e_P_ask_5 (fun v1 σ2 => ?_)
  refine s_if_eq (tgt := 20) C e_P_ask_8 rfl ?_ ?_
  · refine s_ldc C e_P_ask_20 g_10 ?_
    exact s_iret C e_P_ask_22
  · refine s_iload_n C e_P_ask_11 rfl ?_
    refine s_iconst C e_P_ask_12 (v := (0 : Int32)) ic_0 ?_
    refine s_iconst C e_P_ask_13 (v := (1 : Int32)) ic_1 ?_
    refine s_callS_3 C (c_P_within C.inj _ _ _ _) wv_P_within g_24 ⟨by decide, by decide⟩ rfl (Nat.le_of_ble_eq_true rfl) e_P_ask_14 (fun v3 σ4 => ?_)
    refine s_if_ne (tgt := 23) C e_P_ask_17 rfl ?_ ?_
    · refine s_ldc C e_P_ask_20 g_10 ?_
      exact s_iret C e_P_ask_22
    · refine s_aload_n C e_P_ask_23 rfl ?_
      refine s_get C fc_6 zx_lt_0 (zx_0 _ _ _) 5 (by decide) e_P_ask_24 g_424 rfl ?_
      refine s_callVv_0 C (c_Asks_begin C.inj _) wv_Asks_begin g_433 ⟨by decide, by decide⟩ fc_0 rfl zx_lt_18 (zx_18 _ _ _) rfl (Nat.le_of_ble_eq_true rfl) e_P_ask_27 (fun v5 σ6 => ?_)
      refine s_iload_n C e_P_ask_30 rfl ?_
      refine s_if_ne (tgt := 45) C e_P_ask_31 rfl ?_ ?_
      · refine s_aload_n C e_P_ask_34 rfl ?_
        refine s_get C fc_6 zx_lt_0 (zx_0 _ _ _) 5 (by decide) e_P_ask_35 g_424 rfl ?_
        refine s_iload_n C e_P_ask_38 rfl ?_
        refine s_callV_1 C (c_Asks_sizeOf C.inj _ _) wv_Asks_sizeOf g_429 ⟨by decide, by decide⟩ fc_0 rfl zx_lt_18 (zx_18 _ _ _) rfl (Nat.le_of_ble_eq_true rfl) e_P_ask_39 (fun v9 σ10 => ?_)
        refine s_goto (tgt := 53) C e_P_ask_42 rfl ?_
        exact s_iret C e_P_ask_53
      · refine s_aload_n C e_P_ask_45 rfl ?_
        refine s_get C fc_6 zx_lt_0 (zx_0 _ _ _) 5 (by decide) e_P_ask_46 g_424 rfl ?_
        refine s_iload_n C e_P_ask_49 rfl ?_
        refine s_callV_1 C (c_Asks_markOf C.inj _ _) wv_Asks_markOf g_425 ⟨by decide, by decide⟩ fc_0 rfl zx_lt_18 (zx_18 _ _ _) rfl (Nat.le_of_ble_eq_true rfl) e_P_ask_50 (fun v7 σ8 => ?_)
        exact s_iret C e_P_ask_53
theorem c_P_ask {l : Launch} {D : va_G} {k : Nat → ClassId} {q : Nat → Nat} (hq : Inj ZX q)  (σ : St) (x1 : Int32) (x2 : Int32) : Ct l ZX D k q yX6_ask cX6_ask 3 (some .int) 6 127 [.ref (q 0), .int x1, .int x2] σ (m_P_ask σ x1 x2) :=
  Ct_of hq lcX (by decide) (Nat.le_of_ble_eq_true rfl) (fun _ _ _ _ _ _ _ _ _ _ C => w_P_ask C σ x1 x2)
set_option maxRecDepth 100000 in
theorem w_P_trace {X : CX} (C : Cx X ZX RX6 cX6_trace 2 (some .int) 1 22)  (σ : St) (x1 : Int32) : Sm X ZX 2 (some .int) σ [(0, .ref (cq X 0)), (1, .int x1)] 0 [] (m_P_trace σ x1) := by
  unfold m_P_trace
  refine s_iload_n C e_P_trace_0 rfl ?_
  refine s_iconst C e_P_trace_1 (v := (0 : Int32)) ic_0 ?_
  refine s_aload_n C e_P_trace_2 rfl ?_
  refine s_get C fc_6 zx_lt_0 (zx_0 _ _ _) 5 (by decide) e_P_trace_3 g_424 rfl ?_
  refine s_get C fc_0 zx_lt_18 (zx_18 _ _ _) 1 (by decide) e_P_trace_6 g_437 rfl ?_
  refine s_iconst C e_P_trace_9 (v := (1 : Int32)) ic_1 ?_
  refine s_isub C e_P_trace_10 ?_
  refine s_callS_3 C (c_P_within C.inj _ _ _ _) wv_P_within g_24 ⟨by decide, by decide⟩ rfl (Nat.le_of_ble_eq_true rfl) e_P_trace_11 (fun v1 σ2 => ?_)
  refine s_if_eq (tgt := 29) C e_P_trace_14 rfl ?_ ?_
  · refine s_ldc C e_P_trace_29 g_321 ?_
    exact s_iret C e_P_trace_31
  · refine s_aload_n C e_P_trace_17 rfl ?_
    refine s_get C fc_6 zx_lt_0 (zx_0 _ _ _) 5 (by decide) e_P_trace_18 g_424 rfl ?_
    refine s_get C fc_0 zx_lt_18 (zx_18 _ _ _) 0 (by decide) e_P_trace_21 g_438 rfl ?_
    refine s_iload_n C e_P_trace_24 rfl ?_
    refine s_iald C zx_lt_19 zx_19 e_P_trace_25 ?_
    refine s_goto (tgt := 31) C e_P_trace_26 rfl ?_
    exact s_iret C e_P_trace_31
theorem c_P_trace {l : Launch} {D : va_G} {k : Nat → ClassId} {q : Nat → Nat} (hq : Inj ZX q)  (σ : St) (x1 : Int32) : Ct l ZX D k q yX6_trace cX6_trace 2 (some .int) 1 22 [.ref (q 0), .int x1] σ (m_P_trace σ x1) :=
  Ct_of hq lcX (by decide) (Nat.le_of_ble_eq_true rfl) (fun _ _ _ _ _ _ _ _ _ _ C => w_P_trace C σ x1)
set_option maxRecDepth 100000 in
theorem w_Rows_present_B24 {X : CX} (C : Cx X ZX RX5 cX5_present 3 (some .int) 1 21)  (r4 : St → Int32 → Int32 → Rt) (hr4 : ∀ (σ : St) (x1 : Int32) (x2 : Int32), Sm X ZX 3 (some .int) σ [(0, .ref (cq X 1)), (1, .int x1), (2, .int x2)] 4 [] (r4 σ x1 x2)) (σ : St) (x2 : Int32) (s0 : Int32) (s1 : Int32) : Sm X ZX 3 (some .int) σ [(0, .ref (cq X 1)), (2, .int x2)] 24 [.int s0, .int s1] (m_Rows_present_B24 r4 σ x2 s0 s1) := by
  unfold m_Rows_present_B24
  refine s_iadd C e_Rows_present_24 ?_
  refine s_nm (fun y1 => ?_)
  refine s_istore_n C e_Rows_present_25 (by decide) ?_
  refine s_iinc C e_Rows_present_26 (v := (1 : Int32)) rfl (by decide) ii_1 ?_
  refine s_goto (tgt := 4) C e_Rows_present_29 rfl ?_
  exact s_cut (hr4 _ _ _) ⟨rfl, rfl, rfl, trivial⟩
set_option maxRecDepth 100000 in
theorem w_Rows_present_B4 {X : CX} (C : Cx X ZX RX5 cX5_present 3 (some .int) 1 21)  (r4 : St → Int32 → Int32 → Rt) (hr4 : ∀ (σ : St) (x1 : Int32) (x2 : Int32), Sm X ZX 3 (some .int) σ [(0, .ref (cq X 1)), (1, .int x1), (2, .int x2)] 4 [] (r4 σ x1 x2)) (σ : St) (x1 : Int32) (x2 : Int32) : Sm X ZX 3 (some .int) σ [(0, .ref (cq X 1)), (1, .int x1), (2, .int x2)] 4 [] (m_Rows_present_B4 r4 σ x1 x2) := by
  unfold m_Rows_present_B4
  refine s_iload_n C e_Rows_present_4 rfl ?_
  refine s_bipush C e_Rows_present_5 (v := (8 : Int32)) bp_8 ?_
  refine s_icmp_ge (tgt := 32) C e_Rows_present_7 rfl ?_ ?_
  · refine s_iload_n C e_Rows_present_32 rfl ?_
    exact s_iret C e_Rows_present_33
  · refine s_iload_n C e_Rows_present_10 rfl ?_
    refine s_aload_n C e_Rows_present_11 rfl ?_
    refine s_iload_n C e_Rows_present_12 rfl ?_
    refine s_callV_1 C (c_Rows_isMissing C.inj _ _) wv_Rows_isMissing g_439 ⟨by decide, by decide⟩ fc_5 rfl zx_lt_1 (zx_1 _ _ _) rfl (Nat.le_of_ble_eq_true rfl) e_Rows_present_13 (fun v1 σ2 => ?_)
    refine s_if_eq (tgt := 23) C e_Rows_present_16 rfl ?_ ?_
    · refine s_iconst C e_Rows_present_23 (v := (1 : Int32)) ic_1 ?_
      exact s_cut (w_Rows_present_B24 C r4 hr4 _ _ _ _) ⟨rfl, rfl, trivial⟩
    · refine s_iconst C e_Rows_present_19 (v := (0 : Int32)) ic_0 ?_
      refine s_goto (tgt := 24) C e_Rows_present_20 rfl ?_
      exact s_cut (w_Rows_present_B24 C r4 hr4 _ _ _ _) ⟨rfl, rfl, trivial⟩
theorem w_Rows_present_L4 {X : CX} (C : Cx X ZX RX5 cX5_present 3 (some .int) 1 21)   : ∀ (n : Nat) (σ : St) (x1 : Int32) (x2 : Int32), Sm X ZX 3 (some .int) σ [(0, .ref (cq X 1)), (1, .int x1), (2, .int x2)] 4 [] (m_Rows_present_L4 n σ x1 x2)
  | 0, _, _, _ => s_none
  | n + 1, σ, x1, x2 => w_Rows_present_B4 C (m_Rows_present_L4 n) (w_Rows_present_L4 C n) σ x1 x2
set_option maxRecDepth 100000 in
theorem w_Rows_present {X : CX} (C : Cx X ZX RX5 cX5_present 3 (some .int) 1 21)  (σ : St)  : Sm X ZX 3 (some .int) σ [(0, .ref (cq X 1))] 0 [] (m_Rows_present σ) := by
  unfold m_Rows_present
  refine s_iconst C e_Rows_present_0 (v := (0 : Int32)) ic_0 ?_
  refine s_istore_n C e_Rows_present_1 (by decide) ?_
  refine s_iconst C e_Rows_present_2 (v := (0 : Int32)) ic_0 ?_
  refine s_istore_n C e_Rows_present_3 (by decide) ?_
  exact s_cut (w_Rows_present_L4 C FU _ _ _) ⟨rfl, rfl, rfl, trivial⟩
theorem c_Rows_present {l : Launch} {D : va_G} {k : Nat → ClassId} {q : Nat → Nat} (hq : Inj ZX q)  (σ : St)  : Ct l ZX D k q yX5_present cX5_present 3 (some .int) 1 21 [.ref (q 1)] σ (m_Rows_present σ) :=
  Ct_of hq lcX (by decide) (Nat.le_of_ble_eq_true rfl) (fun _ _ _ _ _ _ _ _ _ _ C => w_Rows_present C σ)
set_option maxRecDepth 100000 in
theorem w_P_count {X : CX} (C : Cx X ZX RX6 cX6_count 2 (some .int) 2 43)  (σ : St) (x1 : Int32) : Sm X ZX 2 (some .int) σ [(0, .ref (cq X 0)), (1, .int x1)] 0 [] (m_P_count σ x1) := by
  unfold m_P_count
  refine s_iload_n C e_P_count_0 rfl ?_
  refine s_split (fun h1_0 => ?_) (fun h1_0 => ?_)
  · refine s_tabI (v := (0 : Int32)) (off := 55) (tgt := 56) C h1_0 e_P_count_1 (by decide) (by decide) rfl rfl ?_
    refine s_aload_n C e_P_count_56 rfl ?_
    refine s_get C fc_6 zx_lt_0 (zx_0 _ _ _) 0 (by decide) e_P_count_57 g_9 rfl ?_
    refine s_callV_0 C (c_Rows_present C.inj _) wv_Rows_present g_440 ⟨by decide, by decide⟩ fc_5 rfl zx_lt_1 (zx_1 _ _ _) rfl (Nat.le_of_ble_eq_true rfl) e_P_count_60 (fun v1 σ2 => ?_)
    exact s_iret C e_P_count_63
  · skip
    refine s_split (fun h1_1 => ?_) (fun h1_1 => ?_)
    · refine s_tabI (v := (1 : Int32)) (off := 63) (tgt := 64) C h1_1 e_P_count_1 (by decide) (by decide) rfl rfl ?_
      refine s_aload_n C e_P_count_64 rfl ?_
      refine s_get C fc_6 zx_lt_0 (zx_0 _ _ _) 2 (by decide) e_P_count_65 g_142 rfl ?_
      refine s_get C fc_1 (zb_lt hb21) (zb hb21 _ _ _) 0 (by decide) e_P_count_68 g_315 rfl ?_
      exact s_iret C e_P_count_71
    · skip
      refine s_split (fun h1_2 => ?_) (fun h1_2 => ?_)
      · refine s_tabI (v := (2 : Int32)) (off := 71) (tgt := 72) C h1_2 e_P_count_1 (by decide) (by decide) rfl rfl ?_
        refine s_aload_n C e_P_count_72 rfl ?_
        refine s_get C fc_6 zx_lt_0 (zx_0 _ _ _) 2 (by decide) e_P_count_73 g_142 rfl ?_
        refine s_get C fc_1 (zb_lt hb21) (zb hb21 _ _ _) 1 (by decide) e_P_count_76 g_144 rfl ?_
        exact s_iret C e_P_count_79
      · skip
        refine s_split (fun h1_3 => ?_) (fun h1_3 => ?_)
        · refine s_tabI (v := (3 : Int32)) (off := 79) (tgt := 80) C h1_3 e_P_count_1 (by decide) (by decide) rfl rfl ?_
          refine s_aload_n C e_P_count_80 rfl ?_
          refine s_get C fc_6 zx_lt_0 (zx_0 _ _ _) 2 (by decide) e_P_count_81 g_142 rfl ?_
          refine s_get C fc_1 (zb_lt hb21) (zb hb21 _ _ _) 3 (by decide) e_P_count_84 g_213 rfl ?_
          exact s_iret C e_P_count_87
        · skip
          refine s_split (fun h1_4 => ?_) (fun h1_4 => ?_)
          · refine s_tabI (v := (4 : Int32)) (off := 87) (tgt := 88) C h1_4 e_P_count_1 (by decide) (by decide) rfl rfl ?_
            refine s_aload_n C e_P_count_88 rfl ?_
            refine s_get C fc_6 zx_lt_0 (zx_0 _ _ _) 2 (by decide) e_P_count_89 g_142 rfl ?_
            refine s_get C fc_1 (zb_lt hb21) (zb hb21 _ _ _) 5 (by decide) e_P_count_92 g_227 rfl ?_
            refine s_if_eq (tgt := 102) C e_P_count_95 rfl ?_ ?_
            · refine s_iconst C e_P_count_102 (v := (0 : Int32)) ic_0 ?_
              exact s_iret C e_P_count_103
            · refine s_iconst C e_P_count_98 (v := (1 : Int32)) ic_1 ?_
              refine s_goto (tgt := 103) C e_P_count_99 rfl ?_
              exact s_iret C e_P_count_103
          · skip
            refine s_split (fun h1_5 => ?_) (fun h1_5 => ?_)
            · refine s_tabI (v := (5 : Int32)) (off := 103) (tgt := 104) C h1_5 e_P_count_1 (by decide) (by decide) rfl rfl ?_
              refine s_aload_n C e_P_count_104 rfl ?_
              refine s_get C fc_6 zx_lt_0 (zx_0 _ _ _) 2 (by decide) e_P_count_105 g_142 rfl ?_
              refine s_get C fc_1 (zb_lt hb21) (zb hb21 _ _ _) 2 (by decide) e_P_count_108 g_239 rfl ?_
              exact s_iret C e_P_count_111
            · skip
              refine s_split (fun h1_6 => ?_) (fun h1_6 => ?_)
              · refine s_tabI (v := (6 : Int32)) (off := 111) (tgt := 112) C h1_6 e_P_count_1 (by decide) (by decide) rfl rfl ?_
                refine s_aload_n C e_P_count_112 rfl ?_
                refine s_get C fc_6 zx_lt_0 (zx_0 _ _ _) 2 (by decide) e_P_count_113 g_142 rfl ?_
                refine s_get C fc_1 (zb_lt hb21) (zb hb21 _ _ _) 4 (by decide) e_P_count_116 g_260 rfl ?_
                exact s_iret C e_P_count_119
              · skip
                refine s_split (fun h1_7 => ?_) (fun h1_7 => ?_)
                · refine s_tabI (v := (7 : Int32)) (off := 119) (tgt := 120) C h1_7 e_P_count_1 (by decide) (by decide) rfl rfl ?_
                  refine s_aload_n C e_P_count_120 rfl ?_
                  refine s_get C fc_6 zx_lt_0 (zx_0 _ _ _) 2 (by decide) e_P_count_121 g_142 rfl ?_
                  refine s_callV_0 C (c_Board_pinsInTray C.inj hb21 _) wv_Board_pinsInTray g_444 ⟨by decide, by decide⟩ fc_1 rfl (zb_lt hb21) (zb hb21 _ _ _) rfl (Nat.le_of_ble_eq_true rfl) e_P_count_124 (fun v3 σ4 => ?_)
                  exact s_iret C e_P_count_127
                · skip
                  refine s_split (fun h1_8 => ?_) (fun h1_8 => ?_)
                  · refine s_tabI (v := (8 : Int32)) (off := 127) (tgt := 128) C h1_8 e_P_count_1 (by decide) (by decide) rfl rfl ?_
                    refine s_aload_n C e_P_count_128 rfl ?_
                    refine s_get C fc_6 zx_lt_0 (zx_0 _ _ _) 4 (by decide) e_P_count_129 g_143 rfl ?_
                    refine s_get C fc_3 zx_lt_16 (zx_16 _ _ _) 0 (by decide) e_P_count_132 g_240 rfl ?_
                    exact s_iret C e_P_count_135
                  · skip
                    refine s_split (fun h1_9 => ?_) (fun h1_9 => ?_)
                    · refine s_tabI (v := (9 : Int32)) (off := 135) (tgt := 136) C h1_9 e_P_count_1 (by decide) (by decide) rfl rfl ?_
                      refine s_aload_n C e_P_count_136 rfl ?_
                      refine s_get C fc_6 zx_lt_0 (zx_0 _ _ _) 1 (by decide) e_P_count_137 g_50 rfl ?_
                      refine s_get C fc_4 zx_lt_13 (zx_13 _ _ _) 1 (by decide) e_P_count_140 g_51 rfl ?_
                      exact s_iret C e_P_count_143
                    · skip
                      have hx : x1.toInt < 0 ∨ 9 < x1.toInt := by
                        have q0 := ne_i (z := 0) rfl h1_0
                        have q1 := ne_i (z := 1) rfl h1_1
                        have q2 := ne_i (z := 2) rfl h1_2
                        have q3 := ne_i (z := 3) rfl h1_3
                        have q4 := ne_i (z := 4) rfl h1_4
                        have q5 := ne_i (z := 5) rfl h1_5
                        have q6 := ne_i (z := 6) rfl h1_6
                        have q7 := ne_i (z := 7) rfl h1_7
                        have q8 := ne_i (z := 8) rfl h1_8
                        have q9 := ne_i (z := 9) rfl h1_9
                        omega
                      refine s_tabO (tgt := 144) C e_P_count_1 hx rfl ?_
                      refine s_ldc C e_P_count_144 g_10 ?_
                      exact s_iret C e_P_count_146
theorem c_P_count {l : Launch} {D : va_G} {k : Nat → ClassId} {q : Nat → Nat} (hq : Inj ZX q)  (σ : St) (x1 : Int32) : Ct l ZX D k q yX6_count cX6_count 2 (some .int) 2 43 [.ref (q 0), .int x1] σ (m_P_count σ x1) :=
  Ct_of hq lcX (by decide) (Nat.le_of_ble_eq_true rfl) (fun _ _ _ _ _ _ _ _ _ _ C => w_P_count C σ x1)
set_option maxRecDepth 100000 in
theorem w_P_status {X : CX} (C : Cx X ZX RX6 cX6_status 1 (some .int) 0 0)  (σ : St)  : Sm X ZX 1 (some .int) σ [(0, .ref (cq X 0))] 0 [] (m_P_status σ) := by
  unfold m_P_status
  refine s_aload_n C e_P_status_0 rfl ?_
  refine s_get C fc_6 zx_lt_0 (zx_0 _ _ _) 7 (by decide) e_P_status_1 g_4 rfl ?_
  exact s_iret C e_P_status_4
theorem c_P_status {l : Launch} {D : va_G} {k : Nat → ClassId} {q : Nat → Nat} (hq : Inj ZX q)  (σ : St)  : Ct l ZX D k q yX6_status cX6_status 1 (some .int) 0 0 [.ref (q 0)] σ (m_P_status σ) :=
  Ct_of hq lcX (by decide) (Nat.le_of_ble_eq_true rfl) (fun _ _ _ _ _ _ _ _ _ _ C => w_P_status C σ)
set_option maxRecDepth 100000 in
theorem w_M_in {X : CX} (C : Cx X ZM RX7 cX7_in 3 (some .boolean) 0 0)  (σ : St) (x0 : Int32) (x1 : Int32) (x2 : Int32) : Sm X ZM 3 (some .boolean) σ [(0, .int x0), (1, .int x1), (2, .int x2)] 0 [] (m_M_in σ x0 x1 x2) := by
  unfold m_M_in
  refine s_iload_n C e_M_in_0 rfl ?_
  refine s_iload_n C e_M_in_1 rfl ?_
  refine s_icmp_lt (tgt := 14) C e_M_in_2 rfl ?_ ?_
  · refine s_iconst C e_M_in_14 (v := (0 : Int32)) ic_0 ?_
    exact s_zret C e_M_in_15
  · refine s_iload_n C e_M_in_5 rfl ?_
    refine s_iload_n C e_M_in_6 rfl ?_
    refine s_icmp_gt (tgt := 14) C e_M_in_7 rfl ?_ ?_
    · refine s_iconst C e_M_in_14 (v := (0 : Int32)) ic_0 ?_
      exact s_zret C e_M_in_15
    · refine s_iconst C e_M_in_10 (v := (1 : Int32)) ic_1 ?_
      refine s_goto (tgt := 15) C e_M_in_11 rfl ?_
      exact s_zret C e_M_in_15
theorem c_M_in {l : Launch} {D : va_G} {k : Nat → ClassId} {q : Nat → Nat} (hq : Inj ZM q)  (σ : St) (x0 : Int32) (x1 : Int32) (x2 : Int32) : Ct l ZM D k q yX7_in cX7_in 3 (some .boolean) 0 0 [.int x0, .int x1, .int x2] σ (m_M_in σ x0 x1 x2) :=
  Ct_of hq lcM (by decide) (Nat.le_of_ble_eq_true rfl) (fun _ _ _ _ _ _ _ _ _ _ C => w_M_in C σ x0 x1 x2)
set_option maxRecDepth 100000 in
theorem w_M_has {X : CX} (C : Cx X ZM RX7 cX7_has 2 (some .boolean) 0 0)  (σ : St) (x0 : Int32) (x1 : Int32) : Sm X ZM 2 (some .boolean) σ [(0, .int x0), (1, .int x1)] 0 [] (m_M_has σ x0 x1) := by
  unfold m_M_has
  refine s_iload_n C e_M_has_0 rfl ?_
  refine s_iload_n C e_M_has_1 rfl ?_
  refine s_ishr C e_M_has_2 ?_
  refine s_iconst C e_M_has_3 (v := (1 : Int32)) ic_1 ?_
  refine s_iand C e_M_has_4 ?_
  refine s_iconst C e_M_has_5 (v := (1 : Int32)) ic_1 ?_
  refine s_icmp_ne (tgt := 13) C e_M_has_6 rfl ?_ ?_
  · refine s_iconst C e_M_has_9 (v := (1 : Int32)) ic_1 ?_
    refine s_goto (tgt := 14) C e_M_has_10 rfl ?_
    exact s_zret C e_M_has_14
  · refine s_iconst C e_M_has_13 (v := (0 : Int32)) ic_0 ?_
    exact s_zret C e_M_has_14
theorem c_M_has {l : Launch} {D : va_G} {k : Nat → ClassId} {q : Nat → Nat} (hq : Inj ZM q)  (σ : St) (x0 : Int32) (x1 : Int32) : Ct l ZM D k q yX7_has cX7_has 2 (some .boolean) 0 0 [.int x0, .int x1] σ (m_M_has σ x0 x1) :=
  Ct_of hq lcM (by decide) (Nat.le_of_ble_eq_true rfl) (fun _ _ _ _ _ _ _ _ _ _ C => w_M_has C σ x0 x1)
set_option maxRecDepth 100000 in
theorem w_M_ones_B4 {X : CX} (C : Cx X ZM RX7 cX7_ones 3 (some .int) 0 0)  (r4 : St → Int32 → Int32 → Int32 → Rt) (hr4 : ∀ (σ : St) (x0 : Int32) (x1 : Int32) (x2 : Int32), Sm X ZM 3 (some .int) σ [(0, .int x0), (1, .int x1), (2, .int x2)] 4 [] (r4 σ x0 x1 x2)) (σ : St) (x0 : Int32) (x1 : Int32) (x2 : Int32) : Sm X ZM 3 (some .int) σ [(0, .int x0), (1, .int x1), (2, .int x2)] 4 [] (m_M_ones_B4 r4 σ x0 x1 x2) := by
  unfold m_M_ones_B4
  refine s_iload_n C e_M_ones_4 rfl ?_
  refine s_bipush C e_M_ones_5 (v := (16 : Int32)) bp_16 ?_
  refine s_icmp_ge (tgt := 24) C e_M_ones_7 rfl ?_ ?_
  · refine s_iload_n C e_M_ones_24 rfl ?_
    exact s_iret C e_M_ones_25
  · refine s_iload_n C e_M_ones_10 rfl ?_
    refine s_iload_n C e_M_ones_11 rfl ?_
    refine s_iload_n C e_M_ones_12 rfl ?_
    refine s_ishr C e_M_ones_13 ?_
    refine s_iconst C e_M_ones_14 (v := (1 : Int32)) ic_1 ?_
    refine s_iand C e_M_ones_15 ?_
    refine s_iadd C e_M_ones_16 ?_
    refine s_nm (fun y1 => ?_)
    refine s_istore_n C e_M_ones_17 (by decide) ?_
    refine s_iinc C e_M_ones_18 (v := (1 : Int32)) rfl (by decide) ii_1 ?_
    refine s_goto (tgt := 4) C e_M_ones_21 rfl ?_
    exact s_cut (hr4 _ _ _ _) ⟨rfl, rfl, rfl, trivial⟩
theorem w_M_ones_L4 {X : CX} (C : Cx X ZM RX7 cX7_ones 3 (some .int) 0 0)   : ∀ (n : Nat) (σ : St) (x0 : Int32) (x1 : Int32) (x2 : Int32), Sm X ZM 3 (some .int) σ [(0, .int x0), (1, .int x1), (2, .int x2)] 4 [] (m_M_ones_L4 n σ x0 x1 x2)
  | 0, _, _, _, _ => s_none
  | n + 1, σ, x0, x1, x2 => w_M_ones_B4 C (m_M_ones_L4 n) (w_M_ones_L4 C n) σ x0 x1 x2
set_option maxRecDepth 100000 in
theorem w_M_ones {X : CX} (C : Cx X ZM RX7 cX7_ones 3 (some .int) 0 0)  (σ : St) (x0 : Int32) : Sm X ZM 3 (some .int) σ [(0, .int x0)] 0 [] (m_M_ones σ x0) := by
  unfold m_M_ones
  refine s_iconst C e_M_ones_0 (v := (0 : Int32)) ic_0 ?_
  refine s_istore_n C e_M_ones_1 (by decide) ?_
  refine s_iconst C e_M_ones_2 (v := (0 : Int32)) ic_0 ?_
  refine s_istore_n C e_M_ones_3 (by decide) ?_
  exact s_cut (w_M_ones_L4 C FU _ _ _ _) ⟨rfl, rfl, rfl, trivial⟩
theorem c_M_ones {l : Launch} {D : va_G} {k : Nat → ClassId} {q : Nat → Nat} (hq : Inj ZM q)  (σ : St) (x0 : Int32) : Ct l ZM D k q yX7_ones cX7_ones 3 (some .int) 0 0 [.int x0] σ (m_M_ones σ x0) :=
  Ct_of hq lcM (by decide) (Nat.le_of_ble_eq_true rfl) (fun _ _ _ _ _ _ _ _ _ _ C => w_M_ones C σ x0)
set_option maxRecDepth 100000 in
theorem w_M_found {X : CX} (C : Cx X ZM RX7 cX7_found 2 (some .int) 0 0)  (σ : St) (x1 : Int32) : Sm X ZM 2 (some .int) σ [(0, .ref (cq X 0)), (1, .int x1)] 0 [] (m_M_found σ x1) := by
  unfold m_M_found
  refine s_aload_n C e_M_found_0 rfl ?_
  refine s_iload_n C e_M_found_1 rfl ?_
  refine s_put C fc_7 zm_lt_0 (zm_0 _ _ _) 4 (by decide) (zmp_4 _ _ _ _) (Nat.le_of_ble_eq_true rfl) e_M_found_2 g_445 rfl rfl (fun σ1 => ?_)
  refine s_ldc C e_M_found_5 g_446 ?_
  refine s_iload_n C e_M_found_7 rfl ?_
  refine s_isub C e_M_found_8 ?_
  exact s_iret C e_M_found_9
theorem c_M_found {l : Launch} {D : va_G} {k : Nat → ClassId} {q : Nat → Nat} (hq : Inj ZM q)  (σ : St) (x1 : Int32) : Ct l ZM D k q yX7_found cX7_found 2 (some .int) 0 0 [.ref (q 0), .int x1] σ (m_M_found σ x1) :=
  Ct_of hq lcM (by decide) (Nat.le_of_ble_eq_true rfl) (fun _ _ _ _ _ _ _ _ _ _ C => w_M_found C σ x1)
set_option maxRecDepth 100000 in
theorem w_M_well {X : CX} (C : Cx X ZM RX7 cX7_well 2 (some .int) 0 0)  (σ : St) (x1 : Int32) : Sm X ZM 2 (some .int) σ [(0, .ref (cq X 0)), (1, .int x1)] 0 [] (m_M_well σ x1) := by
  unfold m_M_well
  refine s_aload_n C e_M_well_0 rfl ?_
  refine s_iconst C e_M_well_1 (v := (0 : Int32)) ic_0 ?_
  refine s_put C fc_7 zm_lt_0 (zm_0 _ _ _) 4 (by decide) (zmp_4 _ _ _ _) (Nat.le_of_ble_eq_true rfl) e_M_well_2 g_445 rfl rfl (fun σ1 => ?_)
  refine s_iload_n C e_M_well_5 rfl ?_
  exact s_iret C e_M_well_6
theorem c_M_well {l : Launch} {D : va_G} {k : Nat → ClassId} {q : Nat → Nat} (hq : Inj ZM q)  (σ : St) (x1 : Int32) : Ct l ZM D k q yX7_well cX7_well 2 (some .int) 0 0 [.ref (q 0), .int x1] σ (m_M_well σ x1) :=
  Ct_of hq lcM (by decide) (Nat.le_of_ble_eq_true rfl) (fun _ _ _ _ _ _ _ _ _ _ C => w_M_well C σ x1)
set_option maxRecDepth 100000 in
theorem w_M_copies_B3 {X : CX} (C : Cx X ZM RX7 cX7_copies 5 none 0 0) {w1 : Nat} (hw1 : isA w1) {w2 : Nat} (hw2 : isA w2) (r3 : St → Int32 → Int32 → Int32 → Rt) (hr3 : ∀ (σ : St) (x1 : Int32) (x3 : Int32) (x4 : Int32), Sm X ZM 5 none σ [(0, .ref (cq X w1)), (1, .int x1), (2, .ref (cq X w2)), (3, .int x3), (4, .int x4)] 3 [] (r3 σ x1 x3 x4)) (σ : St) (x1 : Int32) (x3 : Int32) (x4 : Int32) : Sm X ZM 5 none σ [(0, .ref (cq X w1)), (1, .int x1), (2, .ref (cq X w2)), (3, .int x3), (4, .int x4)] 3 [] (m_M_copies_B3 w1 w2 r3 σ x1 x3 x4) := by
  unfold m_M_copies_B3
  refine s_iload C e_M_copies_3 rfl ?_
  refine s_bipush C e_M_copies_5 (v := (64 : Int32)) bp_64 ?_
  refine s_icmp_ge (tgt := 28) C e_M_copies_7 rfl ?_ ?_
  · exact s_vret C e_M_copies_28
  · refine s_aload_n C e_M_copies_10 rfl ?_
    refine s_iload_n C e_M_copies_11 rfl ?_
    refine s_iload C e_M_copies_12 rfl ?_
    refine s_iadd C e_M_copies_14 ?_
    refine s_aload_n C e_M_copies_15 rfl ?_
    refine s_iload_n C e_M_copies_16 rfl ?_
    refine s_iload C e_M_copies_17 rfl ?_
    refine s_iadd C e_M_copies_19 ?_
    refine s_iald C (za_lt hw1) (za hw1) e_M_copies_20 ?_
    refine s_iast C (za_lt hw2) (za hw2) e_M_copies_21 (fun σ1 => ?_)
    refine s_iinc C e_M_copies_22 (v := (1 : Int32)) rfl (by decide) ii_1 ?_
    refine s_goto (tgt := 3) C e_M_copies_25 rfl ?_
    exact s_cut (hr3 _ _ _ _) ⟨rfl, rfl, rfl, rfl, rfl, trivial⟩
theorem w_M_copies_L3 {X : CX} (C : Cx X ZM RX7 cX7_copies 5 none 0 0) {w1 : Nat} (hw1 : isA w1) {w2 : Nat} (hw2 : isA w2)  : ∀ (n : Nat) (σ : St) (x1 : Int32) (x3 : Int32) (x4 : Int32), Sm X ZM 5 none σ [(0, .ref (cq X w1)), (1, .int x1), (2, .ref (cq X w2)), (3, .int x3), (4, .int x4)] 3 [] (m_M_copies_L3 w1 w2 n σ x1 x3 x4)
  | 0, _, _, _, _ => s_none
  | n + 1, σ, x1, x3, x4 => w_M_copies_B3 C hw1 hw2 (m_M_copies_L3 w1 w2 n) (w_M_copies_L3 C hw1 hw2 n) σ x1 x3 x4
set_option maxRecDepth 100000 in
theorem w_M_copies {X : CX} (C : Cx X ZM RX7 cX7_copies 5 none 0 0) {w1 : Nat} (hw1 : isA w1) {w2 : Nat} (hw2 : isA w2) (σ : St) (x1 : Int32) (x3 : Int32) : Sm X ZM 5 none σ [(0, .ref (cq X w1)), (1, .int x1), (2, .ref (cq X w2)), (3, .int x3)] 0 [] (m_M_copies w1 w2 σ x1 x3) := by
  unfold m_M_copies
  refine s_iconst C e_M_copies_0 (v := (0 : Int32)) ic_0 ?_
  refine s_istore C e_M_copies_1 (by decide) ?_
  exact s_cut (w_M_copies_L3 C hw1 hw2 FU _ _ _ _) ⟨rfl, rfl, rfl, rfl, rfl, trivial⟩
theorem c_M_copies {l : Launch} {D : va_G} {k : Nat → ClassId} {q : Nat → Nat} (hq : Inj ZM q) {w1 : Nat} (hw1 : isA w1) {w2 : Nat} (hw2 : isA w2) (σ : St) (x1 : Int32) (x3 : Int32) : Ct l ZM D k q yX7_copies cX7_copies 5 none 0 0 [.ref (q w1), .int x1, .ref (q w2), .int x3] σ (m_M_copies w1 w2 σ x1 x3) :=
  Ct_of hq lcM (by decide) (Nat.le_of_ble_eq_true rfl) (fun _ _ _ _ _ _ _ _ _ _ C => w_M_copies C hw1 hw2 σ x1 x3)
set_option maxRecDepth 100000 in
theorem w_M_isRow {X : CX} (C : Cx X ZM RX7 cX7_isRow 1 (some .boolean) 1 22)  (σ : St) (x0 : Int32) : Sm X ZM 1 (some .boolean) σ [(0, .int x0)] 0 [] (m_M_isRow σ x0) := by
  unfold m_M_isRow
  refine s_iload_n C e_M_isRow_0 rfl ?_
  refine s_iconst C e_M_isRow_1 (v := (0 : Int32)) ic_0 ?_
  refine s_bipush C e_M_isRow_2 (v := (7 : Int32)) bp_7 ?_
  refine s_callS_3 C (c_M_in C.inj _ _ _ _) wv_M_in g_447 ⟨by decide, by decide⟩ rfl (Nat.le_of_ble_eq_true rfl) e_M_isRow_4 (fun v1 σ2 => ?_)
  exact s_zret C e_M_isRow_7
theorem c_M_isRow {l : Launch} {D : va_G} {k : Nat → ClassId} {q : Nat → Nat} (hq : Inj ZM q)  (σ : St) (x0 : Int32) : Ct l ZM D k q yX7_isRow cX7_isRow 1 (some .boolean) 1 22 [.int x0] σ (m_M_isRow σ x0) :=
  Ct_of hq lcM (by decide) (Nat.le_of_ble_eq_true rfl) (fun _ _ _ _ _ _ _ _ _ _ C => w_M_isRow C σ x0)
set_option maxRecDepth 100000 in
theorem w_M_isMissing {X : CX} (C : Cx X ZM RX7 cX7_isMissing 2 (some .boolean) 0 0)  (σ : St) (x1 : Int32) : Sm X ZM 2 (some .boolean) σ [(0, .ref (cq X 0)), (1, .int x1)] 0 [] (m_M_isMissing σ x1) := by
  unfold m_M_isMissing
  refine s_aload_n C e_M_isMissing_0 rfl ?_
  refine s_get C fc_7 zm_lt_0 (zm_0 _ _ _) 0 (by decide) e_M_isMissing_1 g_451 rfl ?_
  refine s_iload_n C e_M_isMissing_4 rfl ?_
  refine s_iald C (za_lt isA1) (za isA1) e_M_isMissing_5 ?_
  refine s_ldc C e_M_isMissing_6 g_452 ?_
  refine s_icmp_ne (tgt := 15) C e_M_isMissing_8 rfl ?_ ?_
  · refine s_iconst C e_M_isMissing_11 (v := (1 : Int32)) ic_1 ?_
    refine s_goto (tgt := 16) C e_M_isMissing_12 rfl ?_
    exact s_zret C e_M_isMissing_16
  · refine s_iconst C e_M_isMissing_15 (v := (0 : Int32)) ic_0 ?_
    exact s_zret C e_M_isMissing_16
theorem c_M_isMissing {l : Launch} {D : va_G} {k : Nat → ClassId} {q : Nat → Nat} (hq : Inj ZM q)  (σ : St) (x1 : Int32) : Ct l ZM D k q yX7_isMissing cX7_isMissing 2 (some .boolean) 0 0 [.ref (q 0), .int x1] σ (m_M_isMissing σ x1) :=
  Ct_of hq lcM (by decide) (Nat.le_of_ble_eq_true rfl) (fun _ _ _ _ _ _ _ _ _ _ C => w_M_isMissing C σ x1)
set_option maxRecDepth 100000 in
theorem w_M_cut {X : CX} (C : Cx X ZM RX7 cX7_cut 2 (some .int) 0 0)  (σ : St) (x0 : Int32) (x1 : Int32) : Sm X ZM 2 (some .int) σ [(0, .int x0), (1, .int x1)] 0 [] (m_M_cut σ x0 x1) := by
  unfold m_M_cut
  refine s_iload_n C e_M_cut_0 rfl ?_
  refine s_if_ne (tgt := 14) C e_M_cut_1 rfl ?_ ?_
  · refine s_iload_n C e_M_cut_4 rfl ?_
    refine s_bipush C e_M_cut_5 (v := (24 : Int32)) bp_24 ?_
    refine s_ishl C e_M_cut_7 ?_
    refine s_bipush C e_M_cut_8 (v := (24 : Int32)) bp_24 ?_
    refine s_ishr C e_M_cut_10 ?_
    refine s_goto (tgt := 30) C e_M_cut_11 rfl ?_
    exact s_iret C e_M_cut_30
  · refine s_iload_n C e_M_cut_14 rfl ?_
    refine s_iconst C e_M_cut_15 (v := (1 : Int32)) ic_1 ?_
    refine s_icmp_ne (tgt := 29) C e_M_cut_16 rfl ?_ ?_
    · refine s_iload_n C e_M_cut_19 rfl ?_
      refine s_bipush C e_M_cut_20 (v := (16 : Int32)) bp_16 ?_
      refine s_ishl C e_M_cut_22 ?_
      refine s_bipush C e_M_cut_23 (v := (16 : Int32)) bp_16 ?_
      refine s_ishr C e_M_cut_25 ?_
      refine s_goto (tgt := 30) C e_M_cut_26 rfl ?_
      exact s_iret C e_M_cut_30
    · refine s_iload_n C e_M_cut_29 rfl ?_
      exact s_iret C e_M_cut_30
theorem c_M_cut {l : Launch} {D : va_G} {k : Nat → ClassId} {q : Nat → Nat} (hq : Inj ZM q)  (σ : St) (x0 : Int32) (x1 : Int32) : Ct l ZM D k q yX7_cut cX7_cut 2 (some .int) 0 0 [.int x0, .int x1] σ (m_M_cut σ x0 x1) :=
  Ct_of hq lcM (by decide) (Nat.le_of_ble_eq_true rfl) (fun _ _ _ _ _ _ _ _ _ _ C => w_M_cut C σ x0 x1)
set_option maxRecDepth 100000 in
theorem w_M_row_B78 {X : CX} (C : Cx X ZM RX7 cX7_row 5 (some .int) 2 42)   (σ : St) (x3 : Int32) : Sm X ZM 5 (some .int) σ [(0, .ref (cq X 0)), (3, .int x3)] 78 [] (m_M_row_B78 σ x3) := by
  unfold m_M_row_B78
  refine s_aload_n C e_M_row_78 rfl ?_
  refine s_iload_n C e_M_row_79 rfl ?_
  refine s_callV_1 C (c_M_well C.inj _ _) wv_M_well g_463 ⟨by decide, by decide⟩ fc_7 rfl zm_lt_0 (zm_0 _ _ _) rfl (Nat.le_of_ble_eq_true rfl) e_M_row_80 (fun v1 σ2 => ?_)
  exact s_iret C e_M_row_83
set_option maxRecDepth 100000 in
theorem w_M_row_B52 {X : CX} (C : Cx X ZM RX7 cX7_row 5 (some .int) 2 42)  (r52 : St → Int32 → Int32 → Int32 → Rt) (hr52 : ∀ (σ : St) (x1 : Int32) (x3 : Int32) (x4 : Int32), Sm X ZM 5 (some .int) σ [(0, .ref (cq X 0)), (1, .int x1), (3, .int x3), (4, .int x4)] 52 [] (r52 σ x1 x3 x4)) (σ : St) (x1 : Int32) (x3 : Int32) (x4 : Int32) : Sm X ZM 5 (some .int) σ [(0, .ref (cq X 0)), (1, .int x1), (3, .int x3), (4, .int x4)] 52 [] (m_M_row_B52 r52 σ x1 x3 x4) := by
  unfold m_M_row_B52
  refine s_iload C e_M_row_52 rfl ?_
  refine s_bipush C e_M_row_54 (v := (40 : Int32)) bp_40 ?_
  refine s_icmp_ge (tgt := 78) C e_M_row_56 rfl ?_ ?_
  · exact s_cut (w_M_row_B78 C _ _) ⟨rfl, rfl, trivial⟩
  · refine s_aload_n C e_M_row_59 rfl ?_
    refine s_get C fc_7 zm_lt_0 (zm_0 _ _ _) 2 (by decide) e_M_row_60 g_462 rfl ?_
    refine s_bipush C e_M_row_63 (v := (40 : Int32)) bp_40 ?_
    refine s_iload_n C e_M_row_65 rfl ?_
    refine s_imul C e_M_row_66 ?_
    refine s_iload C e_M_row_67 rfl ?_
    refine s_iadd C e_M_row_69 ?_
    refine s_iconst C e_M_row_70 (v := (0 : Int32)) ic_0 ?_
    refine s_iast C (za_lt isA3) (za isA3) e_M_row_71 (fun σ1 => ?_)
    refine s_iinc C e_M_row_72 (v := (1 : Int32)) rfl (by decide) ii_1 ?_
    refine s_goto (tgt := 52) C e_M_row_75 rfl ?_
    exact s_cut (hr52 _ _ _ _) ⟨rfl, rfl, rfl, rfl, trivial⟩
theorem w_M_row_L52 {X : CX} (C : Cx X ZM RX7 cX7_row 5 (some .int) 2 42)   : ∀ (n : Nat) (σ : St) (x1 : Int32) (x3 : Int32) (x4 : Int32), Sm X ZM 5 (some .int) σ [(0, .ref (cq X 0)), (1, .int x1), (3, .int x3), (4, .int x4)] 52 [] (m_M_row_L52 n σ x1 x3 x4)
  | 0, _, _, _, _ => s_none
  | n + 1, σ, x1, x3, x4 => w_M_row_B52 C (m_M_row_L52 n) (w_M_row_L52 C n) σ x1 x3 x4
set_option maxRecDepth 100000 in
theorem w_M_row {X : CX} (C : Cx X ZM RX7 cX7_row 5 (some .int) 2 42)  (σ : St) (x1 : Int32) (x2 : Int32) (x3 : Int32) : Sm X ZM 5 (some .int) σ [(0, .ref (cq X 0)), (1, .int x1), (2, .int x2), (3, .int x3)] 0 [] (m_M_row σ x1 x2 x3) := by
  unfold m_M_row
  refine s_iload_n C e_M_row_0 rfl ?_
  refine s_callS_1 C (c_M_isRow C.inj _ _) wv_M_isRow g_459 ⟨by decide, by decide⟩ rfl (Nat.le_of_ble_eq_true rfl) e_M_row_1 (fun v1 σ2 => ?_)
  refine s_if_eq (tgt := 22) C e_M_row_4 rfl ?_ ?_
  · refine s_ldc C e_M_row_22 g_453 ?_
    exact s_iret C e_M_row_24
  · refine s_iload_n C e_M_row_7 rfl ?_
    refine s_iconst C e_M_row_8 (v := (0 : Int32)) ic_0 ?_
    refine s_iconst C e_M_row_9 (v := (2 : Int32)) ic_2 ?_
    refine s_callS_3 C (c_M_in C.inj _ _ _ _) wv_M_in g_447 ⟨by decide, by decide⟩ rfl (Nat.le_of_ble_eq_true rfl) e_M_row_10 (fun v3 σ4 => ?_)
    refine s_if_eq (tgt := 22) C e_M_row_13 rfl ?_ ?_
    · refine s_ldc C e_M_row_22 g_453 ?_
      exact s_iret C e_M_row_24
    · refine s_iload_n C e_M_row_16 rfl ?_
      refine s_bipush C e_M_row_17 (v := (40 : Int32)) bp_40 ?_
      refine s_icmp_le (tgt := 25) C e_M_row_19 rfl ?_ ?_
      · refine s_iload_n C e_M_row_25 rfl ?_
        refine s_if_ge (tgt := 35) C e_M_row_26 rfl ?_ ?_
        · refine s_aload_n C e_M_row_35 rfl ?_
          refine s_get C fc_7 zm_lt_0 (zm_0 _ _ _) 0 (by decide) e_M_row_36 g_451 rfl ?_
          refine s_iload_n C e_M_row_39 rfl ?_
          refine s_iload_n C e_M_row_40 rfl ?_
          refine s_iast C (za_lt isA1) (za isA1) e_M_row_41 (fun σ5 => ?_)
          refine s_aload_n C e_M_row_42 rfl ?_
          refine s_get C fc_7 zm_lt_0 (zm_0 _ _ _) 1 (by decide) e_M_row_43 g_454 rfl ?_
          refine s_iload_n C e_M_row_46 rfl ?_
          refine s_iload_n C e_M_row_47 rfl ?_
          refine s_iast C (za_lt isA2) (za isA2) e_M_row_48 (fun σ6 => ?_)
          refine s_iconst C e_M_row_49 (v := (0 : Int32)) ic_0 ?_
          refine s_istore C e_M_row_50 (by decide) ?_
          exact s_cut (w_M_row_L52 C FU _ _ _ _) ⟨rfl, rfl, rfl, rfl, trivial⟩
        · refine s_aload_n C e_M_row_29 rfl ?_
          refine s_iconst C e_M_row_30 (v := (4 : Int32)) ic_4 ?_
          refine s_callV_1 C (c_M_found C.inj _ _) wv_M_found g_455 ⟨by decide, by decide⟩ fc_7 rfl zm_lt_0 (zm_0 _ _ _) rfl (Nat.le_of_ble_eq_true rfl) e_M_row_31 (fun v7 σ8 => ?_)
          exact s_iret C e_M_row_34
      · refine s_ldc C e_M_row_22 g_453 ?_
        exact s_iret C e_M_row_24
theorem c_M_row {l : Launch} {D : va_G} {k : Nat → ClassId} {q : Nat → Nat} (hq : Inj ZM q)  (σ : St) (x1 : Int32) (x2 : Int32) (x3 : Int32) : Ct l ZM D k q yX7_row cX7_row 5 (some .int) 2 42 [.ref (q 0), .int x1, .int x2, .int x3] σ (m_M_row σ x1 x2 x3) :=
  Ct_of hq lcM (by decide) (Nat.le_of_ble_eq_true rfl) (fun _ _ _ _ _ _ _ _ _ _ C => w_M_row C σ x1 x2 x3)
set_option maxRecDepth 100000 in
theorem w_M_set {X : CX} (C : Cx X ZM RX7 cX7_set 4 (some .int) 2 42)  (σ : St) (x1 : Int32) (x2 : Int32) (x3 : Int32) : Sm X ZM 4 (some .int) σ [(0, .ref (cq X 0)), (1, .int x1), (2, .int x2), (3, .int x3)] 0 [] (m_M_set σ x1 x2 x3) := by
  unfold m_M_set
  refine s_iload_n C e_M_set_0 rfl ?_
  refine s_callS_1 C (c_M_isRow C.inj _ _) wv_M_isRow g_459 ⟨by decide, by decide⟩ rfl (Nat.le_of_ble_eq_true rfl) e_M_set_1 (fun v1 σ2 => ?_)
  refine s_if_ne (tgt := 10) C e_M_set_4 rfl ?_ ?_
  · refine s_ldc C e_M_set_7 g_453 ?_
    exact s_iret C e_M_set_9
  · refine s_aload_n C e_M_set_10 rfl ?_
    refine s_iload_n C e_M_set_11 rfl ?_
    refine s_callV_1 C (c_M_isMissing C.inj _ _) wv_M_isMissing g_470 ⟨by decide, by decide⟩ fc_7 rfl zm_lt_0 (zm_0 _ _ _) rfl (Nat.le_of_ble_eq_true rfl) e_M_set_12 (fun v3 σ4 => ?_)
    refine s_if_eq (tgt := 24) C e_M_set_15 rfl ?_ ?_
    · refine s_iload_n C e_M_set_24 rfl ?_
      refine s_iconst C e_M_set_25 (v := (0 : Int32)) ic_0 ?_
      refine s_aload_n C e_M_set_26 rfl ?_
      refine s_get C fc_7 zm_lt_0 (zm_0 _ _ _) 1 (by decide) e_M_set_27 g_454 rfl ?_
      refine s_iload_n C e_M_set_30 rfl ?_
      refine s_iald C (za_lt isA2) (za isA2) e_M_set_31 ?_
      refine s_iconst C e_M_set_32 (v := (1 : Int32)) ic_1 ?_
      refine s_isub C e_M_set_33 ?_
      refine s_callS_3 C (c_M_in C.inj _ _ _ _) wv_M_in g_447 ⟨by decide, by decide⟩ rfl (Nat.le_of_ble_eq_true rfl) e_M_set_34 (fun v5 σ6 => ?_)
      refine s_if_ne (tgt := 46) C e_M_set_37 rfl ?_ ?_
      · refine s_aload_n C e_M_set_40 rfl ?_
        refine s_iconst C e_M_set_41 (v := (2 : Int32)) ic_2 ?_
        refine s_callV_1 C (c_M_found C.inj _ _) wv_M_found g_455 ⟨by decide, by decide⟩ fc_7 rfl zm_lt_0 (zm_0 _ _ _) rfl (Nat.le_of_ble_eq_true rfl) e_M_set_42 (fun v12 σ13 => ?_)
        exact s_iret C e_M_set_45
      · refine s_aload_n C e_M_set_46 rfl ?_
        refine s_get C fc_7 zm_lt_0 (zm_0 _ _ _) 2 (by decide) e_M_set_47 g_462 rfl ?_
        refine s_bipush C e_M_set_50 (v := (40 : Int32)) bp_40 ?_
        refine s_iload_n C e_M_set_52 rfl ?_
        refine s_imul C e_M_set_53 ?_
        refine s_iload_n C e_M_set_54 rfl ?_
        refine s_iadd C e_M_set_55 ?_
        refine s_aload_n C e_M_set_56 rfl ?_
        refine s_get C fc_7 zm_lt_0 (zm_0 _ _ _) 0 (by decide) e_M_set_57 g_451 rfl ?_
        refine s_iload_n C e_M_set_60 rfl ?_
        refine s_iald C (za_lt isA1) (za isA1) e_M_set_61 ?_
        refine s_iload_n C e_M_set_62 rfl ?_
        refine s_callS_2 C (c_M_cut C.inj _ _ _) wv_M_cut g_467 ⟨by decide, by decide⟩ rfl (Nat.le_of_ble_eq_true rfl) e_M_set_63 (fun v7 σ8 => ?_)
        refine s_iast C (za_lt isA3) (za isA3) e_M_set_66 (fun σ9 => ?_)
        refine s_aload_n C e_M_set_67 rfl ?_
        refine s_aload_n C e_M_set_68 rfl ?_
        refine s_get C fc_7 zm_lt_0 (zm_0 _ _ _) 2 (by decide) e_M_set_69 g_462 rfl ?_
        refine s_bipush C e_M_set_72 (v := (40 : Int32)) bp_40 ?_
        refine s_iload_n C e_M_set_74 rfl ?_
        refine s_imul C e_M_set_75 ?_
        refine s_iload_n C e_M_set_76 rfl ?_
        refine s_iadd C e_M_set_77 ?_
        refine s_iald C (za_lt isA3) (za isA3) e_M_set_78 ?_
        refine s_callV_1 C (c_M_well C.inj _ _) wv_M_well g_463 ⟨by decide, by decide⟩ fc_7 rfl zm_lt_0 (zm_0 _ _ _) rfl (Nat.le_of_ble_eq_true rfl) e_M_set_79 (fun v10 σ11 => ?_)
        exact s_iret C e_M_set_82
    · refine s_aload_n C e_M_set_18 rfl ?_
      refine s_iconst C e_M_set_19 (v := (1 : Int32)) ic_1 ?_
      refine s_callV_1 C (c_M_found C.inj _ _) wv_M_found g_455 ⟨by decide, by decide⟩ fc_7 rfl zm_lt_0 (zm_0 _ _ _) rfl (Nat.le_of_ble_eq_true rfl) e_M_set_20 (fun v14 σ15 => ?_)
      exact s_iret C e_M_set_23
theorem c_M_set {l : Launch} {D : va_G} {k : Nat → ClassId} {q : Nat → Nat} (hq : Inj ZM q)  (σ : St) (x1 : Int32) (x2 : Int32) (x3 : Int32) : Ct l ZM D k q yX7_set cX7_set 4 (some .int) 2 42 [.ref (q 0), .int x1, .int x2, .int x3] σ (m_M_set σ x1 x2 x3) :=
  Ct_of hq lcM (by decide) (Nat.le_of_ble_eq_true rfl) (fun _ _ _ _ _ _ _ _ _ _ C => w_M_set C σ x1 x2 x3)
set_option maxRecDepth 100000 in
theorem w_M_isPart {X : CX} (C : Cx X ZM RX7 cX7_isPart 4 (some .boolean) 0 0)  (σ : St) (x1 : Int32) (x2 : Int32) (x3 : Int32) : Sm X ZM 4 (some .boolean) σ [(0, .ref (cq X 0)), (1, .int x1), (2, .int x2), (3, .int x3)] 0 [] (m_M_isPart σ x1 x2 x3) := by
  unfold m_M_isPart
  refine s_iload_n C e_M_isPart_0 rfl ?_
  refine s_if_lt (tgt := 34) C e_M_isPart_1 rfl ?_ ?_
  · refine s_iconst C e_M_isPart_34 (v := (0 : Int32)) ic_0 ?_
    exact s_zret C e_M_isPart_35
  · refine s_iload_n C e_M_isPart_4 rfl ?_
    refine s_if_lt (tgt := 34) C e_M_isPart_5 rfl ?_ ?_
    · refine s_iconst C e_M_isPart_34 (v := (0 : Int32)) ic_0 ?_
      exact s_zret C e_M_isPart_35
    · refine s_iload_n C e_M_isPart_8 rfl ?_
      refine s_aload_n C e_M_isPart_9 rfl ?_
      refine s_get C fc_7 zm_lt_0 (zm_0 _ _ _) 1 (by decide) e_M_isPart_10 g_454 rfl ?_
      refine s_iload_n C e_M_isPart_13 rfl ?_
      refine s_iald C (za_lt isA2) (za isA2) e_M_isPart_14 ?_
      refine s_icmp_gt (tgt := 34) C e_M_isPart_15 rfl ?_ ?_
      · refine s_iconst C e_M_isPart_34 (v := (0 : Int32)) ic_0 ?_
        exact s_zret C e_M_isPart_35
      · refine s_iload_n C e_M_isPart_18 rfl ?_
        refine s_aload_n C e_M_isPart_19 rfl ?_
        refine s_get C fc_7 zm_lt_0 (zm_0 _ _ _) 1 (by decide) e_M_isPart_20 g_454 rfl ?_
        refine s_iload_n C e_M_isPart_23 rfl ?_
        refine s_iald C (za_lt isA2) (za isA2) e_M_isPart_24 ?_
        refine s_iload_n C e_M_isPart_25 rfl ?_
        refine s_isub C e_M_isPart_26 ?_
        refine s_icmp_gt (tgt := 34) C e_M_isPart_27 rfl ?_ ?_
        · refine s_iconst C e_M_isPart_34 (v := (0 : Int32)) ic_0 ?_
          exact s_zret C e_M_isPart_35
        · refine s_iconst C e_M_isPart_30 (v := (1 : Int32)) ic_1 ?_
          refine s_goto (tgt := 35) C e_M_isPart_31 rfl ?_
          exact s_zret C e_M_isPart_35
theorem c_M_isPart {l : Launch} {D : va_G} {k : Nat → ClassId} {q : Nat → Nat} (hq : Inj ZM q)  (σ : St) (x1 : Int32) (x2 : Int32) (x3 : Int32) : Ct l ZM D k q yX7_isPart cX7_isPart 4 (some .boolean) 0 0 [.ref (q 0), .int x1, .int x2, .int x3] σ (m_M_isPart σ x1 x2 x3) :=
  Ct_of hq lcM (by decide) (Nat.le_of_ble_eq_true rfl) (fun _ _ _ _ _ _ _ _ _ _ C => w_M_isPart C σ x1 x2 x3)
set_option maxRecDepth 100000 in
theorem w_M_copy_B33 {X : CX} (C : Cx X ZM RX7 cX7_copy 7 (some .int) 2 42)   (σ : St)  : Sm X ZM 7 (some .int) σ [(0, .ref (cq X 0))] 33 [] (m_M_copy_B33 σ) := by
  unfold m_M_copy_B33
  refine s_aload_n C e_M_copy_33 rfl ?_
  refine s_iconst C e_M_copy_34 (v := (1 : Int32)) ic_1 ?_
  refine s_callV_1 C (c_M_found C.inj _ _) wv_M_found g_455 ⟨by decide, by decide⟩ fc_7 rfl zm_lt_0 (zm_0 _ _ _) rfl (Nat.le_of_ble_eq_true rfl) e_M_copy_35 (fun v1 σ2 => ?_)
  exact s_iret C e_M_copy_38
set_option maxRecDepth 100000 in
theorem w_M_copy_B83 {X : CX} (C : Cx X ZM RX7 cX7_copy 7 (some .int) 2 42)   (σ : St)  : Sm X ZM 7 (some .int) σ [(0, .ref (cq X 0))] 83 [] (m_M_copy_B83 σ) := by
  unfold m_M_copy_B83
  refine s_aload_n C e_M_copy_83 rfl ?_
  refine s_iconst C e_M_copy_84 (v := (2 : Int32)) ic_2 ?_
  refine s_callV_1 C (c_M_found C.inj _ _) wv_M_found g_455 ⟨by decide, by decide⟩ fc_7 rfl zm_lt_0 (zm_0 _ _ _) rfl (Nat.le_of_ble_eq_true rfl) e_M_copy_85 (fun v1 σ2 => ?_)
  exact s_iret C e_M_copy_88
set_option maxRecDepth 100000 in
theorem w_M_copy_B164 {X : CX} (C : Cx X ZM RX7 cX7_copy 7 (some .int) 2 42)   (σ : St) (x5 : Int32) : Sm X ZM 7 (some .int) σ [(0, .ref (cq X 0)), (5, .int x5)] 164 [] (m_M_copy_B164 σ x5) := by
  unfold m_M_copy_B164
  refine s_aload_n C e_M_copy_164 rfl ?_
  refine s_iload C e_M_copy_165 rfl ?_
  refine s_callV_1 C (c_M_well C.inj _ _) wv_M_well g_463 ⟨by decide, by decide⟩ fc_7 rfl zm_lt_0 (zm_0 _ _ _) rfl (Nat.le_of_ble_eq_true rfl) e_M_copy_167 (fun v1 σ2 => ?_)
  exact s_iret C e_M_copy_170
set_option maxRecDepth 100000 in
theorem w_M_copy_B129 {X : CX} (C : Cx X ZM RX7 cX7_copy 7 (some .int) 2 42)  (r129 : St → Int32 → Int32 → Int32 → Int32 → Rt) (hr129 : ∀ (σ : St) (x3 : Int32) (x4 : Int32) (x5 : Int32) (x6 : Int32), Sm X ZM 7 (some .int) σ [(0, .ref (cq X 0)), (3, .int x3), (4, .int x4), (5, .int x5), (6, .int x6)] 129 [] (r129 σ x3 x4 x5 x6)) (σ : St) (x3 : Int32) (x4 : Int32) (x5 : Int32) (x6 : Int32) : Sm X ZM 7 (some .int) σ [(0, .ref (cq X 0)), (3, .int x3), (4, .int x4), (5, .int x5), (6, .int x6)] 129 [] (m_M_copy_B129 r129 σ x3 x4 x5 x6) := by
  unfold m_M_copy_B129
  refine s_iload C e_M_copy_129 rfl ?_
  refine s_iload C e_M_copy_131 rfl ?_
  refine s_icmp_ge (tgt := 164) C e_M_copy_133 rfl ?_ ?_
  · exact s_cut (w_M_copy_B164 C _ _) ⟨rfl, rfl, trivial⟩
  · refine s_aload_n C e_M_copy_136 rfl ?_
    refine s_get C fc_7 zm_lt_0 (zm_0 _ _ _) 2 (by decide) e_M_copy_137 g_462 rfl ?_
    refine s_bipush C e_M_copy_140 (v := (40 : Int32)) bp_40 ?_
    refine s_iload_n C e_M_copy_142 rfl ?_
    refine s_imul C e_M_copy_143 ?_
    refine s_iload C e_M_copy_144 rfl ?_
    refine s_iadd C e_M_copy_146 ?_
    refine s_iload C e_M_copy_147 rfl ?_
    refine s_iadd C e_M_copy_149 ?_
    refine s_aload_n C e_M_copy_150 rfl ?_
    refine s_get C fc_7 zm_lt_0 (zm_0 _ _ _) 3 (by decide) e_M_copy_151 g_478 rfl ?_
    refine s_iload C e_M_copy_154 rfl ?_
    refine s_iald C (za_lt isA4) (za isA4) e_M_copy_156 ?_
    refine s_iast C (za_lt isA3) (za isA3) e_M_copy_157 (fun σ1 => ?_)
    refine s_iinc C e_M_copy_158 (v := (1 : Int32)) rfl (by decide) ii_1 ?_
    refine s_goto (tgt := 129) C e_M_copy_161 rfl ?_
    exact s_cut (hr129 _ _ _ _ _) ⟨rfl, rfl, rfl, rfl, rfl, trivial⟩
theorem w_M_copy_L129 {X : CX} (C : Cx X ZM RX7 cX7_copy 7 (some .int) 2 42)   : ∀ (n : Nat) (σ : St) (x3 : Int32) (x4 : Int32) (x5 : Int32) (x6 : Int32), Sm X ZM 7 (some .int) σ [(0, .ref (cq X 0)), (3, .int x3), (4, .int x4), (5, .int x5), (6, .int x6)] 129 [] (m_M_copy_L129 n σ x3 x4 x5 x6)
  | 0, _, _, _, _, _ => s_none
  | n + 1, σ, x3, x4, x5, x6 => w_M_copy_B129 C (m_M_copy_L129 n) (w_M_copy_L129 C n) σ x3 x4 x5 x6
set_option maxRecDepth 100000 in
theorem w_M_copy_B126 {X : CX} (C : Cx X ZM RX7 cX7_copy 7 (some .int) 2 42)   (σ : St) (x3 : Int32) (x4 : Int32) (x5 : Int32) : Sm X ZM 7 (some .int) σ [(0, .ref (cq X 0)), (3, .int x3), (4, .int x4), (5, .int x5)] 126 [] (m_M_copy_B126 σ x3 x4 x5) := by
  unfold m_M_copy_B126
  refine s_iconst C e_M_copy_126 (v := (0 : Int32)) ic_0 ?_
  refine s_istore C e_M_copy_127 (by decide) ?_
  exact s_cut (w_M_copy_L129 C FU _ _ _ _ _) ⟨rfl, rfl, rfl, rfl, rfl, trivial⟩
set_option maxRecDepth 100000 in
theorem w_M_copy_B92 {X : CX} (C : Cx X ZM RX7 cX7_copy 7 (some .int) 2 42)  (r92 : St → Int32 → Int32 → Int32 → Int32 → Int32 → Int32 → Rt) (hr92 : ∀ (σ : St) (x1 : Int32) (x2 : Int32) (x3 : Int32) (x4 : Int32) (x5 : Int32) (x6 : Int32), Sm X ZM 7 (some .int) σ [(0, .ref (cq X 0)), (1, .int x1), (2, .int x2), (3, .int x3), (4, .int x4), (5, .int x5), (6, .int x6)] 92 [] (r92 σ x1 x2 x3 x4 x5 x6)) (σ : St) (x1 : Int32) (x2 : Int32) (x3 : Int32) (x4 : Int32) (x5 : Int32) (x6 : Int32) : Sm X ZM 7 (some .int) σ [(0, .ref (cq X 0)), (1, .int x1), (2, .int x2), (3, .int x3), (4, .int x4), (5, .int x5), (6, .int x6)] 92 [] (m_M_copy_B92 r92 σ x1 x2 x3 x4 x5 x6) := by
  unfold m_M_copy_B92
  refine s_iload C e_M_copy_92 rfl ?_
  refine s_iload C e_M_copy_94 rfl ?_
  refine s_icmp_ge (tgt := 126) C e_M_copy_96 rfl ?_ ?_
  · exact s_cut (w_M_copy_B126 C _ _ _ _) ⟨rfl, rfl, rfl, rfl, trivial⟩
  · refine s_aload_n C e_M_copy_99 rfl ?_
    refine s_get C fc_7 zm_lt_0 (zm_0 _ _ _) 3 (by decide) e_M_copy_100 g_478 rfl ?_
    refine s_iload C e_M_copy_103 rfl ?_
    refine s_aload_n C e_M_copy_105 rfl ?_
    refine s_get C fc_7 zm_lt_0 (zm_0 _ _ _) 2 (by decide) e_M_copy_106 g_462 rfl ?_
    refine s_bipush C e_M_copy_109 (v := (40 : Int32)) bp_40 ?_
    refine s_iload_n C e_M_copy_111 rfl ?_
    refine s_imul C e_M_copy_112 ?_
    refine s_iload_n C e_M_copy_113 rfl ?_
    refine s_iadd C e_M_copy_114 ?_
    refine s_iload C e_M_copy_115 rfl ?_
    refine s_iadd C e_M_copy_117 ?_
    refine s_iald C (za_lt isA3) (za isA3) e_M_copy_118 ?_
    refine s_iast C (za_lt isA4) (za isA4) e_M_copy_119 (fun σ1 => ?_)
    refine s_iinc C e_M_copy_120 (v := (1 : Int32)) rfl (by decide) ii_1 ?_
    refine s_goto (tgt := 92) C e_M_copy_123 rfl ?_
    exact s_cut (hr92 _ _ _ _ _ _ _) ⟨rfl, rfl, rfl, rfl, rfl, rfl, rfl, trivial⟩
theorem w_M_copy_L92 {X : CX} (C : Cx X ZM RX7 cX7_copy 7 (some .int) 2 42)   : ∀ (n : Nat) (σ : St) (x1 : Int32) (x2 : Int32) (x3 : Int32) (x4 : Int32) (x5 : Int32) (x6 : Int32), Sm X ZM 7 (some .int) σ [(0, .ref (cq X 0)), (1, .int x1), (2, .int x2), (3, .int x3), (4, .int x4), (5, .int x5), (6, .int x6)] 92 [] (m_M_copy_L92 n σ x1 x2 x3 x4 x5 x6)
  | 0, _, _, _, _, _, _, _ => s_none
  | n + 1, σ, x1, x2, x3, x4, x5, x6 => w_M_copy_B92 C (m_M_copy_L92 n) (w_M_copy_L92 C n) σ x1 x2 x3 x4 x5 x6
set_option maxRecDepth 100000 in
theorem w_M_copy {X : CX} (C : Cx X ZM RX7 cX7_copy 7 (some .int) 2 42)  (σ : St) (x1 : Int32) (x2 : Int32) (x3 : Int32) (x4 : Int32) (x5 : Int32) : Sm X ZM 7 (some .int) σ [(0, .ref (cq X 0)), (1, .int x1), (2, .int x2), (3, .int x3), (4, .int x4), (5, .int x5)] 0 [] (m_M_copy σ x1 x2 x3 x4 x5) := by
  unfold m_M_copy
  refine s_iload_n C e_M_copy_0 rfl ?_
  refine s_callS_1 C (c_M_isRow C.inj _ _) wv_M_isRow g_459 ⟨by decide, by decide⟩ rfl (Nat.le_of_ble_eq_true rfl) e_M_copy_1 (fun v1 σ2 => ?_)
  refine s_if_eq (tgt := 14) C e_M_copy_4 rfl ?_ ?_
  · refine s_ldc C e_M_copy_14 g_453 ?_
    exact s_iret C e_M_copy_16
  · refine s_iload_n C e_M_copy_7 rfl ?_
    refine s_callS_1 C (c_M_isRow C.inj _ _) wv_M_isRow g_459 ⟨by decide, by decide⟩ rfl (Nat.le_of_ble_eq_true rfl) e_M_copy_8 (fun v3 σ4 => ?_)
    refine s_if_ne (tgt := 17) C e_M_copy_11 rfl ?_ ?_
    · refine s_ldc C e_M_copy_14 g_453 ?_
      exact s_iret C e_M_copy_16
    · refine s_aload_n C e_M_copy_17 rfl ?_
      refine s_iload_n C e_M_copy_18 rfl ?_
      refine s_callV_1 C (c_M_isMissing C.inj _ _) wv_M_isMissing g_470 ⟨by decide, by decide⟩ fc_7 rfl zm_lt_0 (zm_0 _ _ _) rfl (Nat.le_of_ble_eq_true rfl) e_M_copy_19 (fun v5 σ6 => ?_)
      refine s_if_ne (tgt := 33) C e_M_copy_22 rfl ?_ ?_
      · refine s_aload_n C e_M_copy_25 rfl ?_
        refine s_iload_n C e_M_copy_26 rfl ?_
        refine s_callV_1 C (c_M_isMissing C.inj _ _) wv_M_isMissing g_470 ⟨by decide, by decide⟩ fc_7 rfl zm_lt_0 (zm_0 _ _ _) rfl (Nat.le_of_ble_eq_true rfl) e_M_copy_27 (fun v7 σ8 => ?_)
        refine s_if_eq (tgt := 39) C e_M_copy_30 rfl ?_ ?_
        · refine s_aload_n C e_M_copy_39 rfl ?_
          refine s_get C fc_7 zm_lt_0 (zm_0 _ _ _) 0 (by decide) e_M_copy_40 g_451 rfl ?_
          refine s_iload_n C e_M_copy_43 rfl ?_
          refine s_iald C (za_lt isA1) (za isA1) e_M_copy_44 ?_
          refine s_aload_n C e_M_copy_45 rfl ?_
          refine s_get C fc_7 zm_lt_0 (zm_0 _ _ _) 0 (by decide) e_M_copy_46 g_451 rfl ?_
          refine s_iload_n C e_M_copy_49 rfl ?_
          refine s_iald C (za_lt isA1) (za isA1) e_M_copy_50 ?_
          refine s_icmp_eq (tgt := 60) C e_M_copy_51 rfl ?_ ?_
          · refine s_aload_n C e_M_copy_60 rfl ?_
            refine s_iload_n C e_M_copy_61 rfl ?_
            refine s_iload_n C e_M_copy_62 rfl ?_
            refine s_iload C e_M_copy_63 rfl ?_
            refine s_callV_3 C (c_M_isPart C.inj _ _ _ _) wv_M_isPart g_474 ⟨by decide, by decide⟩ fc_7 rfl zm_lt_0 (zm_0 _ _ _) rfl (Nat.le_of_ble_eq_true rfl) e_M_copy_65 (fun v9 σ10 => ?_)
            refine s_if_eq (tgt := 83) C e_M_copy_68 rfl ?_ ?_
            · exact s_cut (w_M_copy_B83 C _) ⟨rfl, trivial⟩
            · refine s_aload_n C e_M_copy_71 rfl ?_
              refine s_iload_n C e_M_copy_72 rfl ?_
              refine s_iload C e_M_copy_73 rfl ?_
              refine s_iload C e_M_copy_75 rfl ?_
              refine s_callV_3 C (c_M_isPart C.inj _ _ _ _) wv_M_isPart g_474 ⟨by decide, by decide⟩ fc_7 rfl zm_lt_0 (zm_0 _ _ _) rfl (Nat.le_of_ble_eq_true rfl) e_M_copy_77 (fun v11 σ12 => ?_)
              refine s_if_ne (tgt := 89) C e_M_copy_80 rfl ?_ ?_
              · exact s_cut (w_M_copy_B83 C _) ⟨rfl, trivial⟩
              · refine s_iconst C e_M_copy_89 (v := (0 : Int32)) ic_0 ?_
                refine s_istore C e_M_copy_90 (by decide) ?_
                exact s_cut (w_M_copy_L92 C FU _ _ _ _ _ _ _) ⟨rfl, rfl, rfl, rfl, rfl, rfl, rfl, trivial⟩
          · refine s_aload_n C e_M_copy_54 rfl ?_
            refine s_iconst C e_M_copy_55 (v := (5 : Int32)) ic_5 ?_
            refine s_callV_1 C (c_M_found C.inj _ _) wv_M_found g_455 ⟨by decide, by decide⟩ fc_7 rfl zm_lt_0 (zm_0 _ _ _) rfl (Nat.le_of_ble_eq_true rfl) e_M_copy_56 (fun v13 σ14 => ?_)
            exact s_iret C e_M_copy_59
        · exact s_cut (w_M_copy_B33 C _) ⟨rfl, trivial⟩
      · exact s_cut (w_M_copy_B33 C _) ⟨rfl, trivial⟩
theorem c_M_copy {l : Launch} {D : va_G} {k : Nat → ClassId} {q : Nat → Nat} (hq : Inj ZM q)  (σ : St) (x1 : Int32) (x2 : Int32) (x3 : Int32) (x4 : Int32) (x5 : Int32) : Ct l ZM D k q yX7_copy cX7_copy 7 (some .int) 2 42 [.ref (q 0), .int x1, .int x2, .int x3, .int x4, .int x5] σ (m_M_copy σ x1 x2 x3 x4 x5) :=
  Ct_of hq lcM (by decide) (Nat.le_of_ble_eq_true rfl) (fun _ _ _ _ _ _ _ _ _ _ C => w_M_copy C σ x1 x2 x3 x4 x5)
set_option maxRecDepth 100000 in
theorem w_M_drop {X : CX} (C : Cx X ZM RX7 cX7_drop 2 (some .int) 2 42)  (σ : St) (x1 : Int32) : Sm X ZM 2 (some .int) σ [(0, .ref (cq X 0)), (1, .int x1)] 0 [] (m_M_drop σ x1) := by
  unfold m_M_drop
  refine s_iload_n C e_M_drop_0 rfl ?_
  refine s_callS_1 C (c_M_isRow C.inj _ _) wv_M_isRow g_459 ⟨by decide, by decide⟩ rfl (Nat.le_of_ble_eq_true rfl) e_M_drop_1 (fun v1 σ2 => ?_)
  refine s_if_ne (tgt := 10) C e_M_drop_4 rfl ?_ ?_
  · refine s_ldc C e_M_drop_7 g_453 ?_
    exact s_iret C e_M_drop_9
  · refine s_aload_n C e_M_drop_10 rfl ?_
    refine s_iload_n C e_M_drop_11 rfl ?_
    refine s_callV_1 C (c_M_isMissing C.inj _ _) wv_M_isMissing g_470 ⟨by decide, by decide⟩ fc_7 rfl zm_lt_0 (zm_0 _ _ _) rfl (Nat.le_of_ble_eq_true rfl) e_M_drop_12 (fun v3 σ4 => ?_)
    refine s_if_eq (tgt := 24) C e_M_drop_15 rfl ?_ ?_
    · refine s_aload_n C e_M_drop_24 rfl ?_
      refine s_get C fc_7 zm_lt_0 (zm_0 _ _ _) 0 (by decide) e_M_drop_25 g_451 rfl ?_
      refine s_iload_n C e_M_drop_28 rfl ?_
      refine s_ldc C e_M_drop_29 g_452 ?_
      refine s_iast C (za_lt isA1) (za isA1) e_M_drop_31 (fun σ5 => ?_)
      refine s_aload_n C e_M_drop_32 rfl ?_
      refine s_aload_n C e_M_drop_33 rfl ?_
      refine s_get C fc_7 zm_lt_0 (zm_0 _ _ _) 1 (by decide) e_M_drop_34 g_454 rfl ?_
      refine s_iload_n C e_M_drop_37 rfl ?_
      refine s_iald C (za_lt isA2) (za isA2) e_M_drop_38 ?_
      refine s_callV_1 C (c_M_well C.inj _ _) wv_M_well g_463 ⟨by decide, by decide⟩ fc_7 rfl zm_lt_0 (zm_0 _ _ _) rfl (Nat.le_of_ble_eq_true rfl) e_M_drop_39 (fun v6 σ7 => ?_)
      exact s_iret C e_M_drop_42
    · refine s_aload_n C e_M_drop_18 rfl ?_
      refine s_iconst C e_M_drop_19 (v := (1 : Int32)) ic_1 ?_
      refine s_callV_1 C (c_M_found C.inj _ _) wv_M_found g_455 ⟨by decide, by decide⟩ fc_7 rfl zm_lt_0 (zm_0 _ _ _) rfl (Nat.le_of_ble_eq_true rfl) e_M_drop_20 (fun v8 σ9 => ?_)
      exact s_iret C e_M_drop_23
theorem c_M_drop {l : Launch} {D : va_G} {k : Nat → ClassId} {q : Nat → Nat} (hq : Inj ZM q)  (σ : St) (x1 : Int32) : Ct l ZM D k q yX7_drop cX7_drop 2 (some .int) 2 42 [.ref (q 0), .int x1] σ (m_M_drop σ x1) :=
  Ct_of hq lcM (by decide) (Nat.le_of_ble_eq_true rfl) (fun _ _ _ _ _ _ _ _ _ _ C => w_M_drop C σ x1)
set_option maxRecDepth 100000 in
theorem w_M_feed {X : CX} (C : Cx X ZM RX7 cX7_feed 2 (some .int) 1 22)  (σ : St) (x1 : Int32) : Sm X ZM 2 (some .int) σ [(0, .ref (cq X 0)), (1, .int x1)] 0 [] (m_M_feed σ x1) := by
  unfold m_M_feed
  refine s_iload_n C e_M_feed_0 rfl ?_
  refine s_iconst C e_M_feed_1 (v := (0 : Int32)) ic_0 ?_
  refine s_sipush C e_M_feed_2 (v := (255 : Int32)) sp_255 ?_
  refine s_callS_3 C (c_M_in C.inj _ _ _ _) wv_M_in g_447 ⟨by decide, by decide⟩ rfl (Nat.le_of_ble_eq_true rfl) e_M_feed_5 (fun v1 σ2 => ?_)
  refine s_if_ne (tgt := 14) C e_M_feed_8 rfl ?_ ?_
  · refine s_ldc C e_M_feed_11 g_453 ?_
    exact s_iret C e_M_feed_13
  · refine s_aload_n C e_M_feed_14 rfl ?_
    refine s_get C fc_7 zm_lt_0 (zm_0 _ _ _) 6 (by decide) e_M_feed_15 g_479 rfl ?_
    refine s_sipush C e_M_feed_18 (v := (130 : Int32)) sp_130 ?_
    refine s_icmp_ne (tgt := 27) C e_M_feed_21 rfl ?_ ?_
    · refine s_ldc C e_M_feed_24 g_481 ?_
      exact s_iret C e_M_feed_26
    · refine s_aload_n C e_M_feed_27 rfl ?_
      refine s_get C fc_7 zm_lt_0 (zm_0 _ _ _) 5 (by decide) e_M_feed_28 g_480 rfl ?_
      refine s_aload_n C e_M_feed_31 rfl ?_
      refine s_get C fc_7 zm_lt_0 (zm_0 _ _ _) 6 (by decide) e_M_feed_32 g_479 rfl ?_
      refine s_iload_n C e_M_feed_35 rfl ?_
      refine s_iast C (za_lt isA5) (za isA5) e_M_feed_36 (fun σ3 => ?_)
      refine s_aload_n C e_M_feed_37 rfl ?_
      refine s_dup C e_M_feed_38 rfl ?_
      refine s_get C fc_7 zm_lt_0 (zm_0 _ _ _) 6 (by decide) e_M_feed_39 g_479 rfl ?_
      refine s_iconst C e_M_feed_42 (v := (1 : Int32)) ic_1 ?_
      refine s_iadd C e_M_feed_43 ?_
      refine s_put C fc_7 zm_lt_0 (zm_0 _ _ _) 6 (by decide) (zmp_6 _ _ _ _) (Nat.le_of_ble_eq_true rfl) e_M_feed_44 g_479 rfl rfl (fun σ4 => ?_)
      refine s_aload_n C e_M_feed_47 rfl ?_
      refine s_get C fc_7 zm_lt_0 (zm_0 _ _ _) 6 (by decide) e_M_feed_48 g_479 rfl ?_
      exact s_iret C e_M_feed_51
theorem c_M_feed {l : Launch} {D : va_G} {k : Nat → ClassId} {q : Nat → Nat} (hq : Inj ZM q)  (σ : St) (x1 : Int32) : Ct l ZM D k q yX7_feed cX7_feed 2 (some .int) 1 22 [.ref (q 0), .int x1] σ (m_M_feed σ x1) :=
  Ct_of hq lcM (by decide) (Nat.le_of_ble_eq_true rfl) (fun _ _ _ _ _ _ _ _ _ _ C => w_M_feed C σ x1)
set_option maxRecDepth 100000 in
theorem w_M_byteAt {X : CX} (C : Cx X ZM RX7 cX7_byteAt 2 (some .int) 0 0)  (σ : St) (x1 : Int32) : Sm X ZM 2 (some .int) σ [(0, .ref (cq X 0)), (1, .int x1)] 0 [] (m_M_byteAt σ x1) := by
  unfold m_M_byteAt
  refine s_iload_n C e_M_byteAt_0 rfl ?_
  refine s_aload_n C e_M_byteAt_1 rfl ?_
  refine s_get C fc_7 zm_lt_0 (zm_0 _ _ _) 6 (by decide) e_M_byteAt_2 g_479 rfl ?_
  refine s_icmp_ge (tgt := 17) C e_M_byteAt_5 rfl ?_ ?_
  · refine s_iconst C e_M_byteAt_17 (v := (-1 : Int32)) ic_m1 ?_
    exact s_iret C e_M_byteAt_18
  · refine s_aload_n C e_M_byteAt_8 rfl ?_
    refine s_get C fc_7 zm_lt_0 (zm_0 _ _ _) 5 (by decide) e_M_byteAt_9 g_480 rfl ?_
    refine s_iload_n C e_M_byteAt_12 rfl ?_
    refine s_iald C (za_lt isA5) (za isA5) e_M_byteAt_13 ?_
    refine s_goto (tgt := 18) C e_M_byteAt_14 rfl ?_
    exact s_iret C e_M_byteAt_18
theorem c_M_byteAt {l : Launch} {D : va_G} {k : Nat → ClassId} {q : Nat → Nat} (hq : Inj ZM q)  (σ : St) (x1 : Int32) : Ct l ZM D k q yX7_byteAt cX7_byteAt 2 (some .int) 0 0 [.ref (q 0), .int x1] σ (m_M_byteAt σ x1) :=
  Ct_of hq lcM (by decide) (Nat.le_of_ble_eq_true rfl) (fun _ _ _ _ _ _ _ _ _ _ C => w_M_byteAt C σ x1)
set_option maxRecDepth 100000 in
theorem w_M_advances_B96 {X : CX} (C : Cx X ZM RX7 cX7_advances 2 none 1 22)  (r38 : St → Rt) (hr38 : ∀ (σ : St), Sm X ZM 2 none σ [(0, .ref (cq X 0))] 38 [] (r38 σ)) (σ : St) (s0 : Int32) : Sm X ZM 2 none σ [(0, .ref (cq X 0))] 96 [.int s0, .ref (cq X 0)] (m_M_advances_B96 r38 σ s0) := by
  unfold m_M_advances_B96
  refine s_put C fc_7 zm_lt_0 (zm_0 _ _ _) 12 (by decide) (zmp_12 _ _ _ _) (Nat.le_of_ble_eq_true rfl) e_M_advances_96 g_484 rfl rfl (fun σ1 => ?_)
  refine s_aload_n C e_M_advances_99 rfl ?_
  refine s_dup C e_M_advances_100 rfl ?_
  refine s_get C fc_7 zm_lt_0 (zm_0 _ _ _) 9 (by decide) e_M_advances_101 g_482 rfl ?_
  refine s_iconst C e_M_advances_104 (v := (1 : Int32)) ic_1 ?_
  refine s_iadd C e_M_advances_105 ?_
  refine s_put C fc_7 zm_lt_0 (zm_0 _ _ _) 9 (by decide) (zmp_9 _ _ _ _) (Nat.le_of_ble_eq_true rfl) e_M_advances_106 g_482 rfl rfl (fun σ2 => ?_)
  refine s_goto (tgt := 38) C e_M_advances_109 rfl ?_
  exact s_cut (hr38 _) ⟨rfl, trivial⟩
set_option maxRecDepth 100000 in
theorem w_M_advances_B112 {X : CX} (C : Cx X ZM RX7 cX7_advances 2 none 1 22)   (σ : St)  : Sm X ZM 2 none σ [(0, .ref (cq X 0))] 112 [] (m_M_advances_B112 σ) := by
  unfold m_M_advances_B112
  refine s_aload_n C e_M_advances_112 rfl ?_
  refine s_aload_n C e_M_advances_113 rfl ?_
  refine s_get C fc_7 zm_lt_0 (zm_0 _ _ _) 9 (by decide) e_M_advances_114 g_482 rfl ?_
  refine s_aload_n C e_M_advances_117 rfl ?_
  refine s_get C fc_7 zm_lt_0 (zm_0 _ _ _) 10 (by decide) e_M_advances_118 g_483 rfl ?_
  refine s_isub C e_M_advances_121 ?_
  refine s_iconst C e_M_advances_122 (v := (3 : Int32)) ic_3 ?_
  refine s_icmp_ge (tgt := 130) C e_M_advances_123 rfl ?_ ?_
  · refine s_iconst C e_M_advances_130 (v := (5 : Int32)) ic_5 ?_
    refine s_put C fc_7 zm_lt_0 (zm_0 _ _ _) 11 (by decide) (zmp_11 _ _ _ _) (Nat.le_of_ble_eq_true rfl) e_M_advances_131 g_489 rfl rfl (fun σ1 => ?_)
    exact s_vret C e_M_advances_134
  · refine s_iconst C e_M_advances_126 (v := (2 : Int32)) ic_2 ?_
    refine s_goto (tgt := 131) C e_M_advances_127 rfl ?_
    refine s_put C fc_7 zm_lt_0 (zm_0 _ _ _) 11 (by decide) (zmp_11 _ _ _ _) (Nat.le_of_ble_eq_true rfl) e_M_advances_131 g_489 rfl rfl (fun σ2 => ?_)
    exact s_vret C e_M_advances_134
set_option maxRecDepth 100000 in
theorem w_M_advances_B38 {X : CX} (C : Cx X ZM RX7 cX7_advances 2 none 1 22)  (r38 : St → Rt) (hr38 : ∀ (σ : St), Sm X ZM 2 none σ [(0, .ref (cq X 0))] 38 [] (r38 σ)) (σ : St)  : Sm X ZM 2 none σ [(0, .ref (cq X 0))] 38 [] (m_M_advances_B38 r38 σ) := by
  unfold m_M_advances_B38
  refine s_aload_n C e_M_advances_38 rfl ?_
  refine s_aload_n C e_M_advances_39 rfl ?_
  refine s_get C fc_7 zm_lt_0 (zm_0 _ _ _) 9 (by decide) e_M_advances_40 g_482 rfl ?_
  refine s_callV_1 C (c_M_byteAt C.inj _ _) wv_M_byteAt g_485 ⟨by decide, by decide⟩ fc_7 rfl zm_lt_0 (zm_0 _ _ _) rfl (Nat.le_of_ble_eq_true rfl) e_M_advances_43 (fun v1 σ2 => ?_)
  refine s_bipush C e_M_advances_46 (v := (48 : Int32)) bp_48 ?_
  refine s_bipush C e_M_advances_48 (v := (57 : Int32)) bp_57 ?_
  refine s_callS_3 C (c_M_in C.inj _ _ _ _) wv_M_in g_447 ⟨by decide, by decide⟩ rfl (Nat.le_of_ble_eq_true rfl) e_M_advances_50 (fun v3 σ4 => ?_)
  refine s_if_eq (tgt := 112) C e_M_advances_53 rfl ?_ ?_
  · exact s_cut (w_M_advances_B112 C _) ⟨rfl, trivial⟩
  · refine s_aload_n C e_M_advances_56 rfl ?_
    refine s_aload_n C e_M_advances_57 rfl ?_
    refine s_get C fc_7 zm_lt_0 (zm_0 _ _ _) 9 (by decide) e_M_advances_58 g_482 rfl ?_
    refine s_aload_n C e_M_advances_61 rfl ?_
    refine s_get C fc_7 zm_lt_0 (zm_0 _ _ _) 10 (by decide) e_M_advances_62 g_483 rfl ?_
    refine s_isub C e_M_advances_65 ?_
    refine s_iconst C e_M_advances_66 (v := (2 : Int32)) ic_2 ?_
    refine s_icmp_ge (tgt := 92) C e_M_advances_67 rfl ?_ ?_
    · refine s_aload_n C e_M_advances_92 rfl ?_
      refine s_get C fc_7 zm_lt_0 (zm_0 _ _ _) 12 (by decide) e_M_advances_93 g_484 rfl ?_
      exact s_cut (w_M_advances_B96 C r38 hr38 _ _) ⟨rfl, trivial⟩
    · refine s_bipush C e_M_advances_70 (v := (10 : Int32)) bp_10 ?_
      refine s_aload_n C e_M_advances_72 rfl ?_
      refine s_get C fc_7 zm_lt_0 (zm_0 _ _ _) 12 (by decide) e_M_advances_73 g_484 rfl ?_
      refine s_imul C e_M_advances_76 ?_
      refine s_aload_n C e_M_advances_77 rfl ?_
      refine s_aload_n C e_M_advances_78 rfl ?_
      refine s_get C fc_7 zm_lt_0 (zm_0 _ _ _) 9 (by decide) e_M_advances_79 g_482 rfl ?_
      refine s_callV_1 C (c_M_byteAt C.inj _ _) wv_M_byteAt g_485 ⟨by decide, by decide⟩ fc_7 rfl zm_lt_0 (zm_0 _ _ _) rfl (Nat.le_of_ble_eq_true rfl) e_M_advances_82 (fun v5 σ6 => ?_)
      refine s_iadd C e_M_advances_85 ?_
      refine s_bipush C e_M_advances_86 (v := (48 : Int32)) bp_48 ?_
      refine s_isub C e_M_advances_88 ?_
      refine s_goto (tgt := 96) C e_M_advances_89 rfl ?_
      exact s_cut (w_M_advances_B96 C r38 hr38 _ _) ⟨rfl, trivial⟩
theorem w_M_advances_L38 {X : CX} (C : Cx X ZM RX7 cX7_advances 2 none 1 22)   : ∀ (n : Nat) (σ : St), Sm X ZM 2 none σ [(0, .ref (cq X 0))] 38 [] (m_M_advances_L38 n σ)
  | 0, _ => s_none
  | n + 1, σ => w_M_advances_B38 C (m_M_advances_L38 n) (w_M_advances_L38 C n) σ
set_option maxRecDepth 100000 in
theorem w_M_advances_B180 {X : CX} (C : Cx X ZM RX7 cX7_advances 2 none 1 22)   (σ : St) (s0 : Int32) : Sm X ZM 2 none σ [(0, .ref (cq X 0))] 180 [.int s0, .ref (cq X 0)] (m_M_advances_B180 σ s0) := by
  unfold m_M_advances_B180
  refine s_put C fc_7 zm_lt_0 (zm_0 _ _ _) 11 (by decide) (zmp_11 _ _ _ _) (Nat.le_of_ble_eq_true rfl) e_M_advances_180 g_489 rfl rfl (fun σ1 => ?_)
  refine s_aload_n C e_M_advances_183 rfl ?_
  refine s_dup C e_M_advances_184 rfl ?_
  refine s_get C fc_7 zm_lt_0 (zm_0 _ _ _) 9 (by decide) e_M_advances_185 g_482 rfl ?_
  refine s_aload_n C e_M_advances_188 rfl ?_
  refine s_get C fc_7 zm_lt_0 (zm_0 _ _ _) 11 (by decide) e_M_advances_189 g_489 rfl ?_
  refine s_if_ne (tgt := 199) C e_M_advances_192 rfl ?_ ?_
  · refine s_iconst C e_M_advances_195 (v := (0 : Int32)) ic_0 ?_
    refine s_goto (tgt := 200) C e_M_advances_196 rfl ?_
    refine s_iadd C e_M_advances_200 ?_
    refine s_put C fc_7 zm_lt_0 (zm_0 _ _ _) 9 (by decide) (zmp_9 _ _ _ _) (Nat.le_of_ble_eq_true rfl) e_M_advances_201 g_482 rfl rfl (fun σ3 => ?_)
    exact s_vret C e_M_advances_204
  · refine s_iconst C e_M_advances_199 (v := (1 : Int32)) ic_1 ?_
    refine s_iadd C e_M_advances_200 ?_
    refine s_put C fc_7 zm_lt_0 (zm_0 _ _ _) 9 (by decide) (zmp_9 _ _ _ _) (Nat.le_of_ble_eq_true rfl) e_M_advances_201 g_482 rfl rfl (fun σ2 => ?_)
    exact s_vret C e_M_advances_204
set_option maxRecDepth 100000 in
theorem w_M_advances {X : CX} (C : Cx X ZM RX7 cX7_advances 2 none 1 22)  (σ : St)  : Sm X ZM 2 none σ [(0, .ref (cq X 0))] 0 [] (m_M_advances σ) := by
  unfold m_M_advances
  refine s_aload_n C e_M_advances_0 rfl ?_
  refine s_aload_n C e_M_advances_1 rfl ?_
  refine s_get C fc_7 zm_lt_0 (zm_0 _ _ _) 9 (by decide) e_M_advances_2 g_482 rfl ?_
  refine s_put C fc_7 zm_lt_0 (zm_0 _ _ _) 10 (by decide) (zmp_10 _ _ _ _) (Nat.le_of_ble_eq_true rfl) e_M_advances_5 g_483 rfl rfl (fun σ1 => ?_)
  refine s_aload_n C e_M_advances_8 rfl ?_
  refine s_aload_n C e_M_advances_9 rfl ?_
  refine s_get C fc_7 zm_lt_0 (zm_0 _ _ _) 9 (by decide) e_M_advances_10 g_482 rfl ?_
  refine s_callV_1 C (c_M_byteAt C.inj _ _) wv_M_byteAt g_485 ⟨by decide, by decide⟩ fc_7 rfl zm_lt_0 (zm_0 _ _ _) rfl (Nat.le_of_ble_eq_true rfl) e_M_advances_13 (fun v2 σ3 => ?_)
  refine s_istore_n C e_M_advances_16 (by decide) ?_
  refine s_aload_n C e_M_advances_17 rfl ?_
  refine s_iload_n C e_M_advances_18 rfl ?_
  refine s_put C fc_7 zm_lt_0 (zm_0 _ _ _) 12 (by decide) (zmp_12 _ _ _ _) (Nat.le_of_ble_eq_true rfl) e_M_advances_19 g_484 rfl rfl (fun σ4 => ?_)
  refine s_iload_n C e_M_advances_22 rfl ?_
  refine s_bipush C e_M_advances_23 (v := (48 : Int32)) bp_48 ?_
  refine s_bipush C e_M_advances_25 (v := (57 : Int32)) bp_57 ?_
  refine s_callS_3 C (c_M_in C.inj _ _ _ _) wv_M_in g_447 ⟨by decide, by decide⟩ rfl (Nat.le_of_ble_eq_true rfl) e_M_advances_27 (fun v5 σ6 => ?_)
  refine s_if_eq (tgt := 135) C e_M_advances_30 rfl ?_ ?_
  · refine s_aload_n C e_M_advances_135 rfl ?_
    refine s_iload_n C e_M_advances_136 rfl ?_
    refine s_if_ge (tgt := 144) C e_M_advances_137 rfl ?_ ?_
    · refine s_iload_n C e_M_advances_144 rfl ?_
      refine s_bipush C e_M_advances_145 (v := (97 : Int32)) bp_97 ?_
      refine s_bipush C e_M_advances_147 (v := (122 : Int32)) bp_122 ?_
      refine s_callS_3 C (c_M_in C.inj _ _ _ _) wv_M_in g_447 ⟨by decide, by decide⟩ rfl (Nat.le_of_ble_eq_true rfl) e_M_advances_149 (fun v7 σ8 => ?_)
      refine s_if_eq (tgt := 159) C e_M_advances_152 rfl ?_ ?_
      · refine s_iload_n C e_M_advances_159 rfl ?_
        refine s_bipush C e_M_advances_160 (v := (44 : Int32)) bp_44 ?_
        refine s_icmp_ne (tgt := 169) C e_M_advances_162 rfl ?_ ?_
        · refine s_iconst C e_M_advances_165 (v := (3 : Int32)) ic_3 ?_
          refine s_goto (tgt := 180) C e_M_advances_166 rfl ?_
          exact s_cut (w_M_advances_B180 C _ _) ⟨rfl, trivial⟩
        · refine s_iload_n C e_M_advances_169 rfl ?_
          refine s_bipush C e_M_advances_170 (v := (59 : Int32)) bp_59 ?_
          refine s_icmp_ne (tgt := 179) C e_M_advances_172 rfl ?_ ?_
          · refine s_iconst C e_M_advances_175 (v := (4 : Int32)) ic_4 ?_
            refine s_goto (tgt := 180) C e_M_advances_176 rfl ?_
            exact s_cut (w_M_advances_B180 C _ _) ⟨rfl, trivial⟩
          · refine s_iconst C e_M_advances_179 (v := (5 : Int32)) ic_5 ?_
            exact s_cut (w_M_advances_B180 C _ _) ⟨rfl, trivial⟩
      · refine s_iconst C e_M_advances_155 (v := (1 : Int32)) ic_1 ?_
        refine s_goto (tgt := 180) C e_M_advances_156 rfl ?_
        exact s_cut (w_M_advances_B180 C _ _) ⟨rfl, trivial⟩
    · refine s_iconst C e_M_advances_140 (v := (0 : Int32)) ic_0 ?_
      refine s_goto (tgt := 180) C e_M_advances_141 rfl ?_
      exact s_cut (w_M_advances_B180 C _ _) ⟨rfl, trivial⟩
  · refine s_aload_n C e_M_advances_33 rfl ?_
    refine s_iconst C e_M_advances_34 (v := (0 : Int32)) ic_0 ?_
    refine s_put C fc_7 zm_lt_0 (zm_0 _ _ _) 12 (by decide) (zmp_12 _ _ _ _) (Nat.le_of_ble_eq_true rfl) e_M_advances_35 g_484 rfl rfl (fun σ9 => ?_)
    exact s_cut (w_M_advances_L38 C FU _) ⟨rfl, trivial⟩
theorem c_M_advances {l : Launch} {D : va_G} {k : Nat → ClassId} {q : Nat → Nat} (hq : Inj ZM q)  (σ : St)  : Ct l ZM D k q yX7_advances cX7_advances 2 none 1 22 [.ref (q 0)] σ (m_M_advances σ) :=
  Ct_of hq lcM (by decide) (Nat.le_of_ble_eq_true rfl) (fun _ _ _ _ _ _ _ _ _ _ C => w_M_advances C σ)
set_option maxRecDepth 100000 in
theorem w_M_isWell {X : CX} (C : Cx X ZM RX7 cX7_isWell 1 (some .boolean) 0 0)  (σ : St)  : Sm X ZM 1 (some .boolean) σ [(0, .ref (cq X 0))] 0 [] (m_M_isWell σ) := by
  unfold m_M_isWell
  refine s_aload_n C e_M_isWell_0 rfl ?_
  refine s_get C fc_7 zm_lt_0 (zm_0 _ _ _) 8 (by decide) e_M_isWell_1 g_490 rfl ?_
  refine s_if_ge (tgt := 11) C e_M_isWell_4 rfl ?_ ?_
  · refine s_iconst C e_M_isWell_11 (v := (0 : Int32)) ic_0 ?_
    exact s_zret C e_M_isWell_12
  · refine s_iconst C e_M_isWell_7 (v := (1 : Int32)) ic_1 ?_
    refine s_goto (tgt := 12) C e_M_isWell_8 rfl ?_
    exact s_zret C e_M_isWell_12
theorem c_M_isWell {l : Launch} {D : va_G} {k : Nat → ClassId} {q : Nat → Nat} (hq : Inj ZM q)  (σ : St)  : Ct l ZM D k q yX7_isWell cX7_isWell 1 (some .boolean) 0 0 [.ref (q 0)] σ (m_M_isWell σ) :=
  Ct_of hq lcM (by decide) (Nat.le_of_ble_eq_true rfl) (fun _ _ _ _ _ _ _ _ _ _ C => w_M_isWell C σ)
set_option maxRecDepth 100000 in
theorem w_M_takes {X : CX} (C : Cx X ZM RX7 cX7_takes 4 (some .int) 2 43)  (σ : St) (x1 : Int32) (x2 : Int32) : Sm X ZM 4 (some .int) σ [(0, .ref (cq X 0)), (1, .int x1), (2, .int x2)] 0 [] (m_M_takes σ x1 x2) := by
  unfold m_M_takes
  refine s_aload_n C e_M_takes_0 rfl ?_
  refine s_callV_0 C (c_M_isWell C.inj _) wv_M_isWell g_496 ⟨by decide, by decide⟩ fc_7 rfl zm_lt_0 (zm_0 _ _ _) rfl (Nat.le_of_ble_eq_true rfl) e_M_takes_1 (fun v1 σ2 => ?_)
  refine s_if_ne (tgt := 9) C e_M_takes_4 rfl ?_ ?_
  · refine s_iconst C e_M_takes_7 (v := (0 : Int32)) ic_0 ?_
    exact s_iret C e_M_takes_8
  · refine s_iload_n C e_M_takes_9 rfl ?_
    refine s_if_ne (tgt := 28) C e_M_takes_10 rfl ?_ ?_
    · refine s_aload_n C e_M_takes_13 rfl ?_
      refine s_aload_n C e_M_takes_14 rfl ?_
      refine s_get C fc_7 zm_lt_0 (zm_0 _ _ _) 10 (by decide) e_M_takes_15 g_483 rfl ?_
      refine s_put C fc_7 zm_lt_0 (zm_0 _ _ _) 8 (by decide) (zmp_8 _ _ _ _) (Nat.le_of_ble_eq_true rfl) e_M_takes_18 g_490 rfl rfl (fun σ6 => ?_)
      refine s_aload_n C e_M_takes_21 rfl ?_
      refine s_iload_n C e_M_takes_22 rfl ?_
      refine s_put C fc_7 zm_lt_0 (zm_0 _ _ _) 7 (by decide) (zmp_7 _ _ _ _) (Nat.le_of_ble_eq_true rfl) e_M_takes_23 g_495 rfl rfl (fun σ7 => ?_)
      refine s_iconst C e_M_takes_26 (v := (0 : Int32)) ic_0 ?_
      exact s_iret C e_M_takes_27
    · refine s_aload_n C e_M_takes_28 rfl ?_
      refine s_get C fc_7 zm_lt_0 (zm_0 _ _ _) 12 (by decide) e_M_takes_29 g_484 rfl ?_
      refine s_nm (fun y3 => ?_)
      refine s_istore_n C e_M_takes_32 (by decide) ?_
      refine s_aload_n C e_M_takes_33 rfl ?_
      refine s_callVv_0 C (c_M_advances C.inj _) wv_M_advances g_491 ⟨by decide, by decide⟩ fc_7 rfl zm_lt_0 (zm_0 _ _ _) rfl (Nat.le_of_ble_eq_true rfl) e_M_takes_34 (fun v4 σ5 => ?_)
      refine s_iload_n C e_M_takes_37 rfl ?_
      exact s_iret C e_M_takes_38
theorem c_M_takes {l : Launch} {D : va_G} {k : Nat → ClassId} {q : Nat → Nat} (hq : Inj ZM q)  (σ : St) (x1 : Int32) (x2 : Int32) : Ct l ZM D k q yX7_takes cX7_takes 4 (some .int) 2 43 [.ref (q 0), .int x1, .int x2] σ (m_M_takes σ x1 x2) :=
  Ct_of hq lcM (by decide) (Nat.le_of_ble_eq_true rfl) (fun _ _ _ _ _ _ _ _ _ _ C => w_M_takes C σ x1 x2)
set_option maxRecDepth 100000 in
theorem w_M_figure_B22 {X : CX} (C : Cx X ZM RX7 cX7_figure 3 (some .int) 3 66)   (σ : St) (x1 : Int32) (x2 : Int32) : Sm X ZM 3 (some .int) σ [(0, .ref (cq X 0)), (1, .int x1), (2, .int x2)] 22 [] (m_M_figure_B22 σ x1 x2) := by
  unfold m_M_figure_B22
  refine s_aload_n C e_M_figure_22 rfl ?_
  refine s_aload_n C e_M_figure_23 rfl ?_
  refine s_get C fc_7 zm_lt_0 (zm_0 _ _ _) 12 (by decide) e_M_figure_24 g_484 rfl ?_
  refine s_iload_n C e_M_figure_27 rfl ?_
  refine s_iload_n C e_M_figure_28 rfl ?_
  refine s_callS_3 C (c_M_in C.inj _ _ _ _) wv_M_in g_447 ⟨by decide, by decide⟩ rfl (Nat.le_of_ble_eq_true rfl) e_M_figure_29 (fun v1 σ2 => ?_)
  refine s_iconst C e_M_figure_32 (v := (2 : Int32)) ic_2 ?_
  refine s_callV_2 C (c_M_takes C.inj _ _ _) wv_M_takes g_500 ⟨by decide, by decide⟩ fc_7 rfl zm_lt_0 (zm_0 _ _ _) rfl (Nat.le_of_ble_eq_true rfl) e_M_figure_33 (fun v3 σ4 => ?_)
  exact s_iret C e_M_figure_36
set_option maxRecDepth 100000 in
theorem w_M_figure {X : CX} (C : Cx X ZM RX7 cX7_figure 3 (some .int) 3 66)  (σ : St) (x1 : Int32) (x2 : Int32) : Sm X ZM 3 (some .int) σ [(0, .ref (cq X 0)), (1, .int x1), (2, .int x2)] 0 [] (m_M_figure σ x1 x2) := by
  unfold m_M_figure
  refine s_aload_n C e_M_figure_0 rfl ?_
  refine s_callV_0 C (c_M_isWell C.inj _) wv_M_isWell g_496 ⟨by decide, by decide⟩ fc_7 rfl zm_lt_0 (zm_0 _ _ _) rfl (Nat.le_of_ble_eq_true rfl) e_M_figure_1 (fun v1 σ2 => ?_)
  refine s_if_eq (tgt := 22) C e_M_figure_4 rfl ?_ ?_
  · exact s_cut (w_M_figure_B22 C _ _ _) ⟨rfl, rfl, rfl, trivial⟩
  · refine s_aload_n C e_M_figure_7 rfl ?_
    refine s_get C fc_7 zm_lt_0 (zm_0 _ _ _) 11 (by decide) e_M_figure_8 g_489 rfl ?_
    refine s_iconst C e_M_figure_11 (v := (2 : Int32)) ic_2 ?_
    refine s_icmp_eq (tgt := 22) C e_M_figure_12 rfl ?_ ?_
    · exact s_cut (w_M_figure_B22 C _ _ _) ⟨rfl, rfl, rfl, trivial⟩
    · refine s_aload_n C e_M_figure_15 rfl ?_
      refine s_iconst C e_M_figure_16 (v := (0 : Int32)) ic_0 ?_
      refine s_iconst C e_M_figure_17 (v := (1 : Int32)) ic_1 ?_
      refine s_callV_2 C (c_M_takes C.inj _ _ _) wv_M_takes g_500 ⟨by decide, by decide⟩ fc_7 rfl zm_lt_0 (zm_0 _ _ _) rfl (Nat.le_of_ble_eq_true rfl) e_M_figure_18 (fun v3 σ4 => ?_)
      exact s_iret C e_M_figure_21
theorem c_M_figure {l : Launch} {D : va_G} {k : Nat → ClassId} {q : Nat → Nat} (hq : Inj ZM q)  (σ : St) (x1 : Int32) (x2 : Int32) : Ct l ZM D k q yX7_figure cX7_figure 3 (some .int) 3 66 [.ref (q 0), .int x1, .int x2] σ (m_M_figure σ x1 x2) :=
  Ct_of hq lcM (by decide) (Nat.le_of_ble_eq_true rfl) (fun _ _ _ _ _ _ _ _ _ _ C => w_M_figure C σ x1 x2)
set_option maxRecDepth 100000 in
theorem w_M_kindOf {X : CX} (C : Cx X ZM RX7 cX7_kindOf 1 (some .int) 0 0)  (σ : St) (x0 : Int32) : Sm X ZM 1 (some .int) σ [(0, .int x0)] 0 [] (m_M_kindOf σ x0) := by
  unfold m_M_kindOf
  refine s_iload_n C e_M_kindOf_0 rfl ?_
  refine s_bipush C e_M_kindOf_1 (v := (97 : Int32)) bp_97 ?_
  refine s_icmp_ne (tgt := 10) C e_M_kindOf_3 rfl ?_ ?_
  · refine s_iconst C e_M_kindOf_6 (v := (1 : Int32)) ic_1 ?_
    refine s_goto (tgt := 51) C e_M_kindOf_7 rfl ?_
    exact s_iret C e_M_kindOf_51
  · refine s_iload_n C e_M_kindOf_10 rfl ?_
    refine s_bipush C e_M_kindOf_11 (v := (115 : Int32)) bp_115 ?_
    refine s_icmp_ne (tgt := 20) C e_M_kindOf_13 rfl ?_ ?_
    · refine s_iconst C e_M_kindOf_16 (v := (2 : Int32)) ic_2 ?_
      refine s_goto (tgt := 51) C e_M_kindOf_17 rfl ?_
      exact s_iret C e_M_kindOf_51
    · refine s_iload_n C e_M_kindOf_20 rfl ?_
      refine s_bipush C e_M_kindOf_21 (v := (114 : Int32)) bp_114 ?_
      refine s_icmp_ne (tgt := 30) C e_M_kindOf_23 rfl ?_ ?_
      · refine s_iconst C e_M_kindOf_26 (v := (3 : Int32)) ic_3 ?_
        refine s_goto (tgt := 51) C e_M_kindOf_27 rfl ?_
        exact s_iret C e_M_kindOf_51
      · refine s_iload_n C e_M_kindOf_30 rfl ?_
        refine s_bipush C e_M_kindOf_31 (v := (111 : Int32)) bp_111 ?_
        refine s_icmp_ne (tgt := 40) C e_M_kindOf_33 rfl ?_ ?_
        · refine s_iconst C e_M_kindOf_36 (v := (4 : Int32)) ic_4 ?_
          refine s_goto (tgt := 51) C e_M_kindOf_37 rfl ?_
          exact s_iret C e_M_kindOf_51
        · refine s_iload_n C e_M_kindOf_40 rfl ?_
          refine s_bipush C e_M_kindOf_41 (v := (119 : Int32)) bp_119 ?_
          refine s_icmp_ne (tgt := 50) C e_M_kindOf_43 rfl ?_ ?_
          · refine s_iconst C e_M_kindOf_46 (v := (5 : Int32)) ic_5 ?_
            refine s_goto (tgt := 51) C e_M_kindOf_47 rfl ?_
            exact s_iret C e_M_kindOf_51
          · refine s_iconst C e_M_kindOf_50 (v := (0 : Int32)) ic_0 ?_
            exact s_iret C e_M_kindOf_51
theorem c_M_kindOf {l : Launch} {D : va_G} {k : Nat → ClassId} {q : Nat → Nat} (hq : Inj ZM q)  (σ : St) (x0 : Int32) : Ct l ZM D k q yX7_kindOf cX7_kindOf 1 (some .int) 0 0 [.int x0] σ (m_M_kindOf σ x0) :=
  Ct_of hq lcM (by decide) (Nat.le_of_ble_eq_true rfl) (fun _ _ _ _ _ _ _ _ _ _ C => w_M_kindOf C σ x0)
set_option maxRecDepth 100000 in
theorem w_M_follows_B14 {X : CX} (C : Cx X ZM RX7 cX7_follows 3 (some .int) 4 88)   (σ : St) (x1 : Int32) (x2 : Int32) (s0 : Int32) : Sm X ZM 3 (some .int) σ [(0, .ref (cq X 0)), (1, .int x1), (2, .int x2)] 14 [.int s0, .ref (cq X 0)] (m_M_follows_B14 σ x1 x2 s0) := by
  unfold m_M_follows_B14
  refine s_iconst C e_M_follows_14 (v := (1 : Int32)) ic_1 ?_
  refine s_callV_2 C (c_M_takes C.inj _ _ _) wv_M_takes g_500 ⟨by decide, by decide⟩ fc_7 rfl zm_lt_0 (zm_0 _ _ _) rfl (Nat.le_of_ble_eq_true rfl) e_M_follows_15 (fun v1 σ2 => ?_)
  refine s_pop C e_M_follows_18 rfl ?_
  refine s_aload_n C e_M_follows_19 rfl ?_
  refine s_iload_n C e_M_follows_20 rfl ?_
  refine s_iload_n C e_M_follows_21 rfl ?_
  refine s_callV_2 C (c_M_figure C.inj _ _ _) wv_M_figure g_504 ⟨by decide, by decide⟩ fc_7 rfl zm_lt_0 (zm_0 _ _ _) rfl (Nat.le_of_ble_eq_true rfl) e_M_follows_22 (fun v3 σ4 => ?_)
  exact s_iret C e_M_follows_25
set_option maxRecDepth 100000 in
theorem w_M_follows {X : CX} (C : Cx X ZM RX7 cX7_follows 3 (some .int) 4 88)  (σ : St) (x1 : Int32) (x2 : Int32) : Sm X ZM 3 (some .int) σ [(0, .ref (cq X 0)), (1, .int x1), (2, .int x2)] 0 [] (m_M_follows σ x1 x2) := by
  unfold m_M_follows
  refine s_aload_n C e_M_follows_0 rfl ?_
  refine s_aload_n C e_M_follows_1 rfl ?_
  refine s_get C fc_7 zm_lt_0 (zm_0 _ _ _) 11 (by decide) e_M_follows_2 g_489 rfl ?_
  refine s_iconst C e_M_follows_5 (v := (3 : Int32)) ic_3 ?_
  refine s_icmp_ne (tgt := 13) C e_M_follows_6 rfl ?_ ?_
  · refine s_iconst C e_M_follows_9 (v := (1 : Int32)) ic_1 ?_
    refine s_goto (tgt := 14) C e_M_follows_10 rfl ?_
    exact s_cut (w_M_follows_B14 C _ _ _ _) ⟨rfl, rfl, rfl, trivial⟩
  · refine s_iconst C e_M_follows_13 (v := (0 : Int32)) ic_0 ?_
    exact s_cut (w_M_follows_B14 C _ _ _ _) ⟨rfl, rfl, rfl, trivial⟩
theorem c_M_follows {l : Launch} {D : va_G} {k : Nat → ClassId} {q : Nat → Nat} (hq : Inj ZM q)  (σ : St) (x1 : Int32) (x2 : Int32) : Ct l ZM D k q yX7_follows cX7_follows 3 (some .int) 4 88 [.ref (q 0), .int x1, .int x2] σ (m_M_follows σ x1 x2) :=
  Ct_of hq lcM (by decide) (Nat.le_of_ble_eq_true rfl) (fun _ _ _ _ _ _ _ _ _ _ C => w_M_follows C σ x1 x2)
set_option maxRecDepth 100000 in
theorem w_M_readsCell_B69 {X : CX} (C : Cx X ZM RX7 cX7_readsCell 3 none 4 88)   (σ : St) (x1 : Int32) (x2 : Int32) (s0 : Int32) : Sm X ZM 3 none σ [(0, .ref (cq X 0)), (1, .int x1), (2, .int x2)] 69 [.int s0, .ref (cq X 0)] (m_M_readsCell_B69 σ x1 x2 s0) := by
  unfold m_M_readsCell_B69
  refine s_iconst C e_M_readsCell_69 (v := (1 : Int32)) ic_1 ?_
  refine s_callV_2 C (c_M_takes C.inj _ _ _) wv_M_takes g_500 ⟨by decide, by decide⟩ fc_7 rfl zm_lt_0 (zm_0 _ _ _) rfl (Nat.le_of_ble_eq_true rfl) e_M_readsCell_70 (fun v1 σ2 => ?_)
  refine s_pop C e_M_readsCell_73 rfl ?_
  refine s_aload_n C e_M_readsCell_74 rfl ?_
  refine s_callV_0 C (c_M_isWell C.inj _) wv_M_isWell g_496 ⟨by decide, by decide⟩ fc_7 rfl zm_lt_0 (zm_0 _ _ _) rfl (Nat.le_of_ble_eq_true rfl) e_M_readsCell_75 (fun v3 σ4 => ?_)
  refine s_if_eq (tgt := 98) C e_M_readsCell_78 rfl ?_ ?_
  · exact s_vret C e_M_readsCell_98
  · refine s_aload_n C e_M_readsCell_81 rfl ?_
    refine s_get C fc_7 zm_lt_0 (zm_0 _ _ _) 14 (by decide) e_M_readsCell_82 g_508 rfl ?_
    refine s_iload_n C e_M_readsCell_85 rfl ?_
    refine s_iload_n C e_M_readsCell_86 rfl ?_
    refine s_iast C (za_lt isA7) (za isA7) e_M_readsCell_87 (fun σ5 => ?_)
    refine s_aload_n C e_M_readsCell_88 rfl ?_
    refine s_get C fc_7 zm_lt_0 (zm_0 _ _ _) 14 (by decide) e_M_readsCell_89 g_508 rfl ?_
    refine s_iconst C e_M_readsCell_92 (v := (1 : Int32)) ic_1 ?_
    refine s_dup2 C e_M_readsCell_93 rfl rfl ?_
    refine s_iald C (za_lt isA7) (za isA7) e_M_readsCell_94 ?_
    refine s_iconst C e_M_readsCell_95 (v := (1 : Int32)) ic_1 ?_
    refine s_iadd C e_M_readsCell_96 ?_
    refine s_iast C (za_lt isA7) (za isA7) e_M_readsCell_97 (fun σ6 => ?_)
    exact s_vret C e_M_readsCell_98
set_option maxRecDepth 100000 in
theorem w_M_readsCell_B45 {X : CX} (C : Cx X ZM RX7 cX7_readsCell 3 none 4 88)   (σ : St) (s0 : Int32) (s1 : Int32) : Sm X ZM 3 none σ [(0, .ref (cq X 0))] 45 [.int s0, .int s1] (m_M_readsCell_B45 σ s0 s1) := by
  unfold m_M_readsCell_B45
  refine s_iadd C e_M_readsCell_45 ?_
  refine s_nm (fun y1 => ?_)
  refine s_istore_n C e_M_readsCell_46 (by decide) ?_
  refine s_aload_n C e_M_readsCell_47 rfl ?_
  refine s_iconst C e_M_readsCell_48 (v := (0 : Int32)) ic_0 ?_
  refine s_bipush C e_M_readsCell_49 (v := (9 : Int32)) bp_9 ?_
  refine s_callV_2 C (c_M_figure C.inj _ _ _) wv_M_figure g_504 ⟨by decide, by decide⟩ fc_7 rfl zm_lt_0 (zm_0 _ _ _) rfl (Nat.le_of_ble_eq_true rfl) e_M_readsCell_51 (fun v2 σ3 => ?_)
  refine s_istore_n C e_M_readsCell_54 (by decide) ?_
  refine s_aload_n C e_M_readsCell_55 rfl ?_
  refine s_aload_n C e_M_readsCell_56 rfl ?_
  refine s_get C fc_7 zm_lt_0 (zm_0 _ _ _) 11 (by decide) e_M_readsCell_57 g_489 rfl ?_
  refine s_iconst C e_M_readsCell_60 (v := (4 : Int32)) ic_4 ?_
  refine s_icmp_ne (tgt := 68) C e_M_readsCell_61 rfl ?_ ?_
  · refine s_iconst C e_M_readsCell_64 (v := (1 : Int32)) ic_1 ?_
    refine s_goto (tgt := 69) C e_M_readsCell_65 rfl ?_
    exact s_cut (w_M_readsCell_B69 C _ _ _ _) ⟨rfl, rfl, rfl, trivial⟩
  · refine s_iconst C e_M_readsCell_68 (v := (0 : Int32)) ic_0 ?_
    exact s_cut (w_M_readsCell_B69 C _ _ _ _) ⟨rfl, rfl, rfl, trivial⟩
set_option maxRecDepth 100000 in
theorem w_M_readsCell_B17 {X : CX} (C : Cx X ZM RX7 cX7_readsCell 3 none 4 88)   (σ : St) (s0 : Int32) : Sm X ZM 3 none σ [(0, .ref (cq X 0))] 17 [.int s0, .ref (cq X 0)] (m_M_readsCell_B17 σ s0) := by
  unfold m_M_readsCell_B17
  refine s_iconst C e_M_readsCell_17 (v := (3 : Int32)) ic_3 ?_
  refine s_callV_2 C (c_M_takes C.inj _ _ _) wv_M_takes g_500 ⟨by decide, by decide⟩ fc_7 rfl zm_lt_0 (zm_0 _ _ _) rfl (Nat.le_of_ble_eq_true rfl) e_M_readsCell_18 (fun v1 σ2 => ?_)
  refine s_pop C e_M_readsCell_21 rfl ?_
  refine s_bipush C e_M_readsCell_22 (v := (6 : Int32)) bp_6 ?_
  refine s_aload_n C e_M_readsCell_24 rfl ?_
  refine s_get C fc_7 zm_lt_0 (zm_0 _ _ _) 14 (by decide) e_M_readsCell_25 g_508 rfl ?_
  refine s_iconst C e_M_readsCell_28 (v := (1 : Int32)) ic_1 ?_
  refine s_iald C (za_lt isA7) (za isA7) e_M_readsCell_29 ?_
  refine s_bipush C e_M_readsCell_30 (v := (16 : Int32)) bp_16 ?_
  refine s_icmp_ge (tgt := 44) C e_M_readsCell_32 rfl ?_ ?_
  · refine s_iconst C e_M_readsCell_44 (v := (0 : Int32)) ic_0 ?_
    exact s_cut (w_M_readsCell_B45 C _ _ _) ⟨rfl, trivial⟩
  · refine s_aload_n C e_M_readsCell_35 rfl ?_
    refine s_get C fc_7 zm_lt_0 (zm_0 _ _ _) 14 (by decide) e_M_readsCell_36 g_508 rfl ?_
    refine s_iconst C e_M_readsCell_39 (v := (1 : Int32)) ic_1 ?_
    refine s_iald C (za_lt isA7) (za isA7) e_M_readsCell_40 ?_
    refine s_goto (tgt := 45) C e_M_readsCell_41 rfl ?_
    exact s_cut (w_M_readsCell_B45 C _ _ _) ⟨rfl, trivial⟩
set_option maxRecDepth 100000 in
theorem w_M_readsCell {X : CX} (C : Cx X ZM RX7 cX7_readsCell 3 none 4 88)  (σ : St)  : Sm X ZM 3 none σ [(0, .ref (cq X 0))] 0 [] (m_M_readsCell σ) := by
  unfold m_M_readsCell
  refine s_aload_n C e_M_readsCell_0 rfl ?_
  refine s_aload_n C e_M_readsCell_1 rfl ?_
  refine s_get C fc_7 zm_lt_0 (zm_0 _ _ _) 14 (by decide) e_M_readsCell_2 g_508 rfl ?_
  refine s_iconst C e_M_readsCell_5 (v := (1 : Int32)) ic_1 ?_
  refine s_iald C (za_lt isA7) (za isA7) e_M_readsCell_6 ?_
  refine s_bipush C e_M_readsCell_7 (v := (16 : Int32)) bp_16 ?_
  refine s_icmp_ge (tgt := 16) C e_M_readsCell_9 rfl ?_ ?_
  · refine s_iconst C e_M_readsCell_16 (v := (0 : Int32)) ic_0 ?_
    exact s_cut (w_M_readsCell_B17 C _ _) ⟨rfl, trivial⟩
  · refine s_iconst C e_M_readsCell_12 (v := (1 : Int32)) ic_1 ?_
    refine s_goto (tgt := 17) C e_M_readsCell_13 rfl ?_
    exact s_cut (w_M_readsCell_B17 C _ _) ⟨rfl, trivial⟩
theorem c_M_readsCell {l : Launch} {D : va_G} {k : Nat → ClassId} {q : Nat → Nat} (hq : Inj ZM q)  (σ : St)  : Ct l ZM D k q yX7_readsCell cX7_readsCell 3 none 4 88 [.ref (q 0)] σ (m_M_readsCell σ) :=
  Ct_of hq lcM (by decide) (Nat.le_of_ble_eq_true rfl) (fun _ _ _ _ _ _ _ _ _ _ C => w_M_readsCell C σ)
set_option maxRecDepth 100000 in
theorem w_M_homeOf_B2 {X : CX} (C : Cx X ZM RX7 cX7_homeOf 3 (some .int) 0 0) {w1 : Nat} (hw1 : isA w1) (r2 : St → Int32 → Int32 → Rt) (hr2 : ∀ (σ : St) (x1 : Int32) (x2 : Int32), Sm X ZM 3 (some .int) σ [(0, .ref (cq X w1)), (1, .int x1), (2, .int x2)] 2 [] (r2 σ x1 x2)) (σ : St) (x1 : Int32) (x2 : Int32) : Sm X ZM 3 (some .int) σ [(0, .ref (cq X w1)), (1, .int x1), (2, .int x2)] 2 [] (m_M_homeOf_B2 w1 r2 σ x1 x2) := by
  unfold m_M_homeOf_B2
  refine s_iload_n C e_M_homeOf_2 rfl ?_
  refine s_aload_n C e_M_homeOf_3 rfl ?_
  refine s_iconst C e_M_homeOf_4 (v := (2 : Int32)) ic_2 ?_
  refine s_iald C (za_lt hw1) (za hw1) e_M_homeOf_5 ?_
  refine s_icmp_ge (tgt := 32) C e_M_homeOf_6 rfl ?_ ?_
  · refine s_ldc C e_M_homeOf_32 g_452 ?_
    exact s_iret C e_M_homeOf_34
  · refine s_aload_n C e_M_homeOf_9 rfl ?_
    refine s_bipush C e_M_homeOf_10 (v := (22 : Int32)) bp_22 ?_
    refine s_bipush C e_M_homeOf_12 (v := (6 : Int32)) bp_6 ?_
    refine s_iload_n C e_M_homeOf_14 rfl ?_
    refine s_imul C e_M_homeOf_15 ?_
    refine s_iadd C e_M_homeOf_16 ?_
    refine s_iconst C e_M_homeOf_17 (v := (1 : Int32)) ic_1 ?_
    refine s_iadd C e_M_homeOf_18 ?_
    refine s_iald C (za_lt hw1) (za hw1) e_M_homeOf_19 ?_
    refine s_iload_n C e_M_homeOf_20 rfl ?_
    refine s_icmp_ne (tgt := 26) C e_M_homeOf_21 rfl ?_ ?_
    · refine s_iload_n C e_M_homeOf_24 rfl ?_
      exact s_iret C e_M_homeOf_25
    · refine s_iinc C e_M_homeOf_26 (v := (1 : Int32)) rfl (by decide) ii_1 ?_
      refine s_goto (tgt := 2) C e_M_homeOf_29 rfl ?_
      exact s_cut (hr2 _ _ _) ⟨rfl, rfl, rfl, trivial⟩
theorem w_M_homeOf_L2 {X : CX} (C : Cx X ZM RX7 cX7_homeOf 3 (some .int) 0 0) {w1 : Nat} (hw1 : isA w1)  : ∀ (n : Nat) (σ : St) (x1 : Int32) (x2 : Int32), Sm X ZM 3 (some .int) σ [(0, .ref (cq X w1)), (1, .int x1), (2, .int x2)] 2 [] (m_M_homeOf_L2 w1 n σ x1 x2)
  | 0, _, _, _ => s_none
  | n + 1, σ, x1, x2 => w_M_homeOf_B2 C hw1 (m_M_homeOf_L2 w1 n) (w_M_homeOf_L2 C hw1 n) σ x1 x2
set_option maxRecDepth 100000 in
theorem w_M_homeOf {X : CX} (C : Cx X ZM RX7 cX7_homeOf 3 (some .int) 0 0) {w1 : Nat} (hw1 : isA w1) (σ : St) (x1 : Int32) : Sm X ZM 3 (some .int) σ [(0, .ref (cq X w1)), (1, .int x1)] 0 [] (m_M_homeOf w1 σ x1) := by
  unfold m_M_homeOf
  refine s_iconst C e_M_homeOf_0 (v := (0 : Int32)) ic_0 ?_
  refine s_istore_n C e_M_homeOf_1 (by decide) ?_
  exact s_cut (w_M_homeOf_L2 C hw1 FU _ _ _) ⟨rfl, rfl, rfl, trivial⟩
theorem c_M_homeOf {l : Launch} {D : va_G} {k : Nat → ClassId} {q : Nat → Nat} (hq : Inj ZM q) {w1 : Nat} (hw1 : isA w1) (σ : St) (x1 : Int32) : Ct l ZM D k q yX7_homeOf cX7_homeOf 3 (some .int) 0 0 [.ref (q w1), .int x1] σ (m_M_homeOf w1 σ x1) :=
  Ct_of hq lcM (by decide) (Nat.le_of_ble_eq_true rfl) (fun _ _ _ _ _ _ _ _ _ _ C => w_M_homeOf C hw1 σ x1)
set_option maxRecDepth 100000 in
theorem w_M_takes2 {X : CX} (C : Cx X ZM RX7 cX7_takes2 2 none 3 66)  (σ : St) (x1 : Int32) : Sm X ZM 2 none σ [(0, .ref (cq X 0)), (1, .int x1)] 0 [] (m_M_takes2 σ x1) := by
  unfold m_M_takes2
  refine s_aload_n C e_M_takes2_0 rfl ?_
  refine s_callV_0 C (c_M_isWell C.inj _) wv_M_isWell g_496 ⟨by decide, by decide⟩ fc_7 rfl zm_lt_0 (zm_0 _ _ _) rfl (Nat.le_of_ble_eq_true rfl) e_M_takes2_1 (fun v1 σ2 => ?_)
  refine s_if_eq (tgt := 18) C e_M_takes2_4 rfl ?_ ?_
  · exact s_vret C e_M_takes2_18
  · refine s_iload_n C e_M_takes2_7 rfl ?_
    refine s_if_ne (tgt := 18) C e_M_takes2_8 rfl ?_ ?_
    · refine s_aload_n C e_M_takes2_11 rfl ?_
      refine s_iconst C e_M_takes2_12 (v := (0 : Int32)) ic_0 ?_
      refine s_iconst C e_M_takes2_13 (v := (2 : Int32)) ic_2 ?_
      refine s_callV_2 C (c_M_takes C.inj _ _ _) wv_M_takes g_500 ⟨by decide, by decide⟩ fc_7 rfl zm_lt_0 (zm_0 _ _ _) rfl (Nat.le_of_ble_eq_true rfl) e_M_takes2_14 (fun v3 σ4 => ?_)
      refine s_pop C e_M_takes2_17 rfl ?_
      exact s_vret C e_M_takes2_18
    · exact s_vret C e_M_takes2_18
theorem c_M_takes2 {l : Launch} {D : va_G} {k : Nat → ClassId} {q : Nat → Nat} (hq : Inj ZM q)  (σ : St) (x1 : Int32) : Ct l ZM D k q yX7_takes2 cX7_takes2 2 none 3 66 [.ref (q 0), .int x1] σ (m_M_takes2 σ x1) :=
  Ct_of hq lcM (by decide) (Nat.le_of_ble_eq_true rfl) (fun _ _ _ _ _ _ _ _ _ _ C => w_M_takes2 C σ x1)
set_option maxRecDepth 100000 in
theorem w_M_readsPin_B136 {X : CX} (C : Cx X ZM RX7 cX7_readsPin 6 none 5 110)   (σ : St) (x1 : Int32) (x2 : Int32) (x3 : Int32) (x4 : Int32) (x5 : Int32) (s0 : Int32) : Sm X ZM 6 none σ [(0, .ref (cq X 0)), (1, .int x1), (2, .int x2), (3, .int x3), (4, .int x4), (5, .int x5)] 136 [.int s0, .ref (cq X 0)] (m_M_readsPin_B136 σ x1 x2 x3 x4 x5 s0) := by
  unfold m_M_readsPin_B136
  refine s_iconst C e_M_readsPin_136 (v := (1 : Int32)) ic_1 ?_
  refine s_callV_2 C (c_M_takes C.inj _ _ _) wv_M_takes g_500 ⟨by decide, by decide⟩ fc_7 rfl zm_lt_0 (zm_0 _ _ _) rfl (Nat.le_of_ble_eq_true rfl) e_M_readsPin_137 (fun v1 σ2 => ?_)
  refine s_pop C e_M_readsPin_140 rfl ?_
  refine s_aload_n C e_M_readsPin_141 rfl ?_
  refine s_callV_0 C (c_M_isWell C.inj _) wv_M_isWell g_496 ⟨by decide, by decide⟩ fc_7 rfl zm_lt_0 (zm_0 _ _ _) rfl (Nat.le_of_ble_eq_true rfl) e_M_readsPin_142 (fun v3 σ4 => ?_)
  refine s_if_eq (tgt := 212) C e_M_readsPin_145 rfl ?_ ?_
  · exact s_vret C e_M_readsPin_212
  · refine s_aload_n C e_M_readsPin_148 rfl ?_
    refine s_get C fc_7 zm_lt_0 (zm_0 _ _ _) 14 (by decide) e_M_readsPin_149 g_508 rfl ?_
    refine s_iload_n C e_M_readsPin_152 rfl ?_
    refine s_iload_n C e_M_readsPin_153 rfl ?_
    refine s_iast C (za_lt isA7) (za isA7) e_M_readsPin_154 (fun σ5 => ?_)
    refine s_aload_n C e_M_readsPin_155 rfl ?_
    refine s_get C fc_7 zm_lt_0 (zm_0 _ _ _) 14 (by decide) e_M_readsPin_156 g_508 rfl ?_
    refine s_iload_n C e_M_readsPin_159 rfl ?_
    refine s_iconst C e_M_readsPin_160 (v := (1 : Int32)) ic_1 ?_
    refine s_iadd C e_M_readsPin_161 ?_
    refine s_iload_n C e_M_readsPin_162 rfl ?_
    refine s_iast C (za_lt isA7) (za isA7) e_M_readsPin_163 (fun σ6 => ?_)
    refine s_aload_n C e_M_readsPin_164 rfl ?_
    refine s_get C fc_7 zm_lt_0 (zm_0 _ _ _) 14 (by decide) e_M_readsPin_165 g_508 rfl ?_
    refine s_iload_n C e_M_readsPin_168 rfl ?_
    refine s_iconst C e_M_readsPin_169 (v := (2 : Int32)) ic_2 ?_
    refine s_iadd C e_M_readsPin_170 ?_
    refine s_iload C e_M_readsPin_171 rfl ?_
    refine s_iast C (za_lt isA7) (za isA7) e_M_readsPin_173 (fun σ7 => ?_)
    refine s_aload_n C e_M_readsPin_174 rfl ?_
    refine s_get C fc_7 zm_lt_0 (zm_0 _ _ _) 14 (by decide) e_M_readsPin_175 g_508 rfl ?_
    refine s_iload_n C e_M_readsPin_178 rfl ?_
    refine s_iconst C e_M_readsPin_179 (v := (3 : Int32)) ic_3 ?_
    refine s_iadd C e_M_readsPin_180 ?_
    refine s_iload C e_M_readsPin_181 rfl ?_
    refine s_iast C (za_lt isA7) (za isA7) e_M_readsPin_183 (fun σ8 => ?_)
    refine s_aload_n C e_M_readsPin_184 rfl ?_
    refine s_get C fc_7 zm_lt_0 (zm_0 _ _ _) 14 (by decide) e_M_readsPin_185 g_508 rfl ?_
    refine s_iload_n C e_M_readsPin_188 rfl ?_
    refine s_iconst C e_M_readsPin_189 (v := (4 : Int32)) ic_4 ?_
    refine s_iadd C e_M_readsPin_190 ?_
    refine s_iload_n C e_M_readsPin_191 rfl ?_
    refine s_iast C (za_lt isA7) (za isA7) e_M_readsPin_192 (fun σ9 => ?_)
    refine s_aload_n C e_M_readsPin_193 rfl ?_
    refine s_get C fc_7 zm_lt_0 (zm_0 _ _ _) 14 (by decide) e_M_readsPin_194 g_508 rfl ?_
    refine s_iload_n C e_M_readsPin_197 rfl ?_
    refine s_iconst C e_M_readsPin_198 (v := (5 : Int32)) ic_5 ?_
    refine s_iadd C e_M_readsPin_199 ?_
    refine s_iload_n C e_M_readsPin_200 rfl ?_
    refine s_iast C (za_lt isA7) (za isA7) e_M_readsPin_201 (fun σ10 => ?_)
    refine s_aload_n C e_M_readsPin_202 rfl ?_
    refine s_get C fc_7 zm_lt_0 (zm_0 _ _ _) 14 (by decide) e_M_readsPin_203 g_508 rfl ?_
    refine s_iconst C e_M_readsPin_206 (v := (2 : Int32)) ic_2 ?_
    refine s_dup2 C e_M_readsPin_207 rfl rfl ?_
    refine s_iald C (za_lt isA7) (za isA7) e_M_readsPin_208 ?_
    refine s_iconst C e_M_readsPin_209 (v := (1 : Int32)) ic_1 ?_
    refine s_iadd C e_M_readsPin_210 ?_
    refine s_iast C (za_lt isA7) (za isA7) e_M_readsPin_211 (fun σ11 => ?_)
    exact s_vret C e_M_readsPin_212
set_option maxRecDepth 100000 in
theorem w_M_readsPin_B88 {X : CX} (C : Cx X ZM RX7 cX7_readsPin 6 none 5 110)   (σ : St) (x1 : Int32) (x2 : Int32) (s0 : Int32) : Sm X ZM 6 none σ [(0, .ref (cq X 0)), (1, .int x1), (2, .int x2)] 88 [.int s0, .ref (cq X 0)] (m_M_readsPin_B88 σ x1 x2 s0) := by
  unfold m_M_readsPin_B88
  refine s_callVv_1 C (c_M_takes2 C.inj _ _) wv_M_takes2 g_519 ⟨by decide, by decide⟩ fc_7 rfl zm_lt_0 (zm_0 _ _ _) rfl (Nat.le_of_ble_eq_true rfl) e_M_readsPin_88 (fun v1 σ2 => ?_)
  refine s_aload_n C e_M_readsPin_91 rfl ?_
  refine s_iconst C e_M_readsPin_92 (v := (0 : Int32)) ic_0 ?_
  refine s_aload_n C e_M_readsPin_93 rfl ?_
  refine s_get C fc_7 zm_lt_0 (zm_0 _ _ _) 14 (by decide) e_M_readsPin_94 g_508 rfl ?_
  refine s_iconst C e_M_readsPin_97 (v := (1 : Int32)) ic_1 ?_
  refine s_iald C (za_lt isA7) (za isA7) e_M_readsPin_98 ?_
  refine s_iconst C e_M_readsPin_99 (v := (1 : Int32)) ic_1 ?_
  refine s_isub C e_M_readsPin_100 ?_
  refine s_callV_2 C (c_M_figure C.inj _ _ _) wv_M_figure g_504 ⟨by decide, by decide⟩ fc_7 rfl zm_lt_0 (zm_0 _ _ _) rfl (Nat.le_of_ble_eq_true rfl) e_M_readsPin_101 (fun v3 σ4 => ?_)
  refine s_istore_n C e_M_readsPin_104 (by decide) ?_
  refine s_aload_n C e_M_readsPin_105 rfl ?_
  refine s_iconst C e_M_readsPin_106 (v := (1 : Int32)) ic_1 ?_
  refine s_bipush C e_M_readsPin_107 (v := (9 : Int32)) bp_9 ?_
  refine s_callV_2 C (c_M_follows C.inj _ _ _) wv_M_follows g_515 ⟨by decide, by decide⟩ fc_7 rfl zm_lt_0 (zm_0 _ _ _) rfl (Nat.le_of_ble_eq_true rfl) e_M_readsPin_109 (fun v5 σ6 => ?_)
  refine s_istore C e_M_readsPin_112 (by decide) ?_
  refine s_aload_n C e_M_readsPin_114 rfl ?_
  refine s_iconst C e_M_readsPin_115 (v := (0 : Int32)) ic_0 ?_
  refine s_iconst C e_M_readsPin_116 (v := (3 : Int32)) ic_3 ?_
  refine s_callV_2 C (c_M_follows C.inj _ _ _) wv_M_follows g_515 ⟨by decide, by decide⟩ fc_7 rfl zm_lt_0 (zm_0 _ _ _) rfl (Nat.le_of_ble_eq_true rfl) e_M_readsPin_117 (fun v7 σ8 => ?_)
  refine s_istore C e_M_readsPin_120 (by decide) ?_
  refine s_aload_n C e_M_readsPin_122 rfl ?_
  refine s_aload_n C e_M_readsPin_123 rfl ?_
  refine s_get C fc_7 zm_lt_0 (zm_0 _ _ _) 11 (by decide) e_M_readsPin_124 g_489 rfl ?_
  refine s_iconst C e_M_readsPin_127 (v := (4 : Int32)) ic_4 ?_
  refine s_icmp_ne (tgt := 135) C e_M_readsPin_128 rfl ?_ ?_
  · refine s_iconst C e_M_readsPin_131 (v := (1 : Int32)) ic_1 ?_
    refine s_goto (tgt := 136) C e_M_readsPin_132 rfl ?_
    exact s_cut (w_M_readsPin_B136 C _ _ _ _ _ _ _) ⟨rfl, rfl, rfl, rfl, rfl, rfl, trivial⟩
  · refine s_iconst C e_M_readsPin_135 (v := (0 : Int32)) ic_0 ?_
    exact s_cut (w_M_readsPin_B136 C _ _ _ _ _ _ _) ⟨rfl, rfl, rfl, rfl, rfl, rfl, trivial⟩
set_option maxRecDepth 100000 in
theorem w_M_readsPin_B83 {X : CX} (C : Cx X ZM RX7 cX7_readsPin 6 none 5 110)   (σ : St) (x1 : Int32) (x2 : Int32) : Sm X ZM 6 none σ [(0, .ref (cq X 0)), (1, .int x1), (2, .int x2)] 83 [.ref (cq X 0)] (m_M_readsPin_B83 σ x1 x2) := by
  unfold m_M_readsPin_B83
  refine s_iconst C e_M_readsPin_83 (v := (1 : Int32)) ic_1 ?_
  refine s_goto (tgt := 88) C e_M_readsPin_84 rfl ?_
  exact s_cut (w_M_readsPin_B88 C _ _ _ _) ⟨rfl, rfl, rfl, trivial⟩
set_option maxRecDepth 100000 in
theorem w_M_readsPin_B55 {X : CX} (C : Cx X ZM RX7 cX7_readsPin 6 none 5 110)   (σ : St) (x1 : Int32) (s0 : Int32) (s1 : Int32) (s2 : Int32) : Sm X ZM 6 none σ [(0, .ref (cq X 0)), (1, .int x1)] 55 [.int s0, .int s1, .int s2] (m_M_readsPin_B55 σ x1 s0 s1 s2) := by
  unfold m_M_readsPin_B55
  refine s_imul C e_M_readsPin_55 ?_
  refine s_iadd C e_M_readsPin_56 ?_
  refine s_nm (fun y1 => ?_)
  refine s_istore_n C e_M_readsPin_57 (by decide) ?_
  refine s_aload_n C e_M_readsPin_58 rfl ?_
  refine s_aload_n C e_M_readsPin_59 rfl ?_
  refine s_get C fc_7 zm_lt_0 (zm_0 _ _ _) 11 (by decide) e_M_readsPin_60 g_489 rfl ?_
  refine s_iconst C e_M_readsPin_63 (v := (2 : Int32)) ic_2 ?_
  refine s_icmp_ne (tgt := 83) C e_M_readsPin_64 rfl ?_ ?_
  · refine s_aload_n C e_M_readsPin_67 rfl ?_
    refine s_get C fc_7 zm_lt_0 (zm_0 _ _ _) 14 (by decide) e_M_readsPin_68 g_508 rfl ?_
    refine s_aload_n C e_M_readsPin_71 rfl ?_
    refine s_get C fc_7 zm_lt_0 (zm_0 _ _ _) 12 (by decide) e_M_readsPin_72 g_484 rfl ?_
    refine s_callS_2 C (c_M_homeOf C.inj isA7 _ _) wv_M_homeOf g_512 ⟨by decide, by decide⟩ rfl (Nat.le_of_ble_eq_true rfl) e_M_readsPin_75 (fun v2 σ3 => ?_)
    refine s_ldc C e_M_readsPin_78 g_452 ?_
    refine s_icmp_ne (tgt := 87) C e_M_readsPin_80 rfl ?_ ?_
    · exact s_cut (w_M_readsPin_B83 C _ _ _) ⟨rfl, rfl, rfl, trivial⟩
    · refine s_iconst C e_M_readsPin_87 (v := (0 : Int32)) ic_0 ?_
      exact s_cut (w_M_readsPin_B88 C _ _ _ _) ⟨rfl, rfl, rfl, trivial⟩
  · exact s_cut (w_M_readsPin_B83 C _ _ _) ⟨rfl, rfl, rfl, trivial⟩
set_option maxRecDepth 100000 in
theorem w_M_readsPin_B25 {X : CX} (C : Cx X ZM RX7 cX7_readsPin 6 none 5 110)   (σ : St) (x1 : Int32) (s0 : Int32) : Sm X ZM 6 none σ [(0, .ref (cq X 0)), (1, .int x1)] 25 [.int s0, .ref (cq X 0)] (m_M_readsPin_B25 σ x1 s0) := by
  unfold m_M_readsPin_B25
  refine s_iconst C e_M_readsPin_25 (v := (3 : Int32)) ic_3 ?_
  refine s_callV_2 C (c_M_takes C.inj _ _ _) wv_M_takes g_500 ⟨by decide, by decide⟩ fc_7 rfl zm_lt_0 (zm_0 _ _ _) rfl (Nat.le_of_ble_eq_true rfl) e_M_readsPin_26 (fun v1 σ2 => ?_)
  refine s_pop C e_M_readsPin_29 rfl ?_
  refine s_bipush C e_M_readsPin_30 (v := (22 : Int32)) bp_22 ?_
  refine s_bipush C e_M_readsPin_32 (v := (6 : Int32)) bp_6 ?_
  refine s_aload_n C e_M_readsPin_34 rfl ?_
  refine s_get C fc_7 zm_lt_0 (zm_0 _ _ _) 14 (by decide) e_M_readsPin_35 g_508 rfl ?_
  refine s_iconst C e_M_readsPin_38 (v := (2 : Int32)) ic_2 ?_
  refine s_iald C (za_lt isA7) (za isA7) e_M_readsPin_39 ?_
  refine s_bipush C e_M_readsPin_40 (v := (7 : Int32)) bp_7 ?_
  refine s_icmp_ge (tgt := 54) C e_M_readsPin_42 rfl ?_ ?_
  · refine s_iconst C e_M_readsPin_54 (v := (0 : Int32)) ic_0 ?_
    exact s_cut (w_M_readsPin_B55 C _ _ _ _ _) ⟨rfl, rfl, trivial⟩
  · refine s_aload_n C e_M_readsPin_45 rfl ?_
    refine s_get C fc_7 zm_lt_0 (zm_0 _ _ _) 14 (by decide) e_M_readsPin_46 g_508 rfl ?_
    refine s_iconst C e_M_readsPin_49 (v := (2 : Int32)) ic_2 ?_
    refine s_iald C (za_lt isA7) (za isA7) e_M_readsPin_50 ?_
    refine s_goto (tgt := 55) C e_M_readsPin_51 rfl ?_
    exact s_cut (w_M_readsPin_B55 C _ _ _ _ _) ⟨rfl, rfl, trivial⟩
set_option maxRecDepth 100000 in
theorem w_M_readsPin {X : CX} (C : Cx X ZM RX7 cX7_readsPin 6 none 5 110)  (σ : St)  : Sm X ZM 6 none σ [(0, .ref (cq X 0))] 0 [] (m_M_readsPin σ) := by
  unfold m_M_readsPin
  refine s_aload_n C e_M_readsPin_0 rfl ?_
  refine s_get C fc_7 zm_lt_0 (zm_0 _ _ _) 12 (by decide) e_M_readsPin_1 g_484 rfl ?_
  refine s_callS_1 C (c_M_kindOf C.inj _ _) wv_M_kindOf g_509 ⟨by decide, by decide⟩ rfl (Nat.le_of_ble_eq_true rfl) e_M_readsPin_4 (fun v1 σ2 => ?_)
  refine s_istore_n C e_M_readsPin_7 (by decide) ?_
  refine s_aload_n C e_M_readsPin_8 rfl ?_
  refine s_aload_n C e_M_readsPin_9 rfl ?_
  refine s_get C fc_7 zm_lt_0 (zm_0 _ _ _) 14 (by decide) e_M_readsPin_10 g_508 rfl ?_
  refine s_iconst C e_M_readsPin_13 (v := (2 : Int32)) ic_2 ?_
  refine s_iald C (za_lt isA7) (za isA7) e_M_readsPin_14 ?_
  refine s_bipush C e_M_readsPin_15 (v := (7 : Int32)) bp_7 ?_
  refine s_icmp_ge (tgt := 24) C e_M_readsPin_17 rfl ?_ ?_
  · refine s_iconst C e_M_readsPin_24 (v := (0 : Int32)) ic_0 ?_
    exact s_cut (w_M_readsPin_B25 C _ _ _) ⟨rfl, rfl, trivial⟩
  · refine s_iconst C e_M_readsPin_20 (v := (1 : Int32)) ic_1 ?_
    refine s_goto (tgt := 25) C e_M_readsPin_21 rfl ?_
    exact s_cut (w_M_readsPin_B25 C _ _ _) ⟨rfl, rfl, trivial⟩
theorem c_M_readsPin {l : Launch} {D : va_G} {k : Nat → ClassId} {q : Nat → Nat} (hq : Inj ZM q)  (σ : St)  : Ct l ZM D k q yX7_readsPin cX7_readsPin 6 none 5 110 [.ref (q 0)] σ (m_M_readsPin σ) :=
  Ct_of hq lcM (by decide) (Nat.le_of_ble_eq_true rfl) (fun _ _ _ _ _ _ _ _ _ _ C => w_M_readsPin C σ)
set_option maxRecDepth 100000 in
theorem w_M_must {X : CX} (C : Cx X ZM RX7 cX7_must 2 none 3 66)  (σ : St) (x1 : Int32) : Sm X ZM 2 none σ [(0, .ref (cq X 0)), (1, .int x1)] 0 [] (m_M_must σ x1) := by
  unfold m_M_must
  refine s_aload_n C e_M_must_0 rfl ?_
  refine s_callV_0 C (c_M_isWell C.inj _) wv_M_isWell g_496 ⟨by decide, by decide⟩ fc_7 rfl zm_lt_0 (zm_0 _ _ _) rfl (Nat.le_of_ble_eq_true rfl) e_M_must_1 (fun v1 σ2 => ?_)
  refine s_if_eq (tgt := 18) C e_M_must_4 rfl ?_ ?_
  · exact s_vret C e_M_must_18
  · refine s_iload_n C e_M_must_7 rfl ?_
    refine s_if_ne (tgt := 18) C e_M_must_8 rfl ?_ ?_
    · refine s_aload_n C e_M_must_11 rfl ?_
      refine s_iconst C e_M_must_12 (v := (0 : Int32)) ic_0 ?_
      refine s_iconst C e_M_must_13 (v := (1 : Int32)) ic_1 ?_
      refine s_callV_2 C (c_M_takes C.inj _ _ _) wv_M_takes g_500 ⟨by decide, by decide⟩ fc_7 rfl zm_lt_0 (zm_0 _ _ _) rfl (Nat.le_of_ble_eq_true rfl) e_M_must_14 (fun v3 σ4 => ?_)
      refine s_pop C e_M_must_17 rfl ?_
      exact s_vret C e_M_must_18
    · exact s_vret C e_M_must_18
theorem c_M_must {l : Launch} {D : va_G} {k : Nat → ClassId} {q : Nat → Nat} (hq : Inj ZM q)  (σ : St) (x1 : Int32) : Ct l ZM D k q yX7_must cX7_must 2 none 3 66 [.ref (q 0), .int x1] σ (m_M_must σ x1) :=
  Ct_of hq lcM (by decide) (Nat.le_of_ble_eq_true rfl) (fun _ _ _ _ _ _ _ _ _ _ C => w_M_must C σ x1)
set_option maxRecDepth 100000 in
theorem w_M_map_B190 {X : CX} (C : Cx X ZM RX7 cX7_map 2 (some .int) 6 135)   (σ : St) (s0 : Int32) : Sm X ZM 2 (some .int) σ [(0, .ref (cq X 0))] 190 [.int s0, .ref (cq X 0)] (m_M_map_B190 σ s0) := by
  unfold m_M_map_B190
  refine s_callVv_1 C (c_M_must C.inj _ _) wv_M_must g_527 ⟨by decide, by decide⟩ fc_7 rfl zm_lt_0 (zm_0 _ _ _) rfl (Nat.le_of_ble_eq_true rfl) e_M_map_190 (fun v1 σ2 => ?_)
  refine s_aload_n C e_M_map_193 rfl ?_
  refine s_iconst C e_M_map_194 (v := (0 : Int32)) ic_0 ?_
  refine s_put C fc_7 zm_lt_0 (zm_0 _ _ _) 6 (by decide) (zmp_6 _ _ _ _) (Nat.le_of_ble_eq_true rfl) e_M_map_195 g_479 rfl rfl (fun σ3 => ?_)
  refine s_aload_n C e_M_map_198 rfl ?_
  refine s_callV_0 C (c_M_isWell C.inj _) wv_M_isWell g_496 ⟨by decide, by decide⟩ fc_7 rfl zm_lt_0 (zm_0 _ _ _) rfl (Nat.le_of_ble_eq_true rfl) e_M_map_199 (fun v4 σ5 => ?_)
  refine s_if_ne (tgt := 213) C e_M_map_202 rfl ?_ ?_
  · refine s_ldc C e_M_map_205 g_540 ?_
    refine s_aload_n C e_M_map_207 rfl ?_
    refine s_get C fc_7 zm_lt_0 (zm_0 _ _ _) 8 (by decide) e_M_map_208 g_490 rfl ?_
    refine s_isub C e_M_map_211 ?_
    exact s_iret C e_M_map_212
  · refine s_aload_n C e_M_map_213 rfl ?_
    refine s_get C fc_7 zm_lt_0 (zm_0 _ _ _) 14 (by decide) e_M_map_214 g_508 rfl ?_
    refine s_iconst C e_M_map_217 (v := (4 : Int32)) ic_4 ?_
    refine s_iconst C e_M_map_218 (v := (1 : Int32)) ic_1 ?_
    refine s_iast C (za_lt isA7) (za isA7) e_M_map_219 (fun σ6 => ?_)
    refine s_aload_n C e_M_map_220 rfl ?_
    refine s_get C fc_7 zm_lt_0 (zm_0 _ _ _) 14 (by decide) e_M_map_221 g_508 rfl ?_
    refine s_iconst C e_M_map_224 (v := (0 : Int32)) ic_0 ?_
    refine s_aload_n C e_M_map_225 rfl ?_
    refine s_get C fc_7 zm_lt_0 (zm_0 _ _ _) 13 (by decide) e_M_map_226 g_535 rfl ?_
    refine s_iconst C e_M_map_229 (v := (0 : Int32)) ic_0 ?_
    refine s_callSv_4 C (c_M_copies C.inj isA7 isA6 _ _ _) wv_M_copies g_537 ⟨by decide, by decide⟩ rfl (Nat.le_of_ble_eq_true rfl) e_M_map_230 (fun v7 σ8 => ?_)
    refine s_aload_n C e_M_map_233 rfl ?_
    refine s_iconst C e_M_map_234 (v := (0 : Int32)) ic_0 ?_
    refine s_put C fc_7 zm_lt_0 (zm_0 _ _ _) 17 (by decide) (zmp_17 _ _ _ _) (Nat.le_of_ble_eq_true rfl) e_M_map_235 g_536 rfl rfl (fun σ9 => ?_)
    refine s_aload_n C e_M_map_238 rfl ?_
    refine s_get C fc_7 zm_lt_0 (zm_0 _ _ _) 13 (by decide) e_M_map_239 g_535 rfl ?_
    refine s_iconst C e_M_map_242 (v := (2 : Int32)) ic_2 ?_
    refine s_iald C (za_lt isA6) (za isA6) e_M_map_243 ?_
    exact s_iret C e_M_map_244
set_option maxRecDepth 100000 in
theorem w_M_map_B177 {X : CX} (C : Cx X ZM RX7 cX7_map 2 (some .int) 6 135)   (σ : St)  : Sm X ZM 2 (some .int) σ [(0, .ref (cq X 0))] 177 [] (m_M_map_B177 σ) := by
  unfold m_M_map_B177
  refine s_aload_n C e_M_map_177 rfl ?_
  refine s_aload_n C e_M_map_178 rfl ?_
  refine s_get C fc_7 zm_lt_0 (zm_0 _ _ _) 11 (by decide) e_M_map_179 g_489 rfl ?_
  refine s_if_ne (tgt := 189) C e_M_map_182 rfl ?_ ?_
  · refine s_iconst C e_M_map_185 (v := (1 : Int32)) ic_1 ?_
    refine s_goto (tgt := 190) C e_M_map_186 rfl ?_
    exact s_cut (w_M_map_B190 C _ _) ⟨rfl, trivial⟩
  · refine s_iconst C e_M_map_189 (v := (0 : Int32)) ic_0 ?_
    exact s_cut (w_M_map_B190 C _ _) ⟨rfl, trivial⟩
set_option maxRecDepth 100000 in
theorem w_M_map_B145 {X : CX} (C : Cx X ZM RX7 cX7_map 2 (some .int) 6 135)  (r145 : St → Rt) (hr145 : ∀ (σ : St), Sm X ZM 2 (some .int) σ [(0, .ref (cq X 0))] 145 [] (r145 σ)) (σ : St)  : Sm X ZM 2 (some .int) σ [(0, .ref (cq X 0))] 145 [] (m_M_map_B145 r145 σ) := by
  unfold m_M_map_B145
  refine s_aload_n C e_M_map_145 rfl ?_
  refine s_callV_0 C (c_M_isWell C.inj _) wv_M_isWell g_496 ⟨by decide, by decide⟩ fc_7 rfl zm_lt_0 (zm_0 _ _ _) rfl (Nat.le_of_ble_eq_true rfl) e_M_map_146 (fun v1 σ2 => ?_)
  refine s_if_eq (tgt := 177) C e_M_map_149 rfl ?_ ?_
  · exact s_cut (w_M_map_B177 C _) ⟨rfl, trivial⟩
  · refine s_aload_n C e_M_map_152 rfl ?_
    refine s_get C fc_7 zm_lt_0 (zm_0 _ _ _) 11 (by decide) e_M_map_153 g_489 rfl ?_
    refine s_iconst C e_M_map_156 (v := (1 : Int32)) ic_1 ?_
    refine s_icmp_ne (tgt := 177) C e_M_map_157 rfl ?_ ?_
    · refine s_aload_n C e_M_map_160 rfl ?_
      refine s_get C fc_7 zm_lt_0 (zm_0 _ _ _) 12 (by decide) e_M_map_161 g_484 rfl ?_
      refine s_callS_1 C (c_M_kindOf C.inj _ _) wv_M_kindOf g_509 ⟨by decide, by decide⟩ rfl (Nat.le_of_ble_eq_true rfl) e_M_map_164 (fun v3 σ4 => ?_)
      refine s_if_le (tgt := 177) C e_M_map_167 rfl ?_ ?_
      · exact s_cut (w_M_map_B177 C _) ⟨rfl, trivial⟩
      · refine s_aload_n C e_M_map_170 rfl ?_
        refine s_callVv_0 C (c_M_readsPin C.inj _) wv_M_readsPin g_531 ⟨by decide, by decide⟩ fc_7 rfl zm_lt_0 (zm_0 _ _ _) rfl (Nat.le_of_ble_eq_true rfl) e_M_map_171 (fun v5 σ6 => ?_)
        refine s_goto (tgt := 145) C e_M_map_174 rfl ?_
        exact s_cut (hr145 _) ⟨rfl, trivial⟩
    · exact s_cut (w_M_map_B177 C _) ⟨rfl, trivial⟩
theorem w_M_map_L145 {X : CX} (C : Cx X ZM RX7 cX7_map 2 (some .int) 6 135)   : ∀ (n : Nat) (σ : St), Sm X ZM 2 (some .int) σ [(0, .ref (cq X 0))] 145 [] (m_M_map_L145 n σ)
  | 0, _ => s_none
  | n + 1, σ => w_M_map_B145 C (m_M_map_L145 n) (w_M_map_L145 C n) σ
set_option maxRecDepth 100000 in
theorem w_M_map_B142 {X : CX} (C : Cx X ZM RX7 cX7_map 2 (some .int) 6 135)   (σ : St) (s0 : Int32) : Sm X ZM 2 (some .int) σ [(0, .ref (cq X 0))] 142 [.int s0, .ref (cq X 0)] (m_M_map_B142 σ s0) := by
  unfold m_M_map_B142
  refine s_callVv_1 C (c_M_must C.inj _ _) wv_M_must g_527 ⟨by decide, by decide⟩ fc_7 rfl zm_lt_0 (zm_0 _ _ _) rfl (Nat.le_of_ble_eq_true rfl) e_M_map_142 (fun v1 σ2 => ?_)
  exact s_cut (w_M_map_L145 C FU _) ⟨rfl, trivial⟩
set_option maxRecDepth 100000 in
theorem w_M_map_B126 {X : CX} (C : Cx X ZM RX7 cX7_map 2 (some .int) 6 135)   (σ : St)  : Sm X ZM 2 (some .int) σ [(0, .ref (cq X 0))] 126 [] (m_M_map_B126 σ) := by
  unfold m_M_map_B126
  refine s_aload_n C e_M_map_126 rfl ?_
  refine s_aload_n C e_M_map_127 rfl ?_
  refine s_get C fc_7 zm_lt_0 (zm_0 _ _ _) 14 (by decide) e_M_map_128 g_508 rfl ?_
  refine s_iconst C e_M_map_131 (v := (1 : Int32)) ic_1 ?_
  refine s_iald C (za_lt isA7) (za isA7) e_M_map_132 ?_
  refine s_iconst C e_M_map_133 (v := (3 : Int32)) ic_3 ?_
  refine s_icmp_le (tgt := 141) C e_M_map_134 rfl ?_ ?_
  · refine s_iconst C e_M_map_141 (v := (0 : Int32)) ic_0 ?_
    exact s_cut (w_M_map_B142 C _ _) ⟨rfl, trivial⟩
  · refine s_iconst C e_M_map_137 (v := (1 : Int32)) ic_1 ?_
    refine s_goto (tgt := 142) C e_M_map_138 rfl ?_
    exact s_cut (w_M_map_B142 C _ _) ⟨rfl, trivial⟩
set_option maxRecDepth 100000 in
theorem w_M_map_B95 {X : CX} (C : Cx X ZM RX7 cX7_map 2 (some .int) 6 135)  (r95 : St → Rt) (hr95 : ∀ (σ : St), Sm X ZM 2 (some .int) σ [(0, .ref (cq X 0))] 95 [] (r95 σ)) (σ : St)  : Sm X ZM 2 (some .int) σ [(0, .ref (cq X 0))] 95 [] (m_M_map_B95 r95 σ) := by
  unfold m_M_map_B95
  refine s_aload_n C e_M_map_95 rfl ?_
  refine s_callV_0 C (c_M_isWell C.inj _) wv_M_isWell g_496 ⟨by decide, by decide⟩ fc_7 rfl zm_lt_0 (zm_0 _ _ _) rfl (Nat.le_of_ble_eq_true rfl) e_M_map_96 (fun v1 σ2 => ?_)
  refine s_if_eq (tgt := 126) C e_M_map_99 rfl ?_ ?_
  · exact s_cut (w_M_map_B126 C _) ⟨rfl, trivial⟩
  · refine s_aload_n C e_M_map_102 rfl ?_
    refine s_get C fc_7 zm_lt_0 (zm_0 _ _ _) 11 (by decide) e_M_map_103 g_489 rfl ?_
    refine s_iconst C e_M_map_106 (v := (1 : Int32)) ic_1 ?_
    refine s_icmp_ne (tgt := 126) C e_M_map_107 rfl ?_ ?_
    · refine s_aload_n C e_M_map_110 rfl ?_
      refine s_get C fc_7 zm_lt_0 (zm_0 _ _ _) 12 (by decide) e_M_map_111 g_484 rfl ?_
      refine s_bipush C e_M_map_114 (v := (99 : Int32)) bp_99 ?_
      refine s_icmp_ne (tgt := 126) C e_M_map_116 rfl ?_ ?_
      · refine s_aload_n C e_M_map_119 rfl ?_
        refine s_callVv_0 C (c_M_readsCell C.inj _) wv_M_readsCell g_523 ⟨by decide, by decide⟩ fc_7 rfl zm_lt_0 (zm_0 _ _ _) rfl (Nat.le_of_ble_eq_true rfl) e_M_map_120 (fun v3 σ4 => ?_)
        refine s_goto (tgt := 95) C e_M_map_123 rfl ?_
        exact s_cut (hr95 _) ⟨rfl, trivial⟩
      · exact s_cut (w_M_map_B126 C _) ⟨rfl, trivial⟩
    · exact s_cut (w_M_map_B126 C _) ⟨rfl, trivial⟩
theorem w_M_map_L95 {X : CX} (C : Cx X ZM RX7 cX7_map 2 (some .int) 6 135)   : ∀ (n : Nat) (σ : St), Sm X ZM 2 (some .int) σ [(0, .ref (cq X 0))] 95 [] (m_M_map_L95 n σ)
  | 0, _ => s_none
  | n + 1, σ => w_M_map_B95 C (m_M_map_L95 n) (w_M_map_L95 C n) σ
set_option maxRecDepth 100000 in
theorem w_M_map_B90 {X : CX} (C : Cx X ZM RX7 cX7_map 2 (some .int) 6 135)   (σ : St) (s0 : Int32) : Sm X ZM 2 (some .int) σ [(0, .ref (cq X 0))] 90 [.int s0, .ref (cq X 0)] (m_M_map_B90 σ s0) := by
  unfold m_M_map_B90
  refine s_iconst C e_M_map_90 (v := (1 : Int32)) ic_1 ?_
  refine s_callV_2 C (c_M_takes C.inj _ _ _) wv_M_takes g_500 ⟨by decide, by decide⟩ fc_7 rfl zm_lt_0 (zm_0 _ _ _) rfl (Nat.le_of_ble_eq_true rfl) e_M_map_91 (fun v1 σ2 => ?_)
  refine s_pop C e_M_map_94 rfl ?_
  exact s_cut (w_M_map_L95 C FU _) ⟨rfl, trivial⟩
set_option maxRecDepth 100000 in
theorem w_M_map_B58 {X : CX} (C : Cx X ZM RX7 cX7_map 2 (some .int) 6 135)   (σ : St) (s0 : Int32) : Sm X ZM 2 (some .int) σ [(0, .ref (cq X 0))] 58 [.int s0, .ref (cq X 0)] (m_M_map_B58 σ s0) := by
  unfold m_M_map_B58
  refine s_iconst C e_M_map_58 (v := (1 : Int32)) ic_1 ?_
  refine s_callV_2 C (c_M_takes C.inj _ _ _) wv_M_takes g_500 ⟨by decide, by decide⟩ fc_7 rfl zm_lt_0 (zm_0 _ _ _) rfl (Nat.le_of_ble_eq_true rfl) e_M_map_59 (fun v1 σ2 => ?_)
  refine s_pop C e_M_map_62 rfl ?_
  refine s_aload_n C e_M_map_63 rfl ?_
  refine s_get C fc_7 zm_lt_0 (zm_0 _ _ _) 14 (by decide) e_M_map_64 g_508 rfl ?_
  refine s_iconst C e_M_map_67 (v := (0 : Int32)) ic_0 ?_
  refine s_aload_n C e_M_map_68 rfl ?_
  refine s_iconst C e_M_map_69 (v := (0 : Int32)) ic_0 ?_
  refine s_bipush C e_M_map_70 (v := (15 : Int32)) bp_15 ?_
  refine s_callV_2 C (c_M_figure C.inj _ _ _) wv_M_figure g_504 ⟨by decide, by decide⟩ fc_7 rfl zm_lt_0 (zm_0 _ _ _) rfl (Nat.le_of_ble_eq_true rfl) e_M_map_72 (fun v3 σ4 => ?_)
  refine s_iast C (za_lt isA7) (za isA7) e_M_map_75 (fun σ5 => ?_)
  refine s_aload_n C e_M_map_76 rfl ?_
  refine s_aload_n C e_M_map_77 rfl ?_
  refine s_get C fc_7 zm_lt_0 (zm_0 _ _ _) 11 (by decide) e_M_map_78 g_489 rfl ?_
  refine s_iconst C e_M_map_81 (v := (4 : Int32)) ic_4 ?_
  refine s_icmp_ne (tgt := 89) C e_M_map_82 rfl ?_ ?_
  · refine s_iconst C e_M_map_85 (v := (1 : Int32)) ic_1 ?_
    refine s_goto (tgt := 90) C e_M_map_86 rfl ?_
    exact s_cut (w_M_map_B90 C _ _) ⟨rfl, trivial⟩
  · refine s_iconst C e_M_map_89 (v := (0 : Int32)) ic_0 ?_
    exact s_cut (w_M_map_B90 C _ _) ⟨rfl, trivial⟩
set_option maxRecDepth 100000 in
theorem w_M_map_B57 {X : CX} (C : Cx X ZM RX7 cX7_map 2 (some .int) 6 135)   (σ : St)  : Sm X ZM 2 (some .int) σ [(0, .ref (cq X 0))] 57 [.ref (cq X 0)] (m_M_map_B57 σ) := by
  unfold m_M_map_B57
  refine s_iconst C e_M_map_57 (v := (0 : Int32)) ic_0 ?_
  exact s_cut (w_M_map_B58 C _ _) ⟨rfl, trivial⟩
set_option maxRecDepth 100000 in
theorem w_M_map_B21 {X : CX} (C : Cx X ZM RX7 cX7_map 2 (some .int) 6 135)   (σ : St)  : Sm X ZM 2 (some .int) σ [(0, .ref (cq X 0))] 21 [] (m_M_map_B21 σ) := by
  unfold m_M_map_B21
  refine s_aload_n C e_M_map_21 rfl ?_
  refine s_iconst C e_M_map_22 (v := (0 : Int32)) ic_0 ?_
  refine s_put C fc_7 zm_lt_0 (zm_0 _ _ _) 9 (by decide) (zmp_9 _ _ _ _) (Nat.le_of_ble_eq_true rfl) e_M_map_23 g_482 rfl rfl (fun σ1 => ?_)
  refine s_aload_n C e_M_map_26 rfl ?_
  refine s_iconst C e_M_map_27 (v := (-1 : Int32)) ic_m1 ?_
  refine s_put C fc_7 zm_lt_0 (zm_0 _ _ _) 8 (by decide) (zmp_8 _ _ _ _) (Nat.le_of_ble_eq_true rfl) e_M_map_28 g_490 rfl rfl (fun σ2 => ?_)
  refine s_aload_n C e_M_map_31 rfl ?_
  refine s_callVv_0 C (c_M_advances C.inj _) wv_M_advances g_491 ⟨by decide, by decide⟩ fc_7 rfl zm_lt_0 (zm_0 _ _ _) rfl (Nat.le_of_ble_eq_true rfl) e_M_map_32 (fun v3 σ4 => ?_)
  refine s_aload_n C e_M_map_35 rfl ?_
  refine s_aload_n C e_M_map_36 rfl ?_
  refine s_get C fc_7 zm_lt_0 (zm_0 _ _ _) 11 (by decide) e_M_map_37 g_489 rfl ?_
  refine s_iconst C e_M_map_40 (v := (1 : Int32)) ic_1 ?_
  refine s_icmp_ne (tgt := 57) C e_M_map_41 rfl ?_ ?_
  · refine s_aload_n C e_M_map_44 rfl ?_
    refine s_get C fc_7 zm_lt_0 (zm_0 _ _ _) 12 (by decide) e_M_map_45 g_484 rfl ?_
    refine s_bipush C e_M_map_48 (v := (109 : Int32)) bp_109 ?_
    refine s_icmp_ne (tgt := 57) C e_M_map_50 rfl ?_ ?_
    · refine s_iconst C e_M_map_53 (v := (1 : Int32)) ic_1 ?_
      refine s_goto (tgt := 58) C e_M_map_54 rfl ?_
      exact s_cut (w_M_map_B58 C _ _) ⟨rfl, trivial⟩
    · exact s_cut (w_M_map_B57 C _) ⟨rfl, trivial⟩
  · exact s_cut (w_M_map_B57 C _) ⟨rfl, trivial⟩
set_option maxRecDepth 100000 in
theorem w_M_map_B2 {X : CX} (C : Cx X ZM RX7 cX7_map 2 (some .int) 6 135)  (r2 : St → Int32 → Rt) (hr2 : ∀ (σ : St) (x1 : Int32), Sm X ZM 2 (some .int) σ [(0, .ref (cq X 0)), (1, .int x1)] 2 [] (r2 σ x1)) (σ : St) (x1 : Int32) : Sm X ZM 2 (some .int) σ [(0, .ref (cq X 0)), (1, .int x1)] 2 [] (m_M_map_B2 r2 σ x1) := by
  unfold m_M_map_B2
  refine s_iload_n C e_M_map_2 rfl ?_
  refine s_bipush C e_M_map_3 (v := (64 : Int32)) bp_64 ?_
  refine s_icmp_ge (tgt := 21) C e_M_map_5 rfl ?_ ?_
  · exact s_cut (w_M_map_B21 C _) ⟨rfl, trivial⟩
  · refine s_aload_n C e_M_map_8 rfl ?_
    refine s_get C fc_7 zm_lt_0 (zm_0 _ _ _) 14 (by decide) e_M_map_9 g_508 rfl ?_
    refine s_iload_n C e_M_map_12 rfl ?_
    refine s_iconst C e_M_map_13 (v := (0 : Int32)) ic_0 ?_
    refine s_iast C (za_lt isA7) (za isA7) e_M_map_14 (fun σ1 => ?_)
    refine s_iinc C e_M_map_15 (v := (1 : Int32)) rfl (by decide) ii_1 ?_
    refine s_goto (tgt := 2) C e_M_map_18 rfl ?_
    exact s_cut (hr2 _ _) ⟨rfl, rfl, trivial⟩
theorem w_M_map_L2 {X : CX} (C : Cx X ZM RX7 cX7_map 2 (some .int) 6 135)   : ∀ (n : Nat) (σ : St) (x1 : Int32), Sm X ZM 2 (some .int) σ [(0, .ref (cq X 0)), (1, .int x1)] 2 [] (m_M_map_L2 n σ x1)
  | 0, _, _ => s_none
  | n + 1, σ, x1 => w_M_map_B2 C (m_M_map_L2 n) (w_M_map_L2 C n) σ x1
set_option maxRecDepth 100000 in
theorem w_M_map {X : CX} (C : Cx X ZM RX7 cX7_map 2 (some .int) 6 135)  (σ : St)  : Sm X ZM 2 (some .int) σ [(0, .ref (cq X 0))] 0 [] (m_M_map σ) := by
  unfold m_M_map
  refine s_iconst C e_M_map_0 (v := (0 : Int32)) ic_0 ?_
  refine s_istore_n C e_M_map_1 (by decide) ?_
  exact s_cut (w_M_map_L2 C FU _ _) ⟨rfl, rfl, trivial⟩
theorem c_M_map {l : Launch} {D : va_G} {k : Nat → ClassId} {q : Nat → Nat} (hq : Inj ZM q)  (σ : St)  : Ct l ZM D k q yX7_map cX7_map 2 (some .int) 6 135 [.ref (q 0)] σ (m_M_map σ) :=
  Ct_of hq lcM (by decide) (Nat.le_of_ble_eq_true rfl) (fun _ _ _ _ _ _ _ _ _ _ C => w_M_map C σ)
set_option maxRecDepth 100000 in
theorem w_M_fault {X : CX} (C : Cx X ZM RX7 cX7_fault 1 (some .int) 0 0)  (σ : St)  : Sm X ZM 1 (some .int) σ [(0, .ref (cq X 0))] 0 [] (m_M_fault σ) := by
  unfold m_M_fault
  refine s_aload_n C e_M_fault_0 rfl ?_
  refine s_get C fc_7 zm_lt_0 (zm_0 _ _ _) 7 (by decide) e_M_fault_1 g_495 rfl ?_
  exact s_iret C e_M_fault_4
theorem c_M_fault {l : Launch} {D : va_G} {k : Nat → ClassId} {q : Nat → Nat} (hq : Inj ZM q)  (σ : St)  : Ct l ZM D k q yX7_fault cX7_fault 1 (some .int) 0 0 [.ref (q 0)] σ (m_M_fault σ) :=
  Ct_of hq lcM (by decide) (Nat.le_of_ble_eq_true rfl) (fun _ _ _ _ _ _ _ _ _ _ C => w_M_fault C σ)
set_option maxRecDepth 100000 in
theorem w_M_isMap {X : CX} (C : Cx X ZM RX7 cX7_isMap 1 (some .boolean) 0 0)  (σ : St)  : Sm X ZM 1 (some .boolean) σ [(0, .ref (cq X 0))] 0 [] (m_M_isMap σ) := by
  unfold m_M_isMap
  refine s_aload_n C e_M_isMap_0 rfl ?_
  refine s_get C fc_7 zm_lt_0 (zm_0 _ _ _) 13 (by decide) e_M_isMap_1 g_535 rfl ?_
  refine s_iconst C e_M_isMap_4 (v := (1 : Int32)) ic_1 ?_
  refine s_iald C (za_lt isA6) (za isA6) e_M_isMap_5 ?_
  refine s_if_le (tgt := 13) C e_M_isMap_6 rfl ?_ ?_
  · refine s_iconst C e_M_isMap_13 (v := (0 : Int32)) ic_0 ?_
    exact s_zret C e_M_isMap_14
  · refine s_iconst C e_M_isMap_9 (v := (1 : Int32)) ic_1 ?_
    refine s_goto (tgt := 14) C e_M_isMap_10 rfl ?_
    exact s_zret C e_M_isMap_14
theorem c_M_isMap {l : Launch} {D : va_G} {k : Nat → ClassId} {q : Nat → Nat} (hq : Inj ZM q)  (σ : St)  : Ct l ZM D k q yX7_isMap cX7_isMap 1 (some .boolean) 0 0 [.ref (q 0)] σ (m_M_isMap σ) :=
  Ct_of hq lcM (by decide) (Nat.le_of_ble_eq_true rfl) (fun _ _ _ _ _ _ _ _ _ _ C => w_M_isMap C σ)
set_option maxRecDepth 100000 in
theorem w_M_isPin {X : CX} (C : Cx X ZM RX7 cX7_isPin 2 (some .boolean) 1 22)  (σ : St) (x1 : Int32) : Sm X ZM 2 (some .boolean) σ [(0, .ref (cq X 0)), (1, .int x1)] 0 [] (m_M_isPin σ x1) := by
  unfold m_M_isPin
  refine s_iload_n C e_M_isPin_0 rfl ?_
  refine s_iconst C e_M_isPin_1 (v := (0 : Int32)) ic_0 ?_
  refine s_aload_n C e_M_isPin_2 rfl ?_
  refine s_get C fc_7 zm_lt_0 (zm_0 _ _ _) 13 (by decide) e_M_isPin_3 g_535 rfl ?_
  refine s_iconst C e_M_isPin_6 (v := (2 : Int32)) ic_2 ?_
  refine s_iald C (za_lt isA6) (za isA6) e_M_isPin_7 ?_
  refine s_iconst C e_M_isPin_8 (v := (1 : Int32)) ic_1 ?_
  refine s_isub C e_M_isPin_9 ?_
  refine s_callS_3 C (c_M_in C.inj _ _ _ _) wv_M_in g_447 ⟨by decide, by decide⟩ rfl (Nat.le_of_ble_eq_true rfl) e_M_isPin_10 (fun v1 σ2 => ?_)
  exact s_zret C e_M_isPin_13
theorem c_M_isPin {l : Launch} {D : va_G} {k : Nat → ClassId} {q : Nat → Nat} (hq : Inj ZM q)  (σ : St) (x1 : Int32) : Ct l ZM D k q yX7_isPin cX7_isPin 2 (some .boolean) 1 22 [.ref (q 0), .int x1] σ (m_M_isPin σ x1) :=
  Ct_of hq lcM (by decide) (Nat.le_of_ble_eq_true rfl) (fun _ _ _ _ _ _ _ _ _ _ C => w_M_isPin C σ x1)
set_option maxRecDepth 100000 in
theorem w_M_isCell {X : CX} (C : Cx X ZM RX7 cX7_isCell 2 (some .boolean) 1 22)  (σ : St) (x1 : Int32) : Sm X ZM 2 (some .boolean) σ [(0, .ref (cq X 0)), (1, .int x1)] 0 [] (m_M_isCell σ x1) := by
  unfold m_M_isCell
  refine s_iload_n C e_M_isCell_0 rfl ?_
  refine s_iconst C e_M_isCell_1 (v := (0 : Int32)) ic_0 ?_
  refine s_aload_n C e_M_isCell_2 rfl ?_
  refine s_get C fc_7 zm_lt_0 (zm_0 _ _ _) 13 (by decide) e_M_isCell_3 g_535 rfl ?_
  refine s_iconst C e_M_isCell_6 (v := (1 : Int32)) ic_1 ?_
  refine s_iald C (za_lt isA6) (za isA6) e_M_isCell_7 ?_
  refine s_iconst C e_M_isCell_8 (v := (1 : Int32)) ic_1 ?_
  refine s_isub C e_M_isCell_9 ?_
  refine s_callS_3 C (c_M_in C.inj _ _ _ _) wv_M_in g_447 ⟨by decide, by decide⟩ rfl (Nat.le_of_ble_eq_true rfl) e_M_isCell_10 (fun v1 σ2 => ?_)
  exact s_zret C e_M_isCell_13
theorem c_M_isCell {l : Launch} {D : va_G} {k : Nat → ClassId} {q : Nat → Nat} (hq : Inj ZM q)  (σ : St) (x1 : Int32) : Ct l ZM D k q yX7_isCell cX7_isCell 2 (some .boolean) 1 22 [.ref (q 0), .int x1] σ (m_M_isCell σ x1) :=
  Ct_of hq lcM (by decide) (Nat.le_of_ble_eq_true rfl) (fun _ _ _ _ _ _ _ _ _ _ C => w_M_isCell C σ x1)
set_option maxRecDepth 100000 in
theorem w_M_inCell_B34 {X : CX} (C : Cx X ZM RX7 cX7_inCell 4 (some .int) 0 0) {w1 : Nat} (hw1 : isA w1) (r4 : St → Int32 → Int32 → Int32 → Rt) (hr4 : ∀ (σ : St) (x1 : Int32) (x2 : Int32) (x3 : Int32), Sm X ZM 4 (some .int) σ [(0, .ref (cq X w1)), (1, .int x1), (2, .int x2), (3, .int x3)] 4 [] (r4 σ x1 x2 x3)) (σ : St) (x1 : Int32) (x3 : Int32) (s0 : Int32) (s1 : Int32) : Sm X ZM 4 (some .int) σ [(0, .ref (cq X w1)), (1, .int x1), (3, .int x3)] 34 [.int s0, .int s1] (m_M_inCell_B34 w1 r4 σ x1 x3 s0 s1) := by
  unfold m_M_inCell_B34
  refine s_ior C e_M_inCell_34 ?_
  refine s_nm (fun y1 => ?_)
  refine s_istore_n C e_M_inCell_35 (by decide) ?_
  refine s_iinc C e_M_inCell_36 (v := (1 : Int32)) rfl (by decide) ii_1 ?_
  refine s_goto (tgt := 4) C e_M_inCell_39 rfl ?_
  exact s_cut (hr4 _ _ _ _) ⟨rfl, rfl, rfl, rfl, trivial⟩
set_option maxRecDepth 100000 in
theorem w_M_inCell_B4 {X : CX} (C : Cx X ZM RX7 cX7_inCell 4 (some .int) 0 0) {w1 : Nat} (hw1 : isA w1) (r4 : St → Int32 → Int32 → Int32 → Rt) (hr4 : ∀ (σ : St) (x1 : Int32) (x2 : Int32) (x3 : Int32), Sm X ZM 4 (some .int) σ [(0, .ref (cq X w1)), (1, .int x1), (2, .int x2), (3, .int x3)] 4 [] (r4 σ x1 x2 x3)) (σ : St) (x1 : Int32) (x2 : Int32) (x3 : Int32) : Sm X ZM 4 (some .int) σ [(0, .ref (cq X w1)), (1, .int x1), (2, .int x2), (3, .int x3)] 4 [] (m_M_inCell_B4 w1 r4 σ x1 x2 x3) := by
  unfold m_M_inCell_B4
  refine s_iload_n C e_M_inCell_4 rfl ?_
  refine s_aload_n C e_M_inCell_5 rfl ?_
  refine s_iconst C e_M_inCell_6 (v := (2 : Int32)) ic_2 ?_
  refine s_iald C (za_lt hw1) (za hw1) e_M_inCell_7 ?_
  refine s_icmp_ge (tgt := 42) C e_M_inCell_8 rfl ?_ ?_
  · refine s_iload_n C e_M_inCell_42 rfl ?_
    exact s_iret C e_M_inCell_43
  · refine s_iload_n C e_M_inCell_11 rfl ?_
    refine s_aload_n C e_M_inCell_12 rfl ?_
    refine s_bipush C e_M_inCell_13 (v := (22 : Int32)) bp_22 ?_
    refine s_bipush C e_M_inCell_15 (v := (6 : Int32)) bp_6 ?_
    refine s_iload_n C e_M_inCell_17 rfl ?_
    refine s_imul C e_M_inCell_18 ?_
    refine s_iadd C e_M_inCell_19 ?_
    refine s_iconst C e_M_inCell_20 (v := (4 : Int32)) ic_4 ?_
    refine s_iadd C e_M_inCell_21 ?_
    refine s_iald C (za_lt hw1) (za hw1) e_M_inCell_22 ?_
    refine s_iload_n C e_M_inCell_23 rfl ?_
    refine s_icmp_ne (tgt := 33) C e_M_inCell_24 rfl ?_ ?_
    · refine s_iconst C e_M_inCell_27 (v := (1 : Int32)) ic_1 ?_
      refine s_iload_n C e_M_inCell_28 rfl ?_
      refine s_ishl C e_M_inCell_29 ?_
      refine s_goto (tgt := 34) C e_M_inCell_30 rfl ?_
      exact s_cut (w_M_inCell_B34 C hw1 r4 hr4 _ _ _ _ _) ⟨rfl, rfl, rfl, trivial⟩
    · refine s_iconst C e_M_inCell_33 (v := (0 : Int32)) ic_0 ?_
      exact s_cut (w_M_inCell_B34 C hw1 r4 hr4 _ _ _ _ _) ⟨rfl, rfl, rfl, trivial⟩
theorem w_M_inCell_L4 {X : CX} (C : Cx X ZM RX7 cX7_inCell 4 (some .int) 0 0) {w1 : Nat} (hw1 : isA w1)  : ∀ (n : Nat) (σ : St) (x1 : Int32) (x2 : Int32) (x3 : Int32), Sm X ZM 4 (some .int) σ [(0, .ref (cq X w1)), (1, .int x1), (2, .int x2), (3, .int x3)] 4 [] (m_M_inCell_L4 w1 n σ x1 x2 x3)
  | 0, _, _, _, _ => s_none
  | n + 1, σ, x1, x2, x3 => w_M_inCell_B4 C hw1 (m_M_inCell_L4 w1 n) (w_M_inCell_L4 C hw1 n) σ x1 x2 x3
set_option maxRecDepth 100000 in
theorem w_M_inCell {X : CX} (C : Cx X ZM RX7 cX7_inCell 4 (some .int) 0 0) {w1 : Nat} (hw1 : isA w1) (σ : St) (x1 : Int32) : Sm X ZM 4 (some .int) σ [(0, .ref (cq X w1)), (1, .int x1)] 0 [] (m_M_inCell w1 σ x1) := by
  unfold m_M_inCell
  refine s_iconst C e_M_inCell_0 (v := (0 : Int32)) ic_0 ?_
  refine s_istore_n C e_M_inCell_1 (by decide) ?_
  refine s_iconst C e_M_inCell_2 (v := (0 : Int32)) ic_0 ?_
  refine s_istore_n C e_M_inCell_3 (by decide) ?_
  exact s_cut (w_M_inCell_L4 C hw1 FU _ _ _ _) ⟨rfl, rfl, rfl, rfl, trivial⟩
theorem c_M_inCell {l : Launch} {D : va_G} {k : Nat → ClassId} {q : Nat → Nat} (hq : Inj ZM q) {w1 : Nat} (hw1 : isA w1) (σ : St) (x1 : Int32) : Ct l ZM D k q yX7_inCell cX7_inCell 4 (some .int) 0 0 [.ref (q w1), .int x1] σ (m_M_inCell w1 σ x1) :=
  Ct_of hq lcM (by decide) (Nat.le_of_ble_eq_true rfl) (fun _ _ _ _ _ _ _ _ _ _ C => w_M_inCell C hw1 σ x1)
set_option maxRecDepth 100000 in
theorem w_M_inTray {X : CX} (C : Cx X ZM RX7 cX7_inTray 1 (some .int) 1 23) {w1 : Nat} (hw1 : isA w1) (σ : St)  : Sm X ZM 1 (some .int) σ [(0, .ref (cq X w1))] 0 [] (m_M_inTray w1 σ) := by
  unfold m_M_inTray
  refine s_aload_n C e_M_inTray_0 rfl ?_
  refine s_ldc C e_M_inTray_1 g_452 ?_
  refine s_callS_2 C (c_M_inCell C.inj hw1 _ _) wv_M_inCell g_541 ⟨by decide, by decide⟩ rfl (Nat.le_of_ble_eq_true rfl) e_M_inTray_3 (fun v1 σ2 => ?_)
  exact s_iret C e_M_inTray_6
theorem c_M_inTray {l : Launch} {D : va_G} {k : Nat → ClassId} {q : Nat → Nat} (hq : Inj ZM q) {w1 : Nat} (hw1 : isA w1) (σ : St)  : Ct l ZM D k q yX7_inTray cX7_inTray 1 (some .int) 1 23 [.ref (q w1)] σ (m_M_inTray w1 σ) :=
  Ct_of hq lcM (by decide) (Nat.le_of_ble_eq_true rfl) (fun _ _ _ _ _ _ _ _ _ _ C => w_M_inTray C hw1 σ)
set_option maxRecDepth 100000 in
theorem w_M_closes_B48 {X : CX} (C : Cx X ZM RX7 cX7_closes 2 none 0 0) {w1 : Nat} (hw1 : isA w1) (r2 : St → Int32 → Rt) (hr2 : ∀ (σ : St) (x1 : Int32), Sm X ZM 2 none σ [(0, .ref (cq X w1)), (1, .int x1)] 2 [] (r2 σ x1)) (σ : St) (x1 : Int32) (s0 : Int32) (s1 : Int32) : Sm X ZM 2 none σ [(0, .ref (cq X w1)), (1, .int x1)] 48 [.int s0, .int s1, .ref (cq X w1)] (m_M_closes_B48 w1 r2 σ x1 s0 s1) := by
  unfold m_M_closes_B48
  refine s_iast C (za_lt hw1) (za hw1) e_M_closes_48 (fun σ1 => ?_)
  refine s_iinc C e_M_closes_49 (v := (1 : Int32)) rfl (by decide) ii_1 ?_
  refine s_goto (tgt := 2) C e_M_closes_52 rfl ?_
  exact s_cut (hr2 _ _) ⟨rfl, rfl, trivial⟩
set_option maxRecDepth 100000 in
theorem w_M_closes_B2 {X : CX} (C : Cx X ZM RX7 cX7_closes 2 none 0 0) {w1 : Nat} (hw1 : isA w1) (r2 : St → Int32 → Rt) (hr2 : ∀ (σ : St) (x1 : Int32), Sm X ZM 2 none σ [(0, .ref (cq X w1)), (1, .int x1)] 2 [] (r2 σ x1)) (σ : St) (x1 : Int32) : Sm X ZM 2 none σ [(0, .ref (cq X w1)), (1, .int x1)] 2 [] (m_M_closes_B2 w1 r2 σ x1) := by
  unfold m_M_closes_B2
  refine s_iload_n C e_M_closes_2 rfl ?_
  refine s_aload_n C e_M_closes_3 rfl ?_
  refine s_iconst C e_M_closes_4 (v := (2 : Int32)) ic_2 ?_
  refine s_iald C (za_lt hw1) (za hw1) e_M_closes_5 ?_
  refine s_icmp_ge (tgt := 55) C e_M_closes_6 rfl ?_ ?_
  · refine s_aload_n C e_M_closes_55 rfl ?_
    refine s_iconst C e_M_closes_56 (v := (4 : Int32)) ic_4 ?_
    refine s_iconst C e_M_closes_57 (v := (0 : Int32)) ic_0 ?_
    refine s_iast C (za_lt hw1) (za hw1) e_M_closes_58 (fun σ1 => ?_)
    exact s_vret C e_M_closes_59
  · refine s_aload_n C e_M_closes_9 rfl ?_
    refine s_bipush C e_M_closes_10 (v := (22 : Int32)) bp_22 ?_
    refine s_bipush C e_M_closes_12 (v := (6 : Int32)) bp_6 ?_
    refine s_iload_n C e_M_closes_14 rfl ?_
    refine s_imul C e_M_closes_15 ?_
    refine s_iadd C e_M_closes_16 ?_
    refine s_iconst C e_M_closes_17 (v := (4 : Int32)) ic_4 ?_
    refine s_iadd C e_M_closes_18 ?_
    refine s_aload_n C e_M_closes_19 rfl ?_
    refine s_bipush C e_M_closes_20 (v := (22 : Int32)) bp_22 ?_
    refine s_bipush C e_M_closes_22 (v := (6 : Int32)) bp_6 ?_
    refine s_iload_n C e_M_closes_24 rfl ?_
    refine s_imul C e_M_closes_25 ?_
    refine s_iadd C e_M_closes_26 ?_
    refine s_iald C (za_lt hw1) (za hw1) e_M_closes_27 ?_
    refine s_iconst C e_M_closes_28 (v := (5 : Int32)) ic_5 ?_
    refine s_icmp_ne (tgt := 46) C e_M_closes_29 rfl ?_ ?_
    · refine s_aload_n C e_M_closes_32 rfl ?_
      refine s_bipush C e_M_closes_33 (v := (22 : Int32)) bp_22 ?_
      refine s_bipush C e_M_closes_35 (v := (6 : Int32)) bp_6 ?_
      refine s_iload_n C e_M_closes_37 rfl ?_
      refine s_imul C e_M_closes_38 ?_
      refine s_iadd C e_M_closes_39 ?_
      refine s_iconst C e_M_closes_40 (v := (4 : Int32)) ic_4 ?_
      refine s_iadd C e_M_closes_41 ?_
      refine s_iald C (za_lt hw1) (za hw1) e_M_closes_42 ?_
      refine s_goto (tgt := 48) C e_M_closes_43 rfl ?_
      exact s_cut (w_M_closes_B48 C hw1 r2 hr2 _ _ _ _) ⟨rfl, rfl, trivial⟩
    · refine s_ldc C e_M_closes_46 g_452 ?_
      exact s_cut (w_M_closes_B48 C hw1 r2 hr2 _ _ _ _) ⟨rfl, rfl, trivial⟩
theorem w_M_closes_L2 {X : CX} (C : Cx X ZM RX7 cX7_closes 2 none 0 0) {w1 : Nat} (hw1 : isA w1)  : ∀ (n : Nat) (σ : St) (x1 : Int32), Sm X ZM 2 none σ [(0, .ref (cq X w1)), (1, .int x1)] 2 [] (m_M_closes_L2 w1 n σ x1)
  | 0, _, _ => s_none
  | n + 1, σ, x1 => w_M_closes_B2 C hw1 (m_M_closes_L2 w1 n) (w_M_closes_L2 C hw1 n) σ x1
set_option maxRecDepth 100000 in
theorem w_M_closes {X : CX} (C : Cx X ZM RX7 cX7_closes 2 none 0 0) {w1 : Nat} (hw1 : isA w1) (σ : St)  : Sm X ZM 2 none σ [(0, .ref (cq X w1))] 0 [] (m_M_closes w1 σ) := by
  unfold m_M_closes
  refine s_iconst C e_M_closes_0 (v := (0 : Int32)) ic_0 ?_
  refine s_istore_n C e_M_closes_1 (by decide) ?_
  exact s_cut (w_M_closes_L2 C hw1 FU _ _) ⟨rfl, rfl, trivial⟩
theorem c_M_closes {l : Launch} {D : va_G} {k : Nat → ClassId} {q : Nat → Nat} (hq : Inj ZM q) {w1 : Nat} (hw1 : isA w1) (σ : St)  : Ct l ZM D k q yX7_closes cX7_closes 2 none 0 0 [.ref (q w1)] σ (m_M_closes w1 σ) :=
  Ct_of hq lcM (by decide) (Nat.le_of_ble_eq_true rfl) (fun _ _ _ _ _ _ _ _ _ _ C => w_M_closes C hw1 σ)
set_option maxRecDepth 100000 in
theorem w_M_mixedWith_B51 {X : CX} (C : Cx X ZM RX7 cX7_mixedWith 3 (some .int) 0 0) {w1 : Nat} (hw1 : isA w1) (r4 : St → Int32 → Int32 → Rt) (hr4 : ∀ (σ : St) (x1 : Int32) (x2 : Int32), Sm X ZM 3 (some .int) σ [(0, .ref (cq X w1)), (1, .int x1), (2, .int x2)] 4 [] (r4 σ x1 x2)) (σ : St) (x1 : Int32) (x2 : Int32) : Sm X ZM 3 (some .int) σ [(0, .ref (cq X w1)), (1, .int x1), (2, .int x2)] 51 [] (m_M_mixedWith_B51 w1 r4 σ x1 x2) := by
  unfold m_M_mixedWith_B51
  refine s_iinc C e_M_mixedWith_51 (v := (1 : Int32)) rfl (by decide) ii_1 ?_
  refine s_goto (tgt := 4) C e_M_mixedWith_54 rfl ?_
  exact s_cut (hr4 _ _ _) ⟨rfl, rfl, rfl, trivial⟩
set_option maxRecDepth 100000 in
theorem w_M_mixedWith_B4 {X : CX} (C : Cx X ZM RX7 cX7_mixedWith 3 (some .int) 0 0) {w1 : Nat} (hw1 : isA w1) (r4 : St → Int32 → Int32 → Rt) (hr4 : ∀ (σ : St) (x1 : Int32) (x2 : Int32), Sm X ZM 3 (some .int) σ [(0, .ref (cq X w1)), (1, .int x1), (2, .int x2)] 4 [] (r4 σ x1 x2)) (σ : St) (x1 : Int32) (x2 : Int32) : Sm X ZM 3 (some .int) σ [(0, .ref (cq X w1)), (1, .int x1), (2, .int x2)] 4 [] (m_M_mixedWith_B4 w1 r4 σ x1 x2) := by
  unfold m_M_mixedWith_B4
  refine s_iload_n C e_M_mixedWith_4 rfl ?_
  refine s_aload_n C e_M_mixedWith_5 rfl ?_
  refine s_iconst C e_M_mixedWith_6 (v := (2 : Int32)) ic_2 ?_
  refine s_iald C (za_lt hw1) (za hw1) e_M_mixedWith_7 ?_
  refine s_icmp_ge (tgt := 57) C e_M_mixedWith_8 rfl ?_ ?_
  · refine s_ldc C e_M_mixedWith_57 g_452 ?_
    exact s_iret C e_M_mixedWith_59
  · refine s_aload_n C e_M_mixedWith_11 rfl ?_
    refine s_bipush C e_M_mixedWith_12 (v := (22 : Int32)) bp_22 ?_
    refine s_bipush C e_M_mixedWith_14 (v := (6 : Int32)) bp_6 ?_
    refine s_iload_n C e_M_mixedWith_16 rfl ?_
    refine s_imul C e_M_mixedWith_17 ?_
    refine s_iadd C e_M_mixedWith_18 ?_
    refine s_iald C (za_lt hw1) (za hw1) e_M_mixedWith_19 ?_
    refine s_iconst C e_M_mixedWith_20 (v := (5 : Int32)) ic_5 ?_
    refine s_icmp_eq (tgt := 51) C e_M_mixedWith_21 rfl ?_ ?_
    · exact s_cut (w_M_mixedWith_B51 C hw1 r4 hr4 _ _ _) ⟨rfl, rfl, rfl, trivial⟩
    · refine s_aload_n C e_M_mixedWith_24 rfl ?_
      refine s_bipush C e_M_mixedWith_25 (v := (22 : Int32)) bp_22 ?_
      refine s_bipush C e_M_mixedWith_27 (v := (6 : Int32)) bp_6 ?_
      refine s_iload_n C e_M_mixedWith_29 rfl ?_
      refine s_imul C e_M_mixedWith_30 ?_
      refine s_iadd C e_M_mixedWith_31 ?_
      refine s_iconst C e_M_mixedWith_32 (v := (3 : Int32)) ic_3 ?_
      refine s_iadd C e_M_mixedWith_33 ?_
      refine s_iald C (za_lt hw1) (za hw1) e_M_mixedWith_34 ?_
      refine s_aload_n C e_M_mixedWith_35 rfl ?_
      refine s_bipush C e_M_mixedWith_36 (v := (22 : Int32)) bp_22 ?_
      refine s_bipush C e_M_mixedWith_38 (v := (6 : Int32)) bp_6 ?_
      refine s_iload_n C e_M_mixedWith_40 rfl ?_
      refine s_imul C e_M_mixedWith_41 ?_
      refine s_iadd C e_M_mixedWith_42 ?_
      refine s_iconst C e_M_mixedWith_43 (v := (3 : Int32)) ic_3 ?_
      refine s_iadd C e_M_mixedWith_44 ?_
      refine s_iald C (za_lt hw1) (za hw1) e_M_mixedWith_45 ?_
      refine s_icmp_ne (tgt := 51) C e_M_mixedWith_46 rfl ?_ ?_
      · refine s_iload_n C e_M_mixedWith_49 rfl ?_
        exact s_iret C e_M_mixedWith_50
      · exact s_cut (w_M_mixedWith_B51 C hw1 r4 hr4 _ _ _) ⟨rfl, rfl, rfl, trivial⟩
theorem w_M_mixedWith_L4 {X : CX} (C : Cx X ZM RX7 cX7_mixedWith 3 (some .int) 0 0) {w1 : Nat} (hw1 : isA w1)  : ∀ (n : Nat) (σ : St) (x1 : Int32) (x2 : Int32), Sm X ZM 3 (some .int) σ [(0, .ref (cq X w1)), (1, .int x1), (2, .int x2)] 4 [] (m_M_mixedWith_L4 w1 n σ x1 x2)
  | 0, _, _, _ => s_none
  | n + 1, σ, x1, x2 => w_M_mixedWith_B4 C hw1 (m_M_mixedWith_L4 w1 n) (w_M_mixedWith_L4 C hw1 n) σ x1 x2
set_option maxRecDepth 100000 in
theorem w_M_mixedWith {X : CX} (C : Cx X ZM RX7 cX7_mixedWith 3 (some .int) 0 0) {w1 : Nat} (hw1 : isA w1) (σ : St) (x1 : Int32) : Sm X ZM 3 (some .int) σ [(0, .ref (cq X w1)), (1, .int x1)] 0 [] (m_M_mixedWith w1 σ x1) := by
  unfold m_M_mixedWith
  refine s_iload_n C e_M_mixedWith_0 rfl ?_
  refine s_iconst C e_M_mixedWith_1 (v := (1 : Int32)) ic_1 ?_
  refine s_iadd C e_M_mixedWith_2 ?_
  refine s_nm (fun y1 => ?_)
  refine s_istore_n C e_M_mixedWith_3 (by decide) ?_
  exact s_cut (w_M_mixedWith_L4 C hw1 FU _ _ _) ⟨rfl, rfl, rfl, trivial⟩
theorem c_M_mixedWith {l : Launch} {D : va_G} {k : Nat → ClassId} {q : Nat → Nat} (hq : Inj ZM q) {w1 : Nat} (hw1 : isA w1) (σ : St) (x1 : Int32) : Ct l ZM D k q yX7_mixedWith cX7_mixedWith 3 (some .int) 0 0 [.ref (q w1), .int x1] σ (m_M_mixedWith w1 σ x1) :=
  Ct_of hq lcM (by decide) (Nat.le_of_ble_eq_true rfl) (fun _ _ _ _ _ _ _ _ _ _ C => w_M_mixedWith C hw1 σ x1)
set_option maxRecDepth 100000 in
theorem w_M_putsBack_B122 {X : CX} (C : Cx X ZM RX7 cX7_putsBack 5 none 1 22) {w1 : Nat} (hw1 : isA w1)  (σ : St) (x2 : Int32) (s0 : Int32) (s1 : Int32) : Sm X ZM 5 none σ [(0, .ref (cq X w1)), (2, .int x2)] 122 [.int s0, .int s1, .ref (cq X w1)] (m_M_putsBack_B122 w1 σ x2 s0 s1) := by
  unfold m_M_putsBack_B122
  refine s_iast C (za_lt hw1) (za hw1) e_M_putsBack_122 (fun σ1 => ?_)
  refine s_aload_n C e_M_putsBack_123 rfl ?_
  refine s_iload_n C e_M_putsBack_124 rfl ?_
  refine s_iconst C e_M_putsBack_125 (v := (5 : Int32)) ic_5 ?_
  refine s_iadd C e_M_putsBack_126 ?_
  refine s_aload_n C e_M_putsBack_127 rfl ?_
  refine s_iload_n C e_M_putsBack_128 rfl ?_
  refine s_iconst C e_M_putsBack_129 (v := (4 : Int32)) ic_4 ?_
  refine s_iadd C e_M_putsBack_130 ?_
  refine s_iald C (za_lt hw1) (za hw1) e_M_putsBack_131 ?_
  refine s_iast C (za_lt hw1) (za hw1) e_M_putsBack_132 (fun σ2 => ?_)
  exact s_vret C e_M_putsBack_133
set_option maxRecDepth 100000 in
theorem w_M_putsBack_B68 {X : CX} (C : Cx X ZM RX7 cX7_putsBack 5 none 1 22) {w1 : Nat} (hw1 : isA w1)  (σ : St) (x2 : Int32) : Sm X ZM 5 none σ [(0, .ref (cq X w1)), (2, .int x2)] 68 [] (m_M_putsBack_B68 w1 σ x2) := by
  unfold m_M_putsBack_B68
  refine s_aload_n C e_M_putsBack_68 rfl ?_
  refine s_iload_n C e_M_putsBack_69 rfl ?_
  refine s_iald C (za_lt hw1) (za hw1) e_M_putsBack_70 ?_
  refine s_iconst C e_M_putsBack_71 (v := (5 : Int32)) ic_5 ?_
  refine s_icmp_eq (tgt := 133) C e_M_putsBack_72 rfl ?_ ?_
  · exact s_vret C e_M_putsBack_133
  · refine s_aload_n C e_M_putsBack_75 rfl ?_
    refine s_iload_n C e_M_putsBack_76 rfl ?_
    refine s_iconst C e_M_putsBack_77 (v := (4 : Int32)) ic_4 ?_
    refine s_iadd C e_M_putsBack_78 ?_
    refine s_aload_n C e_M_putsBack_79 rfl ?_
    refine s_iload_n C e_M_putsBack_80 rfl ?_
    refine s_iald C (za_lt hw1) (za hw1) e_M_putsBack_81 ?_
    refine s_iconst C e_M_putsBack_82 (v := (3 : Int32)) ic_3 ?_
    refine s_icmp_ne (tgt := 102) C e_M_putsBack_83 rfl ?_ ?_
    · refine s_aload_n C e_M_putsBack_86 rfl ?_
      refine s_iload_n C e_M_putsBack_87 rfl ?_
      refine s_iconst C e_M_putsBack_88 (v := (5 : Int32)) ic_5 ?_
      refine s_iadd C e_M_putsBack_89 ?_
      refine s_iald C (za_lt hw1) (za hw1) e_M_putsBack_90 ?_
      refine s_aload_n C e_M_putsBack_91 rfl ?_
      refine s_iconst C e_M_putsBack_92 (v := (0 : Int32)) ic_0 ?_
      refine s_iald C (za_lt hw1) (za hw1) e_M_putsBack_93 ?_
      refine s_iadd C e_M_putsBack_94 ?_
      refine s_aload_n C e_M_putsBack_95 rfl ?_
      refine s_iconst C e_M_putsBack_96 (v := (1 : Int32)) ic_1 ?_
      refine s_iald C (za_lt hw1) (za hw1) e_M_putsBack_97 ?_
      refine s_irem C e_M_putsBack_98 ?_
      refine s_goto (tgt := 122) C e_M_putsBack_99 rfl ?_
      exact s_cut (w_M_putsBack_B122 C hw1 _ _ _ _) ⟨rfl, rfl, trivial⟩
    · refine s_aload_n C e_M_putsBack_102 rfl ?_
      refine s_iload_n C e_M_putsBack_103 rfl ?_
      refine s_iald C (za_lt hw1) (za hw1) e_M_putsBack_104 ?_
      refine s_iconst C e_M_putsBack_105 (v := (4 : Int32)) ic_4 ?_
      refine s_icmp_ne (tgt := 117) C e_M_putsBack_106 rfl ?_ ?_
      · refine s_aload_n C e_M_putsBack_109 rfl ?_
        refine s_iload_n C e_M_putsBack_110 rfl ?_
        refine s_iconst C e_M_putsBack_111 (v := (1 : Int32)) ic_1 ?_
        refine s_iadd C e_M_putsBack_112 ?_
        refine s_iald C (za_lt hw1) (za hw1) e_M_putsBack_113 ?_
        refine s_goto (tgt := 122) C e_M_putsBack_114 rfl ?_
        exact s_cut (w_M_putsBack_B122 C hw1 _ _ _ _) ⟨rfl, rfl, trivial⟩
      · refine s_aload_n C e_M_putsBack_117 rfl ?_
        refine s_iload_n C e_M_putsBack_118 rfl ?_
        refine s_iconst C e_M_putsBack_119 (v := (5 : Int32)) ic_5 ?_
        refine s_iadd C e_M_putsBack_120 ?_
        refine s_iald C (za_lt hw1) (za hw1) e_M_putsBack_121 ?_
        exact s_cut (w_M_putsBack_B122 C hw1 _ _ _ _) ⟨rfl, rfl, trivial⟩
set_option maxRecDepth 100000 in
theorem w_M_putsBack_B25 {X : CX} (C : Cx X ZM RX7 cX7_putsBack 5 none 1 22) {w1 : Nat} (hw1 : isA w1)  (σ : St) (x2 : Int32) (s0 : Int32) : Sm X ZM 5 none σ [(0, .ref (cq X w1)), (2, .int x2)] 25 [.int s0] (m_M_putsBack_B25 w1 σ x2 s0) := by
  unfold m_M_putsBack_B25
  refine s_istore_n C e_M_putsBack_25 (by decide) ?_
  refine s_iload_n C e_M_putsBack_26 rfl ?_
  refine s_ldc C e_M_putsBack_27 g_452 ?_
  refine s_icmp_eq (tgt := 68) C e_M_putsBack_29 rfl ?_ ?_
  · exact s_cut (w_M_putsBack_B68 C hw1 _ _) ⟨rfl, rfl, trivial⟩
  · refine s_aload_n C e_M_putsBack_32 rfl ?_
    refine s_iload_n C e_M_putsBack_33 rfl ?_
    refine s_iconst C e_M_putsBack_34 (v := (5 : Int32)) ic_5 ?_
    refine s_iadd C e_M_putsBack_35 ?_
    refine s_iald C (za_lt hw1) (za hw1) e_M_putsBack_36 ?_
    refine s_nm (fun y1 => ?_)
    refine s_istore C e_M_putsBack_37 (by decide) ?_
    refine s_aload_n C e_M_putsBack_39 rfl ?_
    refine s_iload_n C e_M_putsBack_40 rfl ?_
    refine s_iconst C e_M_putsBack_41 (v := (5 : Int32)) ic_5 ?_
    refine s_iadd C e_M_putsBack_42 ?_
    refine s_aload_n C e_M_putsBack_43 rfl ?_
    refine s_bipush C e_M_putsBack_44 (v := (22 : Int32)) bp_22 ?_
    refine s_bipush C e_M_putsBack_46 (v := (6 : Int32)) bp_6 ?_
    refine s_iload_n C e_M_putsBack_48 rfl ?_
    refine s_imul C e_M_putsBack_49 ?_
    refine s_iadd C e_M_putsBack_50 ?_
    refine s_iconst C e_M_putsBack_51 (v := (5 : Int32)) ic_5 ?_
    refine s_iadd C e_M_putsBack_52 ?_
    refine s_iald C (za_lt hw1) (za hw1) e_M_putsBack_53 ?_
    refine s_iast C (za_lt hw1) (za hw1) e_M_putsBack_54 (fun σ2 => ?_)
    refine s_aload_n C e_M_putsBack_55 rfl ?_
    refine s_bipush C e_M_putsBack_56 (v := (22 : Int32)) bp_22 ?_
    refine s_bipush C e_M_putsBack_58 (v := (6 : Int32)) bp_6 ?_
    refine s_iload_n C e_M_putsBack_60 rfl ?_
    refine s_imul C e_M_putsBack_61 ?_
    refine s_iadd C e_M_putsBack_62 ?_
    refine s_iconst C e_M_putsBack_63 (v := (5 : Int32)) ic_5 ?_
    refine s_iadd C e_M_putsBack_64 ?_
    refine s_iload C e_M_putsBack_65 rfl ?_
    refine s_iast C (za_lt hw1) (za hw1) e_M_putsBack_67 (fun σ3 => ?_)
    exact s_cut (w_M_putsBack_B68 C hw1 _ _) ⟨rfl, rfl, trivial⟩
set_option maxRecDepth 100000 in
theorem w_M_putsBack {X : CX} (C : Cx X ZM RX7 cX7_putsBack 5 none 1 22) {w1 : Nat} (hw1 : isA w1) (σ : St) (x1 : Int32) : Sm X ZM 5 none σ [(0, .ref (cq X w1)), (1, .int x1)] 0 [] (m_M_putsBack w1 σ x1) := by
  unfold m_M_putsBack
  refine s_bipush C e_M_putsBack_0 (v := (22 : Int32)) bp_22 ?_
  refine s_bipush C e_M_putsBack_2 (v := (6 : Int32)) bp_6 ?_
  refine s_iload_n C e_M_putsBack_4 rfl ?_
  refine s_imul C e_M_putsBack_5 ?_
  refine s_iadd C e_M_putsBack_6 ?_
  refine s_nm (fun y1 => ?_)
  refine s_istore_n C e_M_putsBack_7 (by decide) ?_
  refine s_aload_n C e_M_putsBack_8 rfl ?_
  refine s_iload_n C e_M_putsBack_9 rfl ?_
  refine s_iald C (za_lt hw1) (za hw1) e_M_putsBack_10 ?_
  refine s_iconst C e_M_putsBack_11 (v := (2 : Int32)) ic_2 ?_
  refine s_icmp_ne (tgt := 23) C e_M_putsBack_12 rfl ?_ ?_
  · refine s_aload_n C e_M_putsBack_15 rfl ?_
    refine s_iload_n C e_M_putsBack_16 rfl ?_
    refine s_callS_2 C (c_M_mixedWith C.inj hw1 _ _) wv_M_mixedWith g_544 ⟨by decide, by decide⟩ rfl (Nat.le_of_ble_eq_true rfl) e_M_putsBack_17 (fun v2 σ3 => ?_)
    refine s_goto (tgt := 25) C e_M_putsBack_20 rfl ?_
    exact s_cut (w_M_putsBack_B25 C hw1 _ _ _) ⟨rfl, rfl, trivial⟩
  · refine s_ldc C e_M_putsBack_23 g_452 ?_
    exact s_cut (w_M_putsBack_B25 C hw1 _ _ _) ⟨rfl, rfl, trivial⟩
theorem c_M_putsBack {l : Launch} {D : va_G} {k : Nat → ClassId} {q : Nat → Nat} (hq : Inj ZM q) {w1 : Nat} (hw1 : isA w1) (σ : St) (x1 : Int32) : Ct l ZM D k q yX7_putsBack cX7_putsBack 5 none 1 22 [.ref (q w1), .int x1] σ (m_M_putsBack w1 σ x1) :=
  Ct_of hq lcM (by decide) (Nat.le_of_ble_eq_true rfl) (fun _ _ _ _ _ _ _ _ _ _ C => w_M_putsBack C hw1 σ x1)
set_option maxRecDepth 100000 in
theorem w_M_opens_B22 {X : CX} (C : Cx X ZM RX7 cX7_opens 4 none 2 46) {w1 : Nat} (hw1 : isA w1) (r2 : St → Int32 → Int32 → Rt) (hr2 : ∀ (σ : St) (x1 : Int32) (x2 : Int32), Sm X ZM 4 none σ [(0, .ref (cq X w1)), (1, .int x1), (2, .int x2)] 2 [] (r2 σ x1 x2)) (σ : St) (x1 : Int32) (x2 : Int32) : Sm X ZM 4 none σ [(0, .ref (cq X w1)), (1, .int x1), (2, .int x2)] 22 [] (m_M_opens_B22 w1 r2 σ x1 x2) := by
  unfold m_M_opens_B22
  refine s_iinc C e_M_opens_22 (v := (1 : Int32)) rfl (by decide) ii_1 ?_
  refine s_goto (tgt := 2) C e_M_opens_25 rfl ?_
  exact s_cut (hr2 _ _ _) ⟨rfl, rfl, rfl, trivial⟩
set_option maxRecDepth 100000 in
theorem w_M_opens_B94 {X : CX} (C : Cx X ZM RX7 cX7_opens 4 none 2 46) {w1 : Nat} (hw1 : isA w1) (r34 : St → Int32 → Rt) (hr34 : ∀ (σ : St) (x2 : Int32), Sm X ZM 4 none σ [(0, .ref (cq X w1)), (2, .int x2)] 34 [] (r34 σ x2)) (σ : St) (x2 : Int32) : Sm X ZM 4 none σ [(0, .ref (cq X w1)), (2, .int x2)] 94 [] (m_M_opens_B94 w1 r34 σ x2) := by
  unfold m_M_opens_B94
  refine s_iinc C e_M_opens_94 (v := (1 : Int32)) rfl (by decide) ii_1 ?_
  refine s_goto (tgt := 34) C e_M_opens_97 rfl ?_
  exact s_cut (hr34 _ _) ⟨rfl, rfl, trivial⟩
set_option maxRecDepth 100000 in
theorem w_M_opens_B100 {X : CX} (C : Cx X ZM RX7 cX7_opens 4 none 2 46) {w1 : Nat} (hw1 : isA w1)  (σ : St)  : Sm X ZM 4 none σ [(0, .ref (cq X w1))] 100 [] (m_M_opens_B100 w1 σ) := by
  unfold m_M_opens_B100
  refine s_aload_n C e_M_opens_100 rfl ?_
  refine s_iconst C e_M_opens_101 (v := (5 : Int32)) ic_5 ?_
  refine s_aload_n C e_M_opens_102 rfl ?_
  refine s_iconst C e_M_opens_103 (v := (5 : Int32)) ic_5 ?_
  refine s_iald C (za_lt hw1) (za hw1) e_M_opens_104 ?_
  refine s_ldc C e_M_opens_105 g_556 ?_
  refine s_icmp_le (tgt := 115) C e_M_opens_107 rfl ?_ ?_
  · refine s_aload_n C e_M_opens_115 rfl ?_
    refine s_iconst C e_M_opens_116 (v := (5 : Int32)) ic_5 ?_
    refine s_iald C (za_lt hw1) (za hw1) e_M_opens_117 ?_
    refine s_iast C (za_lt hw1) (za hw1) e_M_opens_118 (fun σ1 => ?_)
    exact s_vret C e_M_opens_119
  · refine s_ldc C e_M_opens_110 g_556 ?_
    refine s_goto (tgt := 118) C e_M_opens_112 rfl ?_
    refine s_iast C (za_lt hw1) (za hw1) e_M_opens_118 (fun σ2 => ?_)
    exact s_vret C e_M_opens_119
set_option maxRecDepth 100000 in
theorem w_M_opens_B34 {X : CX} (C : Cx X ZM RX7 cX7_opens 4 none 2 46) {w1 : Nat} (hw1 : isA w1) (r34 : St → Int32 → Rt) (hr34 : ∀ (σ : St) (x2 : Int32), Sm X ZM 4 none σ [(0, .ref (cq X w1)), (2, .int x2)] 34 [] (r34 σ x2)) (σ : St) (x2 : Int32) : Sm X ZM 4 none σ [(0, .ref (cq X w1)), (2, .int x2)] 34 [] (m_M_opens_B34 w1 r34 σ x2) := by
  unfold m_M_opens_B34
  refine s_iload_n C e_M_opens_34 rfl ?_
  refine s_aload_n C e_M_opens_35 rfl ?_
  refine s_iconst C e_M_opens_36 (v := (2 : Int32)) ic_2 ?_
  refine s_iald C (za_lt hw1) (za hw1) e_M_opens_37 ?_
  refine s_icmp_ge (tgt := 100) C e_M_opens_38 rfl ?_ ?_
  · exact s_cut (w_M_opens_B100 C hw1 _) ⟨rfl, trivial⟩
  · refine s_bipush C e_M_opens_41 (v := (22 : Int32)) bp_22 ?_
    refine s_bipush C e_M_opens_43 (v := (6 : Int32)) bp_6 ?_
    refine s_iload_n C e_M_opens_45 rfl ?_
    refine s_imul C e_M_opens_46 ?_
    refine s_iadd C e_M_opens_47 ?_
    refine s_nm (fun y1 => ?_)
    refine s_istore_n C e_M_opens_48 (by decide) ?_
    refine s_aload_n C e_M_opens_49 rfl ?_
    refine s_iload_n C e_M_opens_50 rfl ?_
    refine s_iconst C e_M_opens_51 (v := (4 : Int32)) ic_4 ?_
    refine s_iadd C e_M_opens_52 ?_
    refine s_iald C (za_lt hw1) (za hw1) e_M_opens_53 ?_
    refine s_ldc C e_M_opens_54 g_452 ?_
    refine s_icmp_eq (tgt := 94) C e_M_opens_56 rfl ?_ ?_
    · exact s_cut (w_M_opens_B94 C hw1 r34 hr34 _ _) ⟨rfl, rfl, trivial⟩
    · refine s_aload_n C e_M_opens_59 rfl ?_
      refine s_iconst C e_M_opens_60 (v := (5 : Int32)) ic_5 ?_
      refine s_dup2 C e_M_opens_61 rfl rfl ?_
      refine s_iald C (za_lt hw1) (za hw1) e_M_opens_62 ?_
      refine s_aload_n C e_M_opens_63 rfl ?_
      refine s_iload_n C e_M_opens_64 rfl ?_
      refine s_iconst C e_M_opens_65 (v := (2 : Int32)) ic_2 ?_
      refine s_iadd C e_M_opens_66 ?_
      refine s_iald C (za_lt hw1) (za hw1) e_M_opens_67 ?_
      refine s_aload_n C e_M_opens_68 rfl ?_
      refine s_bipush C e_M_opens_69 (v := (6 : Int32)) bp_6 ?_
      refine s_aload_n C e_M_opens_71 rfl ?_
      refine s_iload_n C e_M_opens_72 rfl ?_
      refine s_iconst C e_M_opens_73 (v := (4 : Int32)) ic_4 ?_
      refine s_iadd C e_M_opens_74 ?_
      refine s_iald C (za_lt hw1) (za hw1) e_M_opens_75 ?_
      refine s_iadd C e_M_opens_76 ?_
      refine s_iald C (za_lt hw1) (za hw1) e_M_opens_77 ?_
      refine s_imul C e_M_opens_78 ?_
      refine s_aload_n C e_M_opens_79 rfl ?_
      refine s_aload_n C e_M_opens_80 rfl ?_
      refine s_iload_n C e_M_opens_81 rfl ?_
      refine s_iconst C e_M_opens_82 (v := (4 : Int32)) ic_4 ?_
      refine s_iadd C e_M_opens_83 ?_
      refine s_iald C (za_lt hw1) (za hw1) e_M_opens_84 ?_
      refine s_callS_2 C (c_M_inCell C.inj hw1 _ _) wv_M_inCell g_541 ⟨by decide, by decide⟩ rfl (Nat.le_of_ble_eq_true rfl) e_M_opens_85 (fun v2 σ3 => ?_)
      refine s_callS_1 C (c_M_ones C.inj _ _) wv_M_ones g_553 ⟨by decide, by decide⟩ rfl (Nat.le_of_ble_eq_true rfl) e_M_opens_88 (fun v4 σ5 => ?_)
      refine s_idiv C e_M_opens_91 ?_
      refine s_iadd C e_M_opens_92 ?_
      refine s_iast C (za_lt hw1) (za hw1) e_M_opens_93 (fun σ6 => ?_)
      exact s_cut (w_M_opens_B94 C hw1 r34 hr34 _ _) ⟨rfl, rfl, trivial⟩
theorem w_M_opens_L34 {X : CX} (C : Cx X ZM RX7 cX7_opens 4 none 2 46) {w1 : Nat} (hw1 : isA w1)  : ∀ (n : Nat) (σ : St) (x2 : Int32), Sm X ZM 4 none σ [(0, .ref (cq X w1)), (2, .int x2)] 34 [] (m_M_opens_L34 w1 n σ x2)
  | 0, _, _ => s_none
  | n + 1, σ, x2 => w_M_opens_B34 C hw1 (m_M_opens_L34 w1 n) (w_M_opens_L34 C hw1 n) σ x2
set_option maxRecDepth 100000 in
theorem w_M_opens_B28 {X : CX} (C : Cx X ZM RX7 cX7_opens 4 none 2 46) {w1 : Nat} (hw1 : isA w1)  (σ : St)  : Sm X ZM 4 none σ [(0, .ref (cq X w1))] 28 [] (m_M_opens_B28 w1 σ) := by
  unfold m_M_opens_B28
  refine s_aload_n C e_M_opens_28 rfl ?_
  refine s_iconst C e_M_opens_29 (v := (4 : Int32)) ic_4 ?_
  refine s_iconst C e_M_opens_30 (v := (1 : Int32)) ic_1 ?_
  refine s_iast C (za_lt hw1) (za hw1) e_M_opens_31 (fun σ1 => ?_)
  refine s_iconst C e_M_opens_32 (v := (0 : Int32)) ic_0 ?_
  refine s_istore_n C e_M_opens_33 (by decide) ?_
  exact s_cut (w_M_opens_L34 C hw1 FU _ _) ⟨rfl, rfl, trivial⟩
set_option maxRecDepth 100000 in
theorem w_M_opens_B2 {X : CX} (C : Cx X ZM RX7 cX7_opens 4 none 2 46) {w1 : Nat} (hw1 : isA w1) (r2 : St → Int32 → Int32 → Rt) (hr2 : ∀ (σ : St) (x1 : Int32) (x2 : Int32), Sm X ZM 4 none σ [(0, .ref (cq X w1)), (1, .int x1), (2, .int x2)] 2 [] (r2 σ x1 x2)) (σ : St) (x1 : Int32) (x2 : Int32) : Sm X ZM 4 none σ [(0, .ref (cq X w1)), (1, .int x1), (2, .int x2)] 2 [] (m_M_opens_B2 w1 r2 σ x1 x2) := by
  unfold m_M_opens_B2
  refine s_iload_n C e_M_opens_2 rfl ?_
  refine s_aload_n C e_M_opens_3 rfl ?_
  refine s_iconst C e_M_opens_4 (v := (2 : Int32)) ic_2 ?_
  refine s_iald C (za_lt hw1) (za hw1) e_M_opens_5 ?_
  refine s_icmp_ge (tgt := 28) C e_M_opens_6 rfl ?_ ?_
  · exact s_cut (w_M_opens_B28 C hw1 _) ⟨rfl, trivial⟩
  · refine s_iload_n C e_M_opens_9 rfl ?_
    refine s_iload_n C e_M_opens_10 rfl ?_
    refine s_callS_2 C (c_M_has C.inj _ _ _) wv_M_has g_550 ⟨by decide, by decide⟩ rfl (Nat.le_of_ble_eq_true rfl) e_M_opens_11 (fun v1 σ2 => ?_)
    refine s_if_ne (tgt := 22) C e_M_opens_14 rfl ?_ ?_
    · refine s_aload_n C e_M_opens_17 rfl ?_
      refine s_iload_n C e_M_opens_18 rfl ?_
      refine s_callSv_2 C (c_M_putsBack C.inj hw1 _ _) wv_M_putsBack g_547 ⟨by decide, by decide⟩ rfl (Nat.le_of_ble_eq_true rfl) e_M_opens_19 (fun v3 σ4 => ?_)
      exact s_cut (w_M_opens_B22 C hw1 r2 hr2 _ _ _) ⟨rfl, rfl, rfl, trivial⟩
    · exact s_cut (w_M_opens_B22 C hw1 r2 hr2 _ _ _) ⟨rfl, rfl, rfl, trivial⟩
theorem w_M_opens_L2 {X : CX} (C : Cx X ZM RX7 cX7_opens 4 none 2 46) {w1 : Nat} (hw1 : isA w1)  : ∀ (n : Nat) (σ : St) (x1 : Int32) (x2 : Int32), Sm X ZM 4 none σ [(0, .ref (cq X w1)), (1, .int x1), (2, .int x2)] 2 [] (m_M_opens_L2 w1 n σ x1 x2)
  | 0, _, _, _ => s_none
  | n + 1, σ, x1, x2 => w_M_opens_B2 C hw1 (m_M_opens_L2 w1 n) (w_M_opens_L2 C hw1 n) σ x1 x2
set_option maxRecDepth 100000 in
theorem w_M_opens {X : CX} (C : Cx X ZM RX7 cX7_opens 4 none 2 46) {w1 : Nat} (hw1 : isA w1) (σ : St) (x1 : Int32) : Sm X ZM 4 none σ [(0, .ref (cq X w1)), (1, .int x1)] 0 [] (m_M_opens w1 σ x1) := by
  unfold m_M_opens
  refine s_iconst C e_M_opens_0 (v := (0 : Int32)) ic_0 ?_
  refine s_istore_n C e_M_opens_1 (by decide) ?_
  exact s_cut (w_M_opens_L2 C hw1 FU _ _ _) ⟨rfl, rfl, rfl, trivial⟩
theorem c_M_opens {l : Launch} {D : va_G} {k : Nat → ClassId} {q : Nat → Nat} (hq : Inj ZM q) {w1 : Nat} (hw1 : isA w1) (σ : St) (x1 : Int32) : Ct l ZM D k q yX7_opens cX7_opens 4 none 2 46 [.ref (q w1), .int x1] σ (m_M_opens w1 σ x1) :=
  Ct_of hq lcM (by decide) (Nat.le_of_ble_eq_true rfl) (fun _ _ _ _ _ _ _ _ _ _ C => w_M_opens C hw1 σ x1)
set_option maxRecDepth 100000 in
theorem w_M_passes_B19 {X : CX} (C : Cx X ZM RX7 cX7_passes 1 none 3 69) {w1 : Nat} (hw1 : isA w1)  (σ : St)  : Sm X ZM 1 none σ [(0, .ref (cq X w1))] 19 [] (m_M_passes_B19 w1 σ) := by
  unfold m_M_passes_B19
  refine s_aload_n C e_M_passes_19 rfl ?_
  refine s_iconst C e_M_passes_20 (v := (3 : Int32)) ic_3 ?_
  refine s_dup2 C e_M_passes_21 rfl rfl ?_
  refine s_iald C (za_lt hw1) (za hw1) e_M_passes_22 ?_
  refine s_iconst C e_M_passes_23 (v := (1 : Int32)) ic_1 ?_
  refine s_iadd C e_M_passes_24 ?_
  refine s_iast C (za_lt hw1) (za hw1) e_M_passes_25 (fun σ1 => ?_)
  exact s_vret C e_M_passes_26
set_option maxRecDepth 100000 in
theorem w_M_passes {X : CX} (C : Cx X ZM RX7 cX7_passes 1 none 3 69) {w1 : Nat} (hw1 : isA w1) (σ : St)  : Sm X ZM 1 none σ [(0, .ref (cq X w1))] 0 [] (m_M_passes w1 σ) := by
  unfold m_M_passes
  refine s_aload_n C e_M_passes_0 rfl ?_
  refine s_iconst C e_M_passes_1 (v := (4 : Int32)) ic_4 ?_
  refine s_iald C (za_lt hw1) (za hw1) e_M_passes_2 ?_
  refine s_iconst C e_M_passes_3 (v := (1 : Int32)) ic_1 ?_
  refine s_icmp_ne (tgt := 14) C e_M_passes_4 rfl ?_ ?_
  · refine s_aload_n C e_M_passes_7 rfl ?_
    refine s_callSv_1 C (c_M_closes C.inj hw1 _) wv_M_closes g_560 ⟨by decide, by decide⟩ rfl (Nat.le_of_ble_eq_true rfl) e_M_passes_8 (fun v3 σ4 => ?_)
    refine s_goto (tgt := 19) C e_M_passes_11 rfl ?_
    exact s_cut (w_M_passes_B19 C hw1 _) ⟨rfl, trivial⟩
  · refine s_aload_n C e_M_passes_14 rfl ?_
    refine s_iconst C e_M_passes_15 (v := (0 : Int32)) ic_0 ?_
    refine s_callSv_2 C (c_M_opens C.inj hw1 _ _) wv_M_opens g_557 ⟨by decide, by decide⟩ rfl (Nat.le_of_ble_eq_true rfl) e_M_passes_16 (fun v1 σ2 => ?_)
    exact s_cut (w_M_passes_B19 C hw1 _) ⟨rfl, trivial⟩
theorem c_M_passes {l : Launch} {D : va_G} {k : Nat → ClassId} {q : Nat → Nat} (hq : Inj ZM q) {w1 : Nat} (hw1 : isA w1) (σ : St)  : Ct l ZM D k q yX7_passes cX7_passes 1 none 3 69 [.ref (q w1)] σ (m_M_passes w1 σ) :=
  Ct_of hq lcM (by decide) (Nat.le_of_ble_eq_true rfl) (fun _ _ _ _ _ _ _ _ _ _ C => w_M_passes C hw1 σ)
set_option maxRecDepth 100000 in
theorem w_M_lays {X : CX} (C : Cx X ZM RX7 cX7_lays 3 none 0 0) {w1 : Nat} (hw1 : isA w1) (σ : St) (x1 : Int32) (x2 : Int32) : Sm X ZM 3 none σ [(0, .ref (cq X w1)), (1, .int x1), (2, .int x2)] 0 [] (m_M_lays w1 σ x1 x2) := by
  unfold m_M_lays
  refine s_aload_n C e_M_lays_0 rfl ?_
  refine s_bipush C e_M_lays_1 (v := (22 : Int32)) bp_22 ?_
  refine s_bipush C e_M_lays_3 (v := (6 : Int32)) bp_6 ?_
  refine s_iload_n C e_M_lays_5 rfl ?_
  refine s_imul C e_M_lays_6 ?_
  refine s_iadd C e_M_lays_7 ?_
  refine s_iconst C e_M_lays_8 (v := (4 : Int32)) ic_4 ?_
  refine s_iadd C e_M_lays_9 ?_
  refine s_iload_n C e_M_lays_10 rfl ?_
  refine s_iast C (za_lt hw1) (za hw1) e_M_lays_11 (fun σ1 => ?_)
  refine s_aload_n C e_M_lays_12 rfl ?_
  refine s_bipush C e_M_lays_13 (v := (22 : Int32)) bp_22 ?_
  refine s_bipush C e_M_lays_15 (v := (6 : Int32)) bp_6 ?_
  refine s_iload_n C e_M_lays_17 rfl ?_
  refine s_imul C e_M_lays_18 ?_
  refine s_iadd C e_M_lays_19 ?_
  refine s_iconst C e_M_lays_20 (v := (5 : Int32)) ic_5 ?_
  refine s_iadd C e_M_lays_21 ?_
  refine s_iload_n C e_M_lays_22 rfl ?_
  refine s_iast C (za_lt hw1) (za hw1) e_M_lays_23 (fun σ2 => ?_)
  exact s_vret C e_M_lays_24
theorem c_M_lays {l : Launch} {D : va_G} {k : Nat → ClassId} {q : Nat → Nat} (hq : Inj ZM q) {w1 : Nat} (hw1 : isA w1) (σ : St) (x1 : Int32) (x2 : Int32) : Ct l ZM D k q yX7_lays cX7_lays 3 none 0 0 [.ref (q w1), .int x1, .int x2] σ (m_M_lays w1 σ x1 x2) :=
  Ct_of hq lcM (by decide) (Nat.le_of_ble_eq_true rfl) (fun _ _ _ _ _ _ _ _ _ _ C => w_M_lays C hw1 σ x1 x2)
set_option maxRecDepth 100000 in
theorem w_M_rights_B44 {X : CX} (C : Cx X ZM RX7 cX7_rights 3 (some .int) 0 0) {w1 : Nat} (hw1 : isA w1) (r4 : St → Int32 → Int32 → Rt) (hr4 : ∀ (σ : St) (x1 : Int32) (x2 : Int32), Sm X ZM 3 (some .int) σ [(0, .ref (cq X w1)), (1, .int x1), (2, .int x2)] 4 [] (r4 σ x1 x2)) (σ : St) (x2 : Int32) (s0 : Int32) (s1 : Int32) : Sm X ZM 3 (some .int) σ [(0, .ref (cq X w1)), (2, .int x2)] 44 [.int s0, .int s1] (m_M_rights_B44 w1 r4 σ x2 s0 s1) := by
  unfold m_M_rights_B44
  refine s_ior C e_M_rights_44 ?_
  refine s_nm (fun y1 => ?_)
  refine s_istore_n C e_M_rights_45 (by decide) ?_
  refine s_iinc C e_M_rights_46 (v := (1 : Int32)) rfl (by decide) ii_1 ?_
  refine s_goto (tgt := 4) C e_M_rights_49 rfl ?_
  exact s_cut (hr4 _ _ _) ⟨rfl, rfl, rfl, trivial⟩
set_option maxRecDepth 100000 in
theorem w_M_rights_B4 {X : CX} (C : Cx X ZM RX7 cX7_rights 3 (some .int) 0 0) {w1 : Nat} (hw1 : isA w1) (r4 : St → Int32 → Int32 → Rt) (hr4 : ∀ (σ : St) (x1 : Int32) (x2 : Int32), Sm X ZM 3 (some .int) σ [(0, .ref (cq X w1)), (1, .int x1), (2, .int x2)] 4 [] (r4 σ x1 x2)) (σ : St) (x1 : Int32) (x2 : Int32) : Sm X ZM 3 (some .int) σ [(0, .ref (cq X w1)), (1, .int x1), (2, .int x2)] 4 [] (m_M_rights_B4 w1 r4 σ x1 x2) := by
  unfold m_M_rights_B4
  refine s_iload_n C e_M_rights_4 rfl ?_
  refine s_aload_n C e_M_rights_5 rfl ?_
  refine s_iconst C e_M_rights_6 (v := (2 : Int32)) ic_2 ?_
  refine s_iald C (za_lt hw1) (za hw1) e_M_rights_7 ?_
  refine s_icmp_ge (tgt := 52) C e_M_rights_8 rfl ?_ ?_
  · refine s_iload_n C e_M_rights_52 rfl ?_
    exact s_iret C e_M_rights_53
  · refine s_iload_n C e_M_rights_11 rfl ?_
    refine s_aload_n C e_M_rights_12 rfl ?_
    refine s_bipush C e_M_rights_13 (v := (22 : Int32)) bp_22 ?_
    refine s_bipush C e_M_rights_15 (v := (6 : Int32)) bp_6 ?_
    refine s_iload_n C e_M_rights_17 rfl ?_
    refine s_imul C e_M_rights_18 ?_
    refine s_iadd C e_M_rights_19 ?_
    refine s_iconst C e_M_rights_20 (v := (4 : Int32)) ic_4 ?_
    refine s_iadd C e_M_rights_21 ?_
    refine s_iald C (za_lt hw1) (za hw1) e_M_rights_22 ?_
    refine s_aload_n C e_M_rights_23 rfl ?_
    refine s_bipush C e_M_rights_24 (v := (22 : Int32)) bp_22 ?_
    refine s_bipush C e_M_rights_26 (v := (6 : Int32)) bp_6 ?_
    refine s_iload_n C e_M_rights_28 rfl ?_
    refine s_imul C e_M_rights_29 ?_
    refine s_iadd C e_M_rights_30 ?_
    refine s_iconst C e_M_rights_31 (v := (1 : Int32)) ic_1 ?_
    refine s_iadd C e_M_rights_32 ?_
    refine s_iald C (za_lt hw1) (za hw1) e_M_rights_33 ?_
    refine s_icmp_ne (tgt := 43) C e_M_rights_34 rfl ?_ ?_
    · refine s_iconst C e_M_rights_37 (v := (1 : Int32)) ic_1 ?_
      refine s_iload_n C e_M_rights_38 rfl ?_
      refine s_ishl C e_M_rights_39 ?_
      refine s_goto (tgt := 44) C e_M_rights_40 rfl ?_
      exact s_cut (w_M_rights_B44 C hw1 r4 hr4 _ _ _ _) ⟨rfl, rfl, trivial⟩
    · refine s_iconst C e_M_rights_43 (v := (0 : Int32)) ic_0 ?_
      exact s_cut (w_M_rights_B44 C hw1 r4 hr4 _ _ _ _) ⟨rfl, rfl, trivial⟩
theorem w_M_rights_L4 {X : CX} (C : Cx X ZM RX7 cX7_rights 3 (some .int) 0 0) {w1 : Nat} (hw1 : isA w1)  : ∀ (n : Nat) (σ : St) (x1 : Int32) (x2 : Int32), Sm X ZM 3 (some .int) σ [(0, .ref (cq X w1)), (1, .int x1), (2, .int x2)] 4 [] (m_M_rights_L4 w1 n σ x1 x2)
  | 0, _, _, _ => s_none
  | n + 1, σ, x1, x2 => w_M_rights_B4 C hw1 (m_M_rights_L4 w1 n) (w_M_rights_L4 C hw1 n) σ x1 x2
set_option maxRecDepth 100000 in
theorem w_M_rights {X : CX} (C : Cx X ZM RX7 cX7_rights 3 (some .int) 0 0) {w1 : Nat} (hw1 : isA w1) (σ : St)  : Sm X ZM 3 (some .int) σ [(0, .ref (cq X w1))] 0 [] (m_M_rights w1 σ) := by
  unfold m_M_rights
  refine s_iconst C e_M_rights_0 (v := (0 : Int32)) ic_0 ?_
  refine s_istore_n C e_M_rights_1 (by decide) ?_
  refine s_iconst C e_M_rights_2 (v := (0 : Int32)) ic_0 ?_
  refine s_istore_n C e_M_rights_3 (by decide) ?_
  exact s_cut (w_M_rights_L4 C hw1 FU _ _ _) ⟨rfl, rfl, rfl, trivial⟩
theorem c_M_rights {l : Launch} {D : va_G} {k : Nat → ClassId} {q : Nat → Nat} (hq : Inj ZM q) {w1 : Nat} (hw1 : isA w1) (σ : St)  : Ct l ZM D k q yX7_rights cX7_rights 3 (some .int) 0 0 [.ref (q w1)] σ (m_M_rights w1 σ) :=
  Ct_of hq lcM (by decide) (Nat.le_of_ble_eq_true rfl) (fun _ _ _ _ _ _ _ _ _ _ C => w_M_rights C hw1 σ)
set_option maxRecDepth 100000 in
theorem w_M_notes_B49 {X : CX} (C : Cx X ZM RX7 cX7_notes 2 none 1 24)   (σ : St)  : Sm X ZM 2 none σ [(0, .ref (cq X 0))] 49 [] (m_M_notes_B49 σ) := by
  unfold m_M_notes_B49
  refine s_aload_n C e_M_notes_49 rfl ?_
  refine s_get C fc_7 zm_lt_0 (zm_0 _ _ _) 13 (by decide) e_M_notes_50 g_535 rfl ?_
  refine s_iconst C e_M_notes_53 (v := (0 : Int32)) ic_0 ?_
  refine s_aload_n C e_M_notes_54 rfl ?_
  refine s_get C fc_7 zm_lt_0 (zm_0 _ _ _) 16 (by decide) e_M_notes_55 g_563 rfl ?_
  refine s_bipush C e_M_notes_58 (v := (64 : Int32)) bp_64 ?_
  refine s_aload_n C e_M_notes_60 rfl ?_
  refine s_get C fc_7 zm_lt_0 (zm_0 _ _ _) 17 (by decide) e_M_notes_61 g_536 rfl ?_
  refine s_imul C e_M_notes_64 ?_
  refine s_callSv_4 C (c_M_copies C.inj isA6 isA9 _ _ _) wv_M_copies g_537 ⟨by decide, by decide⟩ rfl (Nat.le_of_ble_eq_true rfl) e_M_notes_65 (fun v1 σ2 => ?_)
  refine s_aload_n C e_M_notes_68 rfl ?_
  refine s_dup C e_M_notes_69 rfl ?_
  refine s_get C fc_7 zm_lt_0 (zm_0 _ _ _) 17 (by decide) e_M_notes_70 g_536 rfl ?_
  refine s_iconst C e_M_notes_73 (v := (1 : Int32)) ic_1 ?_
  refine s_iadd C e_M_notes_74 ?_
  refine s_put C fc_7 zm_lt_0 (zm_0 _ _ _) 17 (by decide) (zmp_17 _ _ _ _) (Nat.le_of_ble_eq_true rfl) e_M_notes_75 g_536 rfl rfl (fun σ3 => ?_)
  exact s_vret C e_M_notes_78
set_option maxRecDepth 100000 in
theorem w_M_notes_B39 {X : CX} (C : Cx X ZM RX7 cX7_notes 2 none 1 24)   (σ : St)  : Sm X ZM 2 none σ [(0, .ref (cq X 0))] 39 [] (m_M_notes_B39 σ) := by
  unfold m_M_notes_B39
  refine s_aload_n C e_M_notes_39 rfl ?_
  refine s_dup C e_M_notes_40 rfl ?_
  refine s_get C fc_7 zm_lt_0 (zm_0 _ _ _) 17 (by decide) e_M_notes_41 g_536 rfl ?_
  refine s_iconst C e_M_notes_44 (v := (1 : Int32)) ic_1 ?_
  refine s_isub C e_M_notes_45 ?_
  refine s_put C fc_7 zm_lt_0 (zm_0 _ _ _) 17 (by decide) (zmp_17 _ _ _ _) (Nat.le_of_ble_eq_true rfl) e_M_notes_46 g_536 rfl rfl (fun σ1 => ?_)
  exact s_cut (w_M_notes_B49 C _) ⟨rfl, trivial⟩
set_option maxRecDepth 100000 in
theorem w_M_notes_B11 {X : CX} (C : Cx X ZM RX7 cX7_notes 2 none 1 24)  (r11 : St → Int32 → Rt) (hr11 : ∀ (σ : St) (x1 : Int32), Sm X ZM 2 none σ [(0, .ref (cq X 0)), (1, .int x1)] 11 [] (r11 σ x1)) (σ : St) (x1 : Int32) : Sm X ZM 2 none σ [(0, .ref (cq X 0)), (1, .int x1)] 11 [] (m_M_notes_B11 r11 σ x1) := by
  unfold m_M_notes_B11
  refine s_iload_n C e_M_notes_11 rfl ?_
  refine s_sipush C e_M_notes_12 (v := (1472 : Int32)) sp_1472 ?_
  refine s_icmp_ge (tgt := 39) C e_M_notes_15 rfl ?_ ?_
  · exact s_cut (w_M_notes_B39 C _) ⟨rfl, trivial⟩
  · refine s_aload_n C e_M_notes_18 rfl ?_
    refine s_get C fc_7 zm_lt_0 (zm_0 _ _ _) 16 (by decide) e_M_notes_19 g_563 rfl ?_
    refine s_iload_n C e_M_notes_22 rfl ?_
    refine s_aload_n C e_M_notes_23 rfl ?_
    refine s_get C fc_7 zm_lt_0 (zm_0 _ _ _) 16 (by decide) e_M_notes_24 g_563 rfl ?_
    refine s_iload_n C e_M_notes_27 rfl ?_
    refine s_bipush C e_M_notes_28 (v := (64 : Int32)) bp_64 ?_
    refine s_iadd C e_M_notes_30 ?_
    refine s_iald C (za_lt isA9) (za isA9) e_M_notes_31 ?_
    refine s_iast C (za_lt isA9) (za isA9) e_M_notes_32 (fun σ1 => ?_)
    refine s_iinc C e_M_notes_33 (v := (1 : Int32)) rfl (by decide) ii_1 ?_
    refine s_goto (tgt := 11) C e_M_notes_36 rfl ?_
    exact s_cut (hr11 _ _) ⟨rfl, rfl, trivial⟩
theorem w_M_notes_L11 {X : CX} (C : Cx X ZM RX7 cX7_notes 2 none 1 24)   : ∀ (n : Nat) (σ : St) (x1 : Int32), Sm X ZM 2 none σ [(0, .ref (cq X 0)), (1, .int x1)] 11 [] (m_M_notes_L11 n σ x1)
  | 0, _, _ => s_none
  | n + 1, σ, x1 => w_M_notes_B11 C (m_M_notes_L11 n) (w_M_notes_L11 C n) σ x1
set_option maxRecDepth 100000 in
theorem w_M_notes {X : CX} (C : Cx X ZM RX7 cX7_notes 2 none 1 24)  (σ : St)  : Sm X ZM 2 none σ [(0, .ref (cq X 0))] 0 [] (m_M_notes σ) := by
  unfold m_M_notes
  refine s_aload_n C e_M_notes_0 rfl ?_
  refine s_get C fc_7 zm_lt_0 (zm_0 _ _ _) 17 (by decide) e_M_notes_1 g_536 rfl ?_
  refine s_bipush C e_M_notes_4 (v := (24 : Int32)) bp_24 ?_
  refine s_icmp_ne (tgt := 49) C e_M_notes_6 rfl ?_ ?_
  · refine s_iconst C e_M_notes_9 (v := (0 : Int32)) ic_0 ?_
    refine s_istore_n C e_M_notes_10 (by decide) ?_
    exact s_cut (w_M_notes_L11 C FU _ _) ⟨rfl, rfl, trivial⟩
  · exact s_cut (w_M_notes_B49 C _) ⟨rfl, trivial⟩
theorem c_M_notes {l : Launch} {D : va_G} {k : Nat → ClassId} {q : Nat → Nat} (hq : Inj ZM q)  (σ : St)  : Ct l ZM D k q yX7_notes cX7_notes 2 none 1 24 [.ref (q 0)] σ (m_M_notes σ) :=
  Ct_of hq lcM (by decide) (Nat.le_of_ble_eq_true rfl) (fun _ _ _ _ _ _ _ _ _ _ C => w_M_notes C σ)
set_option maxRecDepth 100000 in
theorem w_M_times_B42 {X : CX} (C : Cx X ZM RX7 cX7_times 3 (some .int) 4 89)  (r42 : St → Int32 → Int32 → Rt) (hr42 : ∀ (σ : St) (x1 : Int32) (x2 : Int32), Sm X ZM 3 (some .int) σ [(0, .ref (cq X 0)), (1, .int x1), (2, .int x2)] 42 [] (r42 σ x1 x2)) (σ : St) (x1 : Int32) (x2 : Int32) : Sm X ZM 3 (some .int) σ [(0, .ref (cq X 0)), (1, .int x1), (2, .int x2)] 42 [] (m_M_times_B42 r42 σ x1 x2) := by
  unfold m_M_times_B42
  refine s_iload_n C e_M_times_42 rfl ?_
  refine s_iload_n C e_M_times_43 rfl ?_
  refine s_icmp_ge (tgt := 64) C e_M_times_44 rfl ?_ ?_
  · refine s_aload_n C e_M_times_64 rfl ?_
    refine s_get C fc_7 zm_lt_0 (zm_0 _ _ _) 13 (by decide) e_M_times_65 g_535 rfl ?_
    refine s_iconst C e_M_times_68 (v := (4 : Int32)) ic_4 ?_
    refine s_iald C (za_lt isA6) (za isA6) e_M_times_69 ?_
    exact s_iret C e_M_times_70
  · refine s_aload_n C e_M_times_47 rfl ?_
    refine s_callVv_0 C (c_M_notes C.inj _) wv_M_notes g_572 ⟨by decide, by decide⟩ fc_7 rfl zm_lt_0 (zm_0 _ _ _) rfl (Nat.le_of_ble_eq_true rfl) e_M_times_48 (fun v1 σ2 => ?_)
    refine s_aload_n C e_M_times_51 rfl ?_
    refine s_get C fc_7 zm_lt_0 (zm_0 _ _ _) 13 (by decide) e_M_times_52 g_535 rfl ?_
    refine s_callSv_1 C (c_M_passes C.inj isA6 _) wv_M_passes g_569 ⟨by decide, by decide⟩ rfl (Nat.le_of_ble_eq_true rfl) e_M_times_55 (fun v3 σ4 => ?_)
    refine s_iinc C e_M_times_58 (v := (1 : Int32)) rfl (by decide) ii_1 ?_
    refine s_goto (tgt := 42) C e_M_times_61 rfl ?_
    exact s_cut (hr42 _ _ _) ⟨rfl, rfl, rfl, trivial⟩
theorem w_M_times_L42 {X : CX} (C : Cx X ZM RX7 cX7_times 3 (some .int) 4 89)   : ∀ (n : Nat) (σ : St) (x1 : Int32) (x2 : Int32), Sm X ZM 3 (some .int) σ [(0, .ref (cq X 0)), (1, .int x1), (2, .int x2)] 42 [] (m_M_times_L42 n σ x1 x2)
  | 0, _, _, _ => s_none
  | n + 1, σ, x1, x2 => w_M_times_B42 C (m_M_times_L42 n) (w_M_times_L42 C n) σ x1 x2
set_option maxRecDepth 100000 in
theorem w_M_times {X : CX} (C : Cx X ZM RX7 cX7_times 3 (some .int) 4 89)  (σ : St) (x1 : Int32) : Sm X ZM 3 (some .int) σ [(0, .ref (cq X 0)), (1, .int x1)] 0 [] (m_M_times σ x1) := by
  unfold m_M_times
  refine s_aload_n C e_M_times_0 rfl ?_
  refine s_callV_0 C (c_M_isMap C.inj _) wv_M_isMap g_565 ⟨by decide, by decide⟩ fc_7 rfl zm_lt_0 (zm_0 _ _ _) rfl (Nat.le_of_ble_eq_true rfl) e_M_times_1 (fun v1 σ2 => ?_)
  refine s_if_ne (tgt := 10) C e_M_times_4 rfl ?_ ?_
  · refine s_ldc C e_M_times_7 g_564 ?_
    exact s_iret C e_M_times_9
  · refine s_iload_n C e_M_times_10 rfl ?_
    refine s_iconst C e_M_times_11 (v := (1 : Int32)) ic_1 ?_
    refine s_bipush C e_M_times_12 (v := (24 : Int32)) bp_24 ?_
    refine s_callS_3 C (c_M_in C.inj _ _ _ _) wv_M_in g_447 ⟨by decide, by decide⟩ rfl (Nat.le_of_ble_eq_true rfl) e_M_times_14 (fun v3 σ4 => ?_)
    refine s_if_ne (tgt := 23) C e_M_times_17 rfl ?_ ?_
    · refine s_ldc C e_M_times_20 g_453 ?_
      exact s_iret C e_M_times_22
    · refine s_aload_n C e_M_times_23 rfl ?_
      refine s_get C fc_7 zm_lt_0 (zm_0 _ _ _) 13 (by decide) e_M_times_24 g_535 rfl ?_
      refine s_iconst C e_M_times_27 (v := (3 : Int32)) ic_3 ?_
      refine s_iald C (za_lt isA6) (za isA6) e_M_times_28 ?_
      refine s_iload_n C e_M_times_29 rfl ?_
      refine s_iadd C e_M_times_30 ?_
      refine s_sipush C e_M_times_31 (v := (9999 : Int32)) sp_9999 ?_
      refine s_icmp_le (tgt := 40) C e_M_times_34 rfl ?_ ?_
      · refine s_iconst C e_M_times_40 (v := (0 : Int32)) ic_0 ?_
        refine s_istore_n C e_M_times_41 (by decide) ?_
        exact s_cut (w_M_times_L42 C FU _ _ _) ⟨rfl, rfl, rfl, trivial⟩
      · refine s_ldc C e_M_times_37 g_481 ?_
        exact s_iret C e_M_times_39
theorem c_M_times {l : Launch} {D : va_G} {k : Nat → ClassId} {q : Nat → Nat} (hq : Inj ZM q)  (σ : St) (x1 : Int32) : Ct l ZM D k q yX7_times cX7_times 3 (some .int) 4 89 [.ref (q 0), .int x1] σ (m_M_times σ x1) :=
  Ct_of hq lcM (by decide) (Nat.le_of_ble_eq_true rfl) (fun _ _ _ _ _ _ _ _ _ _ C => w_M_times C σ x1)
set_option maxRecDepth 100000 in
theorem w_M_move {X : CX} (C : Cx X ZM RX7 cX7_move 4 (some .int) 2 45)  (σ : St) (x1 : Int32) (x2 : Int32) : Sm X ZM 4 (some .int) σ [(0, .ref (cq X 0)), (1, .int x1), (2, .int x2)] 0 [] (m_M_move σ x1 x2) := by
  unfold m_M_move
  refine s_aload_n C e_M_move_0 rfl ?_
  refine s_iload_n C e_M_move_1 rfl ?_
  refine s_callV_1 C (c_M_isPin C.inj _ _) wv_M_isPin g_583 ⟨by decide, by decide⟩ fc_7 rfl zm_lt_0 (zm_0 _ _ _) rfl (Nat.le_of_ble_eq_true rfl) e_M_move_2 (fun v1 σ2 => ?_)
  refine s_if_eq (tgt := 16) C e_M_move_5 rfl ?_ ?_
  · refine s_ldc C e_M_move_16 g_453 ?_
    exact s_iret C e_M_move_18
  · refine s_aload_n C e_M_move_8 rfl ?_
    refine s_iload_n C e_M_move_9 rfl ?_
    refine s_callV_1 C (c_M_isCell C.inj _ _) wv_M_isCell g_579 ⟨by decide, by decide⟩ fc_7 rfl zm_lt_0 (zm_0 _ _ _) rfl (Nat.le_of_ble_eq_true rfl) e_M_move_10 (fun v3 σ4 => ?_)
    refine s_if_ne (tgt := 19) C e_M_move_13 rfl ?_ ?_
    · refine s_ldc C e_M_move_16 g_453 ?_
      exact s_iret C e_M_move_18
    · refine s_aload_n C e_M_move_19 rfl ?_
      refine s_get C fc_7 zm_lt_0 (zm_0 _ _ _) 13 (by decide) e_M_move_20 g_535 rfl ?_
      refine s_bipush C e_M_move_23 (v := (22 : Int32)) bp_22 ?_
      refine s_bipush C e_M_move_25 (v := (6 : Int32)) bp_6 ?_
      refine s_iload_n C e_M_move_27 rfl ?_
      refine s_imul C e_M_move_28 ?_
      refine s_iadd C e_M_move_29 ?_
      refine s_iconst C e_M_move_30 (v := (4 : Int32)) ic_4 ?_
      refine s_iadd C e_M_move_31 ?_
      refine s_iald C (za_lt isA6) (za isA6) e_M_move_32 ?_
      refine s_nm (fun y5 => ?_)
      refine s_istore_n C e_M_move_33 (by decide) ?_
      refine s_aload_n C e_M_move_34 rfl ?_
      refine s_get C fc_7 zm_lt_0 (zm_0 _ _ _) 13 (by decide) e_M_move_35 g_535 rfl ?_
      refine s_iconst C e_M_move_38 (v := (4 : Int32)) ic_4 ?_
      refine s_iald C (za_lt isA6) (za isA6) e_M_move_39 ?_
      refine s_if_eq (tgt := 48) C e_M_move_40 rfl ?_ ?_
      · refine s_ldc C e_M_move_48 g_564 ?_
        exact s_iret C e_M_move_50
      · refine s_iload_n C e_M_move_43 rfl ?_
        refine s_iload_n C e_M_move_44 rfl ?_
        refine s_icmp_ne (tgt := 51) C e_M_move_45 rfl ?_ ?_
        · refine s_ldc C e_M_move_48 g_564 ?_
          exact s_iret C e_M_move_50
        · refine s_aload_n C e_M_move_51 rfl ?_
          refine s_callVv_0 C (c_M_notes C.inj _) wv_M_notes g_572 ⟨by decide, by decide⟩ fc_7 rfl zm_lt_0 (zm_0 _ _ _) rfl (Nat.le_of_ble_eq_true rfl) e_M_move_52 (fun v6 σ7 => ?_)
          refine s_aload_n C e_M_move_55 rfl ?_
          refine s_get C fc_7 zm_lt_0 (zm_0 _ _ _) 13 (by decide) e_M_move_56 g_535 rfl ?_
          refine s_iload_n C e_M_move_59 rfl ?_
          refine s_iload_n C e_M_move_60 rfl ?_
          refine s_callSv_3 C (c_M_lays C.inj isA6 _ _ _) wv_M_lays g_576 ⟨by decide, by decide⟩ rfl (Nat.le_of_ble_eq_true rfl) e_M_move_61 (fun v8 σ9 => ?_)
          refine s_iload_n C e_M_move_64 rfl ?_
          exact s_iret C e_M_move_65
theorem c_M_move {l : Launch} {D : va_G} {k : Nat → ClassId} {q : Nat → Nat} (hq : Inj ZM q)  (σ : St) (x1 : Int32) (x2 : Int32) : Ct l ZM D k q yX7_move cX7_move 4 (some .int) 2 45 [.ref (q 0), .int x1, .int x2] σ (m_M_move σ x1 x2) :=
  Ct_of hq lcM (by decide) (Nat.le_of_ble_eq_true rfl) (fun _ _ _ _ _ _ _ _ _ _ C => w_M_move C σ x1 x2)
set_option maxRecDepth 100000 in
theorem w_M_swap {X : CX} (C : Cx X ZM RX7 cX7_swap 4 (some .int) 2 45)  (σ : St) (x1 : Int32) (x2 : Int32) : Sm X ZM 4 (some .int) σ [(0, .ref (cq X 0)), (1, .int x1), (2, .int x2)] 0 [] (m_M_swap σ x1 x2) := by
  unfold m_M_swap
  refine s_aload_n C e_M_swap_0 rfl ?_
  refine s_iload_n C e_M_swap_1 rfl ?_
  refine s_callV_1 C (c_M_isPin C.inj _ _) wv_M_isPin g_583 ⟨by decide, by decide⟩ fc_7 rfl zm_lt_0 (zm_0 _ _ _) rfl (Nat.le_of_ble_eq_true rfl) e_M_swap_2 (fun v1 σ2 => ?_)
  refine s_if_eq (tgt := 21) C e_M_swap_5 rfl ?_ ?_
  · refine s_ldc C e_M_swap_21 g_453 ?_
    exact s_iret C e_M_swap_23
  · refine s_aload_n C e_M_swap_8 rfl ?_
    refine s_iload_n C e_M_swap_9 rfl ?_
    refine s_callV_1 C (c_M_isPin C.inj _ _) wv_M_isPin g_583 ⟨by decide, by decide⟩ fc_7 rfl zm_lt_0 (zm_0 _ _ _) rfl (Nat.le_of_ble_eq_true rfl) e_M_swap_10 (fun v3 σ4 => ?_)
    refine s_if_eq (tgt := 21) C e_M_swap_13 rfl ?_ ?_
    · refine s_ldc C e_M_swap_21 g_453 ?_
      exact s_iret C e_M_swap_23
    · refine s_iload_n C e_M_swap_16 rfl ?_
      refine s_iload_n C e_M_swap_17 rfl ?_
      refine s_icmp_ne (tgt := 24) C e_M_swap_18 rfl ?_ ?_
      · refine s_ldc C e_M_swap_21 g_453 ?_
        exact s_iret C e_M_swap_23
      · refine s_aload_n C e_M_swap_24 rfl ?_
        refine s_get C fc_7 zm_lt_0 (zm_0 _ _ _) 13 (by decide) e_M_swap_25 g_535 rfl ?_
        refine s_iconst C e_M_swap_28 (v := (4 : Int32)) ic_4 ?_
        refine s_iald C (za_lt isA6) (za isA6) e_M_swap_29 ?_
        refine s_if_ne (tgt := 36) C e_M_swap_30 rfl ?_ ?_
        · refine s_ldc C e_M_swap_33 g_564 ?_
          exact s_iret C e_M_swap_35
        · refine s_aload_n C e_M_swap_36 rfl ?_
          refine s_callVv_0 C (c_M_notes C.inj _) wv_M_notes g_572 ⟨by decide, by decide⟩ fc_7 rfl zm_lt_0 (zm_0 _ _ _) rfl (Nat.le_of_ble_eq_true rfl) e_M_swap_37 (fun v5 σ6 => ?_)
          refine s_aload_n C e_M_swap_40 rfl ?_
          refine s_get C fc_7 zm_lt_0 (zm_0 _ _ _) 13 (by decide) e_M_swap_41 g_535 rfl ?_
          refine s_bipush C e_M_swap_44 (v := (22 : Int32)) bp_22 ?_
          refine s_bipush C e_M_swap_46 (v := (6 : Int32)) bp_6 ?_
          refine s_iload_n C e_M_swap_48 rfl ?_
          refine s_imul C e_M_swap_49 ?_
          refine s_iadd C e_M_swap_50 ?_
          refine s_iconst C e_M_swap_51 (v := (4 : Int32)) ic_4 ?_
          refine s_iadd C e_M_swap_52 ?_
          refine s_iald C (za_lt isA6) (za isA6) e_M_swap_53 ?_
          refine s_nm (fun y7 => ?_)
          refine s_istore_n C e_M_swap_54 (by decide) ?_
          refine s_aload_n C e_M_swap_55 rfl ?_
          refine s_get C fc_7 zm_lt_0 (zm_0 _ _ _) 13 (by decide) e_M_swap_56 g_535 rfl ?_
          refine s_iload_n C e_M_swap_59 rfl ?_
          refine s_aload_n C e_M_swap_60 rfl ?_
          refine s_get C fc_7 zm_lt_0 (zm_0 _ _ _) 13 (by decide) e_M_swap_61 g_535 rfl ?_
          refine s_bipush C e_M_swap_64 (v := (22 : Int32)) bp_22 ?_
          refine s_bipush C e_M_swap_66 (v := (6 : Int32)) bp_6 ?_
          refine s_iload_n C e_M_swap_68 rfl ?_
          refine s_imul C e_M_swap_69 ?_
          refine s_iadd C e_M_swap_70 ?_
          refine s_iconst C e_M_swap_71 (v := (4 : Int32)) ic_4 ?_
          refine s_iadd C e_M_swap_72 ?_
          refine s_iald C (za_lt isA6) (za isA6) e_M_swap_73 ?_
          refine s_callSv_3 C (c_M_lays C.inj isA6 _ _ _) wv_M_lays g_576 ⟨by decide, by decide⟩ rfl (Nat.le_of_ble_eq_true rfl) e_M_swap_74 (fun v8 σ9 => ?_)
          refine s_aload_n C e_M_swap_77 rfl ?_
          refine s_get C fc_7 zm_lt_0 (zm_0 _ _ _) 13 (by decide) e_M_swap_78 g_535 rfl ?_
          refine s_iload_n C e_M_swap_81 rfl ?_
          refine s_iload_n C e_M_swap_82 rfl ?_
          refine s_callSv_3 C (c_M_lays C.inj isA6 _ _ _) wv_M_lays g_576 ⟨by decide, by decide⟩ rfl (Nat.le_of_ble_eq_true rfl) e_M_swap_83 (fun v10 σ11 => ?_)
          refine s_aload_n C e_M_swap_86 rfl ?_
          refine s_get C fc_7 zm_lt_0 (zm_0 _ _ _) 13 (by decide) e_M_swap_87 g_535 rfl ?_
          refine s_bipush C e_M_swap_90 (v := (22 : Int32)) bp_22 ?_
          refine s_bipush C e_M_swap_92 (v := (6 : Int32)) bp_6 ?_
          refine s_iload_n C e_M_swap_94 rfl ?_
          refine s_imul C e_M_swap_95 ?_
          refine s_iadd C e_M_swap_96 ?_
          refine s_iconst C e_M_swap_97 (v := (4 : Int32)) ic_4 ?_
          refine s_iadd C e_M_swap_98 ?_
          refine s_iald C (za_lt isA6) (za isA6) e_M_swap_99 ?_
          exact s_iret C e_M_swap_100
theorem c_M_swap {l : Launch} {D : va_G} {k : Nat → ClassId} {q : Nat → Nat} (hq : Inj ZM q)  (σ : St) (x1 : Int32) (x2 : Int32) : Ct l ZM D k q yX7_swap cX7_swap 4 (some .int) 2 45 [.ref (q 0), .int x1, .int x2] σ (m_M_swap σ x1 x2) :=
  Ct_of hq lcM (by decide) (Nat.le_of_ble_eq_true rfl) (fun _ _ _ _ _ _ _ _ _ _ C => w_M_swap C σ x1 x2)
set_option maxRecDepth 100000 in
theorem w_M_work {X : CX} (C : Cx X ZM RX7 cX7_work 4 (some .int) 2 45)  (σ : St) (x1 : Int32) (x2 : Int32) : Sm X ZM 4 (some .int) σ [(0, .ref (cq X 0)), (1, .int x1), (2, .int x2)] 0 [] (m_M_work σ x1 x2) := by
  unfold m_M_work
  refine s_aload_n C e_M_work_0 rfl ?_
  refine s_iload_n C e_M_work_1 rfl ?_
  refine s_callV_1 C (c_M_isCell C.inj _ _) wv_M_isCell g_579 ⟨by decide, by decide⟩ fc_7 rfl zm_lt_0 (zm_0 _ _ _) rfl (Nat.le_of_ble_eq_true rfl) e_M_work_2 (fun v1 σ2 => ?_)
  refine s_if_eq (tgt := 18) C e_M_work_5 rfl ?_ ?_
  · refine s_ldc C e_M_work_18 g_453 ?_
    exact s_iret C e_M_work_20
  · refine s_iload_n C e_M_work_8 rfl ?_
    refine s_iconst C e_M_work_9 (v := (0 : Int32)) ic_0 ?_
    refine s_bipush C e_M_work_10 (v := (9 : Int32)) bp_9 ?_
    refine s_callS_3 C (c_M_in C.inj _ _ _ _) wv_M_in g_447 ⟨by decide, by decide⟩ rfl (Nat.le_of_ble_eq_true rfl) e_M_work_12 (fun v3 σ4 => ?_)
    refine s_if_ne (tgt := 21) C e_M_work_15 rfl ?_ ?_
    · refine s_ldc C e_M_work_18 g_453 ?_
      exact s_iret C e_M_work_20
    · refine s_aload_n C e_M_work_21 rfl ?_
      refine s_callVv_0 C (c_M_notes C.inj _) wv_M_notes g_572 ⟨by decide, by decide⟩ fc_7 rfl zm_lt_0 (zm_0 _ _ _) rfl (Nat.le_of_ble_eq_true rfl) e_M_work_22 (fun v5 σ6 => ?_)
      refine s_aload_n C e_M_work_25 rfl ?_
      refine s_get C fc_7 zm_lt_0 (zm_0 _ _ _) 13 (by decide) e_M_work_26 g_535 rfl ?_
      refine s_bipush C e_M_work_29 (v := (6 : Int32)) bp_6 ?_
      refine s_iload_n C e_M_work_31 rfl ?_
      refine s_iadd C e_M_work_32 ?_
      refine s_iald C (za_lt isA6) (za isA6) e_M_work_33 ?_
      refine s_nm (fun y7 => ?_)
      refine s_istore_n C e_M_work_34 (by decide) ?_
      refine s_aload_n C e_M_work_35 rfl ?_
      refine s_get C fc_7 zm_lt_0 (zm_0 _ _ _) 13 (by decide) e_M_work_36 g_535 rfl ?_
      refine s_bipush C e_M_work_39 (v := (6 : Int32)) bp_6 ?_
      refine s_iload_n C e_M_work_41 rfl ?_
      refine s_iadd C e_M_work_42 ?_
      refine s_iload_n C e_M_work_43 rfl ?_
      refine s_iast C (za_lt isA6) (za isA6) e_M_work_44 (fun σ8 => ?_)
      refine s_iload_n C e_M_work_45 rfl ?_
      exact s_iret C e_M_work_46
theorem c_M_work {l : Launch} {D : va_G} {k : Nat → ClassId} {q : Nat → Nat} (hq : Inj ZM q)  (σ : St) (x1 : Int32) (x2 : Int32) : Ct l ZM D k q yX7_work cX7_work 4 (some .int) 2 45 [.ref (q 0), .int x1, .int x2] σ (m_M_work σ x1 x2) :=
  Ct_of hq lcM (by decide) (Nat.le_of_ble_eq_true rfl) (fun _ _ _ _ _ _ _ _ _ _ C => w_M_work C σ x1 x2)
set_option maxRecDepth 100000 in
theorem w_M_slip {X : CX} (C : Cx X ZM RX7 cX7_slip 3 (some .int) 2 45)  (σ : St) (x1 : Int32) : Sm X ZM 3 (some .int) σ [(0, .ref (cq X 0)), (1, .int x1)] 0 [] (m_M_slip σ x1) := by
  unfold m_M_slip
  refine s_aload_n C e_M_slip_0 rfl ?_
  refine s_callV_0 C (c_M_isMap C.inj _) wv_M_isMap g_565 ⟨by decide, by decide⟩ fc_7 rfl zm_lt_0 (zm_0 _ _ _) rfl (Nat.le_of_ble_eq_true rfl) e_M_slip_1 (fun v1 σ2 => ?_)
  refine s_if_ne (tgt := 10) C e_M_slip_4 rfl ?_ ?_
  · refine s_ldc C e_M_slip_7 g_564 ?_
    exact s_iret C e_M_slip_9
  · refine s_iload_n C e_M_slip_10 rfl ?_
    refine s_iconst C e_M_slip_11 (v := (0 : Int32)) ic_0 ?_
    refine s_bipush C e_M_slip_12 (v := (15 : Int32)) bp_15 ?_
    refine s_callS_3 C (c_M_in C.inj _ _ _ _) wv_M_in g_447 ⟨by decide, by decide⟩ rfl (Nat.le_of_ble_eq_true rfl) e_M_slip_14 (fun v3 σ4 => ?_)
    refine s_if_ne (tgt := 23) C e_M_slip_17 rfl ?_ ?_
    · refine s_ldc C e_M_slip_20 g_453 ?_
      exact s_iret C e_M_slip_22
    · refine s_aload_n C e_M_slip_23 rfl ?_
      refine s_callVv_0 C (c_M_notes C.inj _) wv_M_notes g_572 ⟨by decide, by decide⟩ fc_7 rfl zm_lt_0 (zm_0 _ _ _) rfl (Nat.le_of_ble_eq_true rfl) e_M_slip_24 (fun v5 σ6 => ?_)
      refine s_aload_n C e_M_slip_27 rfl ?_
      refine s_get C fc_7 zm_lt_0 (zm_0 _ _ _) 13 (by decide) e_M_slip_28 g_535 rfl ?_
      refine s_iconst C e_M_slip_31 (v := (0 : Int32)) ic_0 ?_
      refine s_iald C (za_lt isA6) (za isA6) e_M_slip_32 ?_
      refine s_nm (fun y7 => ?_)
      refine s_istore_n C e_M_slip_33 (by decide) ?_
      refine s_aload_n C e_M_slip_34 rfl ?_
      refine s_get C fc_7 zm_lt_0 (zm_0 _ _ _) 13 (by decide) e_M_slip_35 g_535 rfl ?_
      refine s_iconst C e_M_slip_38 (v := (0 : Int32)) ic_0 ?_
      refine s_iload_n C e_M_slip_39 rfl ?_
      refine s_iast C (za_lt isA6) (za isA6) e_M_slip_40 (fun σ8 => ?_)
      refine s_iload_n C e_M_slip_41 rfl ?_
      exact s_iret C e_M_slip_42
theorem c_M_slip {l : Launch} {D : va_G} {k : Nat → ClassId} {q : Nat → Nat} (hq : Inj ZM q)  (σ : St) (x1 : Int32) : Ct l ZM D k q yX7_slip cX7_slip 3 (some .int) 2 45 [.ref (q 0), .int x1] σ (m_M_slip σ x1) :=
  Ct_of hq lcM (by decide) (Nat.le_of_ble_eq_true rfl) (fun _ _ _ _ _ _ _ _ _ _ C => w_M_slip C σ x1)
set_option maxRecDepth 100000 in
theorem w_M_undo {X : CX} (C : Cx X ZM RX7 cX7_undo 1 (some .int) 1 24)  (σ : St)  : Sm X ZM 1 (some .int) σ [(0, .ref (cq X 0))] 0 [] (m_M_undo σ) := by
  unfold m_M_undo
  refine s_aload_n C e_M_undo_0 rfl ?_
  refine s_get C fc_7 zm_lt_0 (zm_0 _ _ _) 17 (by decide) e_M_undo_1 g_536 rfl ?_
  refine s_if_ne (tgt := 10) C e_M_undo_4 rfl ?_ ?_
  · refine s_ldc C e_M_undo_7 g_564 ?_
    exact s_iret C e_M_undo_9
  · refine s_aload_n C e_M_undo_10 rfl ?_
    refine s_dup C e_M_undo_11 rfl ?_
    refine s_get C fc_7 zm_lt_0 (zm_0 _ _ _) 17 (by decide) e_M_undo_12 g_536 rfl ?_
    refine s_iconst C e_M_undo_15 (v := (1 : Int32)) ic_1 ?_
    refine s_isub C e_M_undo_16 ?_
    refine s_put C fc_7 zm_lt_0 (zm_0 _ _ _) 17 (by decide) (zmp_17 _ _ _ _) (Nat.le_of_ble_eq_true rfl) e_M_undo_17 g_536 rfl rfl (fun σ1 => ?_)
    refine s_aload_n C e_M_undo_20 rfl ?_
    refine s_get C fc_7 zm_lt_0 (zm_0 _ _ _) 16 (by decide) e_M_undo_21 g_563 rfl ?_
    refine s_bipush C e_M_undo_24 (v := (64 : Int32)) bp_64 ?_
    refine s_aload_n C e_M_undo_26 rfl ?_
    refine s_get C fc_7 zm_lt_0 (zm_0 _ _ _) 17 (by decide) e_M_undo_27 g_536 rfl ?_
    refine s_imul C e_M_undo_30 ?_
    refine s_aload_n C e_M_undo_31 rfl ?_
    refine s_get C fc_7 zm_lt_0 (zm_0 _ _ _) 13 (by decide) e_M_undo_32 g_535 rfl ?_
    refine s_iconst C e_M_undo_35 (v := (0 : Int32)) ic_0 ?_
    refine s_callSv_4 C (c_M_copies C.inj isA9 isA6 _ _ _) wv_M_copies g_537 ⟨by decide, by decide⟩ rfl (Nat.le_of_ble_eq_true rfl) e_M_undo_36 (fun v2 σ3 => ?_)
    refine s_aload_n C e_M_undo_39 rfl ?_
    refine s_get C fc_7 zm_lt_0 (zm_0 _ _ _) 17 (by decide) e_M_undo_40 g_536 rfl ?_
    exact s_iret C e_M_undo_43
theorem c_M_undo {l : Launch} {D : va_G} {k : Nat → ClassId} {q : Nat → Nat} (hq : Inj ZM q)  (σ : St)  : Ct l ZM D k q yX7_undo cX7_undo 1 (some .int) 1 24 [.ref (q 0)] σ (m_M_undo σ) :=
  Ct_of hq lcM (by decide) (Nat.le_of_ble_eq_true rfl) (fun _ _ _ _ _ _ _ _ _ _ C => w_M_undo C σ)
set_option maxRecDepth 100000 in
theorem w_M_pin {X : CX} (C : Cx X ZM RX7 cX7_pin 3 (some .int) 2 43)  (σ : St) (x1 : Int32) (x2 : Int32) : Sm X ZM 3 (some .int) σ [(0, .ref (cq X 0)), (1, .int x1), (2, .int x2)] 0 [] (m_M_pin σ x1 x2) := by
  unfold m_M_pin
  refine s_aload_n C e_M_pin_0 rfl ?_
  refine s_iload_n C e_M_pin_1 rfl ?_
  refine s_callV_1 C (c_M_isPin C.inj _ _) wv_M_isPin g_583 ⟨by decide, by decide⟩ fc_7 rfl zm_lt_0 (zm_0 _ _ _) rfl (Nat.le_of_ble_eq_true rfl) e_M_pin_2 (fun v1 σ2 => ?_)
  refine s_if_eq (tgt := 36) C e_M_pin_5 rfl ?_ ?_
  · refine s_ldc C e_M_pin_36 g_453 ?_
    exact s_iret C e_M_pin_38
  · refine s_iload_n C e_M_pin_8 rfl ?_
    refine s_iconst C e_M_pin_9 (v := (0 : Int32)) ic_0 ?_
    refine s_iconst C e_M_pin_10 (v := (4 : Int32)) ic_4 ?_
    refine s_callS_3 C (c_M_in C.inj _ _ _ _) wv_M_in g_447 ⟨by decide, by decide⟩ rfl (Nat.le_of_ble_eq_true rfl) e_M_pin_11 (fun v3 σ4 => ?_)
    refine s_if_eq (tgt := 36) C e_M_pin_14 rfl ?_ ?_
    · refine s_ldc C e_M_pin_36 g_453 ?_
      exact s_iret C e_M_pin_38
    · refine s_aload_n C e_M_pin_17 rfl ?_
      refine s_get C fc_7 zm_lt_0 (zm_0 _ _ _) 13 (by decide) e_M_pin_18 g_535 rfl ?_
      refine s_bipush C e_M_pin_21 (v := (22 : Int32)) bp_22 ?_
      refine s_bipush C e_M_pin_23 (v := (6 : Int32)) bp_6 ?_
      refine s_iload_n C e_M_pin_25 rfl ?_
      refine s_imul C e_M_pin_26 ?_
      refine s_iadd C e_M_pin_27 ?_
      refine s_iconst C e_M_pin_28 (v := (1 : Int32)) ic_1 ?_
      refine s_iadd C e_M_pin_29 ?_
      refine s_iload_n C e_M_pin_30 rfl ?_
      refine s_iadd C e_M_pin_31 ?_
      refine s_iald C (za_lt isA6) (za isA6) e_M_pin_32 ?_
      refine s_goto (tgt := 38) C e_M_pin_33 rfl ?_
      exact s_iret C e_M_pin_38
theorem c_M_pin {l : Launch} {D : va_G} {k : Nat → ClassId} {q : Nat → Nat} (hq : Inj ZM q)  (σ : St) (x1 : Int32) (x2 : Int32) : Ct l ZM D k q yX7_pin cX7_pin 3 (some .int) 2 43 [.ref (q 0), .int x1, .int x2] σ (m_M_pin σ x1 x2) :=
  Ct_of hq lcM (by decide) (Nat.le_of_ble_eq_true rfl) (fun _ _ _ _ _ _ _ _ _ _ C => w_M_pin C σ x1 x2)
set_option maxRecDepth 100000 in
theorem w_M_cell {X : CX} (C : Cx X ZM RX7 cX7_cell 3 (some .int) 2 43)  (σ : St) (x1 : Int32) (x2 : Int32) : Sm X ZM 3 (some .int) σ [(0, .ref (cq X 0)), (1, .int x1), (2, .int x2)] 0 [] (m_M_cell σ x1 x2) := by
  unfold m_M_cell
  refine s_aload_n C e_M_cell_0 rfl ?_
  refine s_iload_n C e_M_cell_1 rfl ?_
  refine s_callV_1 C (c_M_isCell C.inj _ _) wv_M_isCell g_579 ⟨by decide, by decide⟩ fc_7 rfl zm_lt_0 (zm_0 _ _ _) rfl (Nat.le_of_ble_eq_true rfl) e_M_cell_2 (fun v1 σ2 => ?_)
  refine s_if_ne (tgt := 11) C e_M_cell_5 rfl ?_ ?_
  · refine s_ldc C e_M_cell_8 g_453 ?_
    exact s_iret C e_M_cell_10
  · refine s_iload_n C e_M_cell_11 rfl ?_
    refine s_split (fun h12_0 => ?_) (fun h12_0 => ?_)
    · refine s_tabI (v := (0 : Int32)) (off := 28) (tgt := 40) C h12_0 e_M_cell_12 (by decide) (by decide) rfl rfl ?_
      refine s_aload_n C e_M_cell_40 rfl ?_
      refine s_get C fc_7 zm_lt_0 (zm_0 _ _ _) 13 (by decide) e_M_cell_41 g_535 rfl ?_
      refine s_bipush C e_M_cell_44 (v := (6 : Int32)) bp_6 ?_
      refine s_iload_n C e_M_cell_46 rfl ?_
      refine s_iadd C e_M_cell_47 ?_
      refine s_iald C (za_lt isA6) (za isA6) e_M_cell_48 ?_
      exact s_iret C e_M_cell_49
    · skip
      refine s_split (fun h12_1 => ?_) (fun h12_1 => ?_)
      · refine s_tabI (v := (1 : Int32)) (off := 38) (tgt := 50) C h12_1 e_M_cell_12 (by decide) (by decide) rfl rfl ?_
        refine s_aload_n C e_M_cell_50 rfl ?_
        refine s_get C fc_7 zm_lt_0 (zm_0 _ _ _) 13 (by decide) e_M_cell_51 g_535 rfl ?_
        refine s_iload_n C e_M_cell_54 rfl ?_
        refine s_callS_2 C (c_M_inCell C.inj isA6 _ _) wv_M_inCell g_541 ⟨by decide, by decide⟩ rfl (Nat.le_of_ble_eq_true rfl) e_M_cell_55 (fun v3 σ4 => ?_)
        exact s_iret C e_M_cell_58
      · skip
        refine s_split (fun h12_2 => ?_) (fun h12_2 => ?_)
        · refine s_tabI (v := (2 : Int32)) (off := 47) (tgt := 59) C h12_2 e_M_cell_12 (by decide) (by decide) rfl rfl ?_
          refine s_aload_n C e_M_cell_59 rfl ?_
          refine s_get C fc_7 zm_lt_0 (zm_0 _ _ _) 13 (by decide) e_M_cell_60 g_535 rfl ?_
          refine s_iload_n C e_M_cell_63 rfl ?_
          refine s_callS_2 C (c_M_homeOf C.inj isA6 _ _) wv_M_homeOf g_512 ⟨by decide, by decide⟩ rfl (Nat.le_of_ble_eq_true rfl) e_M_cell_64 (fun v5 σ6 => ?_)
          exact s_iret C e_M_cell_67
        · skip
          have hx : x2.toInt < 0 ∨ 2 < x2.toInt := by
            have q0 := ne_i (z := 0) rfl h12_0
            have q1 := ne_i (z := 1) rfl h12_1
            have q2 := ne_i (z := 2) rfl h12_2
            omega
          refine s_tabO (tgt := 68) C e_M_cell_12 hx rfl ?_
          refine s_ldc C e_M_cell_68 g_453 ?_
          exact s_iret C e_M_cell_70
theorem c_M_cell {l : Launch} {D : va_G} {k : Nat → ClassId} {q : Nat → Nat} (hq : Inj ZM q)  (σ : St) (x1 : Int32) (x2 : Int32) : Ct l ZM D k q yX7_cell cX7_cell 3 (some .int) 2 43 [.ref (q 0), .int x1, .int x2] σ (m_M_cell σ x1 x2) :=
  Ct_of hq lcM (by decide) (Nat.le_of_ble_eq_true rfl) (fun _ _ _ _ _ _ _ _ _ _ C => w_M_cell C σ x1 x2)
set_option maxRecDepth 100000 in
theorem w_M_goesOn_B2 {X : CX} (C : Cx X ZM RX7 cX7_goesOn 3 none 4 89)  (r2 : St → Int32 → Int32 → Rt) (hr2 : ∀ (σ : St) (x1 : Int32) (x2 : Int32), Sm X ZM 3 none σ [(0, .ref (cq X 0)), (1, .int x1), (2, .int x2)] 2 [] (r2 σ x1 x2)) (σ : St) (x1 : Int32) (x2 : Int32) : Sm X ZM 3 none σ [(0, .ref (cq X 0)), (1, .int x1), (2, .int x2)] 2 [] (m_M_goesOn_B2 r2 σ x1 x2) := by
  unfold m_M_goesOn_B2
  refine s_iload_n C e_M_goesOn_2 rfl ?_
  refine s_iload_n C e_M_goesOn_3 rfl ?_
  refine s_icmp_ge (tgt := 20) C e_M_goesOn_4 rfl ?_ ?_
  · exact s_vret C e_M_goesOn_20
  · refine s_aload_n C e_M_goesOn_7 rfl ?_
    refine s_get C fc_7 zm_lt_0 (zm_0 _ _ _) 15 (by decide) e_M_goesOn_8 g_587 rfl ?_
    refine s_callSv_1 C (c_M_passes C.inj isA8 _) wv_M_passes g_569 ⟨by decide, by decide⟩ rfl (Nat.le_of_ble_eq_true rfl) e_M_goesOn_11 (fun v1 σ2 => ?_)
    refine s_iinc C e_M_goesOn_14 (v := (1 : Int32)) rfl (by decide) ii_1 ?_
    refine s_goto (tgt := 2) C e_M_goesOn_17 rfl ?_
    exact s_cut (hr2 _ _ _) ⟨rfl, rfl, rfl, trivial⟩
theorem w_M_goesOn_L2 {X : CX} (C : Cx X ZM RX7 cX7_goesOn 3 none 4 89)   : ∀ (n : Nat) (σ : St) (x1 : Int32) (x2 : Int32), Sm X ZM 3 none σ [(0, .ref (cq X 0)), (1, .int x1), (2, .int x2)] 2 [] (m_M_goesOn_L2 n σ x1 x2)
  | 0, _, _, _ => s_none
  | n + 1, σ, x1, x2 => w_M_goesOn_B2 C (m_M_goesOn_L2 n) (w_M_goesOn_L2 C n) σ x1 x2
set_option maxRecDepth 100000 in
theorem w_M_goesOn {X : CX} (C : Cx X ZM RX7 cX7_goesOn 3 none 4 89)  (σ : St) (x1 : Int32) : Sm X ZM 3 none σ [(0, .ref (cq X 0)), (1, .int x1)] 0 [] (m_M_goesOn σ x1) := by
  unfold m_M_goesOn
  refine s_iconst C e_M_goesOn_0 (v := (0 : Int32)) ic_0 ?_
  refine s_istore_n C e_M_goesOn_1 (by decide) ?_
  exact s_cut (w_M_goesOn_L2 C FU _ _ _) ⟨rfl, rfl, rfl, trivial⟩
theorem c_M_goesOn {l : Launch} {D : va_G} {k : Nat → ClassId} {q : Nat → Nat} (hq : Inj ZM q)  (σ : St) (x1 : Int32) : Ct l ZM D k q yX7_goesOn cX7_goesOn 3 none 4 89 [.ref (q 0), .int x1] σ (m_M_goesOn σ x1) :=
  Ct_of hq lcM (by decide) (Nat.le_of_ble_eq_true rfl) (fun _ _ _ _ _ _ _ _ _ _ C => w_M_goesOn C σ x1)
set_option maxRecDepth 100000 in
theorem w_M_ahead {X : CX} (C : Cx X ZM RX7 cX7_ahead 3 (some .int) 5 111)  (σ : St) (x1 : Int32) (x2 : Int32) : Sm X ZM 3 (some .int) σ [(0, .ref (cq X 0)), (1, .int x1), (2, .int x2)] 0 [] (m_M_ahead σ x1 x2) := by
  unfold m_M_ahead
  refine s_aload_n C e_M_ahead_0 rfl ?_
  refine s_iload_n C e_M_ahead_1 rfl ?_
  refine s_callV_1 C (c_M_isPin C.inj _ _) wv_M_isPin g_583 ⟨by decide, by decide⟩ fc_7 rfl zm_lt_0 (zm_0 _ _ _) rfl (Nat.le_of_ble_eq_true rfl) e_M_ahead_2 (fun v1 σ2 => ?_)
  refine s_if_eq (tgt := 18) C e_M_ahead_5 rfl ?_ ?_
  · refine s_ldc C e_M_ahead_18 g_453 ?_
    exact s_iret C e_M_ahead_20
  · refine s_iload_n C e_M_ahead_8 rfl ?_
    refine s_iconst C e_M_ahead_9 (v := (0 : Int32)) ic_0 ?_
    refine s_bipush C e_M_ahead_10 (v := (60 : Int32)) bp_60 ?_
    refine s_callS_3 C (c_M_in C.inj _ _ _ _) wv_M_in g_447 ⟨by decide, by decide⟩ rfl (Nat.le_of_ble_eq_true rfl) e_M_ahead_12 (fun v3 σ4 => ?_)
    refine s_if_ne (tgt := 21) C e_M_ahead_15 rfl ?_ ?_
    · refine s_ldc C e_M_ahead_18 g_453 ?_
      exact s_iret C e_M_ahead_20
    · refine s_aload_n C e_M_ahead_21 rfl ?_
      refine s_get C fc_7 zm_lt_0 (zm_0 _ _ _) 13 (by decide) e_M_ahead_22 g_535 rfl ?_
      refine s_iconst C e_M_ahead_25 (v := (0 : Int32)) ic_0 ?_
      refine s_aload_n C e_M_ahead_26 rfl ?_
      refine s_get C fc_7 zm_lt_0 (zm_0 _ _ _) 15 (by decide) e_M_ahead_27 g_587 rfl ?_
      refine s_iconst C e_M_ahead_30 (v := (0 : Int32)) ic_0 ?_
      refine s_callSv_4 C (c_M_copies C.inj isA6 isA8 _ _ _) wv_M_copies g_537 ⟨by decide, by decide⟩ rfl (Nat.le_of_ble_eq_true rfl) e_M_ahead_31 (fun v5 σ6 => ?_)
      refine s_aload_n C e_M_ahead_34 rfl ?_
      refine s_iload_n C e_M_ahead_35 rfl ?_
      refine s_callVv_1 C (c_M_goesOn C.inj _ _) wv_M_goesOn g_588 ⟨by decide, by decide⟩ fc_7 rfl zm_lt_0 (zm_0 _ _ _) rfl (Nat.le_of_ble_eq_true rfl) e_M_ahead_36 (fun v7 σ8 => ?_)
      refine s_aload_n C e_M_ahead_39 rfl ?_
      refine s_get C fc_7 zm_lt_0 (zm_0 _ _ _) 15 (by decide) e_M_ahead_40 g_587 rfl ?_
      refine s_bipush C e_M_ahead_43 (v := (22 : Int32)) bp_22 ?_
      refine s_bipush C e_M_ahead_45 (v := (6 : Int32)) bp_6 ?_
      refine s_iload_n C e_M_ahead_47 rfl ?_
      refine s_imul C e_M_ahead_48 ?_
      refine s_iadd C e_M_ahead_49 ?_
      refine s_iconst C e_M_ahead_50 (v := (4 : Int32)) ic_4 ?_
      refine s_iadd C e_M_ahead_51 ?_
      refine s_iald C (za_lt isA8) (za isA8) e_M_ahead_52 ?_
      exact s_iret C e_M_ahead_53
theorem c_M_ahead {l : Launch} {D : va_G} {k : Nat → ClassId} {q : Nat → Nat} (hq : Inj ZM q)  (σ : St) (x1 : Int32) (x2 : Int32) : Ct l ZM D k q yX7_ahead cX7_ahead 3 (some .int) 5 111 [.ref (q 0), .int x1, .int x2] σ (m_M_ahead σ x1 x2) :=
  Ct_of hq lcM (by decide) (Nat.le_of_ble_eq_true rfl) (fun _ _ _ _ _ _ _ _ _ _ C => w_M_ahead C σ x1 x2)
set_option maxRecDepth 100000 in
theorem w_M_earned {X : CX} (C : Cx X ZM RX7 cX7_earned 2 (some .int) 5 111)  (σ : St) (x1 : Int32) : Sm X ZM 2 (some .int) σ [(0, .ref (cq X 0)), (1, .int x1)] 0 [] (m_M_earned σ x1) := by
  unfold m_M_earned
  refine s_aload_n C e_M_earned_0 rfl ?_
  refine s_callV_0 C (c_M_isMap C.inj _) wv_M_isMap g_565 ⟨by decide, by decide⟩ fc_7 rfl zm_lt_0 (zm_0 _ _ _) rfl (Nat.le_of_ble_eq_true rfl) e_M_earned_1 (fun v1 σ2 => ?_)
  refine s_if_ne (tgt := 10) C e_M_earned_4 rfl ?_ ?_
  · refine s_ldc C e_M_earned_7 g_564 ?_
    exact s_iret C e_M_earned_9
  · refine s_iload_n C e_M_earned_10 rfl ?_
    refine s_iconst C e_M_earned_11 (v := (0 : Int32)) ic_0 ?_
    refine s_bipush C e_M_earned_12 (v := (60 : Int32)) bp_60 ?_
    refine s_callS_3 C (c_M_in C.inj _ _ _ _) wv_M_in g_447 ⟨by decide, by decide⟩ rfl (Nat.le_of_ble_eq_true rfl) e_M_earned_14 (fun v3 σ4 => ?_)
    refine s_if_ne (tgt := 23) C e_M_earned_17 rfl ?_ ?_
    · refine s_ldc C e_M_earned_20 g_453 ?_
      exact s_iret C e_M_earned_22
    · refine s_aload_n C e_M_earned_23 rfl ?_
      refine s_get C fc_7 zm_lt_0 (zm_0 _ _ _) 13 (by decide) e_M_earned_24 g_535 rfl ?_
      refine s_iconst C e_M_earned_27 (v := (0 : Int32)) ic_0 ?_
      refine s_aload_n C e_M_earned_28 rfl ?_
      refine s_get C fc_7 zm_lt_0 (zm_0 _ _ _) 15 (by decide) e_M_earned_29 g_587 rfl ?_
      refine s_iconst C e_M_earned_32 (v := (0 : Int32)) ic_0 ?_
      refine s_callSv_4 C (c_M_copies C.inj isA6 isA8 _ _ _) wv_M_copies g_537 ⟨by decide, by decide⟩ rfl (Nat.le_of_ble_eq_true rfl) e_M_earned_33 (fun v5 σ6 => ?_)
      refine s_aload_n C e_M_earned_36 rfl ?_
      refine s_iload_n C e_M_earned_37 rfl ?_
      refine s_callVv_1 C (c_M_goesOn C.inj _ _) wv_M_goesOn g_588 ⟨by decide, by decide⟩ fc_7 rfl zm_lt_0 (zm_0 _ _ _) rfl (Nat.le_of_ble_eq_true rfl) e_M_earned_38 (fun v7 σ8 => ?_)
      refine s_aload_n C e_M_earned_41 rfl ?_
      refine s_get C fc_7 zm_lt_0 (zm_0 _ _ _) 15 (by decide) e_M_earned_42 g_587 rfl ?_
      refine s_iconst C e_M_earned_45 (v := (5 : Int32)) ic_5 ?_
      refine s_iald C (za_lt isA8) (za isA8) e_M_earned_46 ?_
      exact s_iret C e_M_earned_47
theorem c_M_earned {l : Launch} {D : va_G} {k : Nat → ClassId} {q : Nat → Nat} (hq : Inj ZM q)  (σ : St) (x1 : Int32) : Ct l ZM D k q yX7_earned cX7_earned 2 (some .int) 5 111 [.ref (q 0), .int x1] σ (m_M_earned σ x1) :=
  Ct_of hq lcM (by decide) (Nat.le_of_ble_eq_true rfl) (fun _ _ _ _ _ _ _ _ _ _ C => w_M_earned C σ x1)
set_option maxRecDepth 100000 in
theorem w_M_tomsk_B34 {X : CX} (C : Cx X ZM RX7 cX7_tomsk 4 (some .int) 4 89)  (r34 : St → Int32 → Int32 → Int32 → Rt) (hr34 : ∀ (σ : St) (x1 : Int32) (x2 : Int32) (x3 : Int32), Sm X ZM 4 (some .int) σ [(0, .ref (cq X 0)), (1, .int x1), (2, .int x2), (3, .int x3)] 34 [] (r34 σ x1 x2 x3)) (σ : St) (x1 : Int32) (x2 : Int32) (x3 : Int32) : Sm X ZM 4 (some .int) σ [(0, .ref (cq X 0)), (1, .int x1), (2, .int x2), (3, .int x3)] 34 [] (m_M_tomsk_B34 r34 σ x1 x2 x3) := by
  unfold m_M_tomsk_B34
  refine s_iload_n C e_M_tomsk_34 rfl ?_
  refine s_bipush C e_M_tomsk_35 (v := (61 : Int32)) bp_61 ?_
  refine s_icmp_ge (tgt := 73) C e_M_tomsk_37 rfl ?_ ?_
  · refine s_ldc C e_M_tomsk_73 g_452 ?_
    exact s_iret C e_M_tomsk_75
  · refine s_aload_n C e_M_tomsk_40 rfl ?_
    refine s_get C fc_7 zm_lt_0 (zm_0 _ _ _) 15 (by decide) e_M_tomsk_41 g_587 rfl ?_
    refine s_bipush C e_M_tomsk_44 (v := (22 : Int32)) bp_22 ?_
    refine s_bipush C e_M_tomsk_46 (v := (6 : Int32)) bp_6 ?_
    refine s_iload_n C e_M_tomsk_48 rfl ?_
    refine s_imul C e_M_tomsk_49 ?_
    refine s_iadd C e_M_tomsk_50 ?_
    refine s_iconst C e_M_tomsk_51 (v := (4 : Int32)) ic_4 ?_
    refine s_iadd C e_M_tomsk_52 ?_
    refine s_iald C (za_lt isA8) (za isA8) e_M_tomsk_53 ?_
    refine s_iload_n C e_M_tomsk_54 rfl ?_
    refine s_icmp_ne (tgt := 60) C e_M_tomsk_55 rfl ?_ ?_
    · refine s_iload_n C e_M_tomsk_58 rfl ?_
      exact s_iret C e_M_tomsk_59
    · refine s_aload_n C e_M_tomsk_60 rfl ?_
      refine s_get C fc_7 zm_lt_0 (zm_0 _ _ _) 15 (by decide) e_M_tomsk_61 g_587 rfl ?_
      refine s_callSv_1 C (c_M_passes C.inj isA8 _) wv_M_passes g_569 ⟨by decide, by decide⟩ rfl (Nat.le_of_ble_eq_true rfl) e_M_tomsk_64 (fun v1 σ2 => ?_)
      refine s_iinc C e_M_tomsk_67 (v := (1 : Int32)) rfl (by decide) ii_1 ?_
      refine s_goto (tgt := 34) C e_M_tomsk_70 rfl ?_
      exact s_cut (hr34 _ _ _ _) ⟨rfl, rfl, rfl, rfl, trivial⟩
theorem w_M_tomsk_L34 {X : CX} (C : Cx X ZM RX7 cX7_tomsk 4 (some .int) 4 89)   : ∀ (n : Nat) (σ : St) (x1 : Int32) (x2 : Int32) (x3 : Int32), Sm X ZM 4 (some .int) σ [(0, .ref (cq X 0)), (1, .int x1), (2, .int x2), (3, .int x3)] 34 [] (m_M_tomsk_L34 n σ x1 x2 x3)
  | 0, _, _, _, _ => s_none
  | n + 1, σ, x1, x2, x3 => w_M_tomsk_B34 C (m_M_tomsk_L34 n) (w_M_tomsk_L34 C n) σ x1 x2 x3
set_option maxRecDepth 100000 in
theorem w_M_tomsk {X : CX} (C : Cx X ZM RX7 cX7_tomsk 4 (some .int) 4 89)  (σ : St) (x1 : Int32) (x2 : Int32) : Sm X ZM 4 (some .int) σ [(0, .ref (cq X 0)), (1, .int x1), (2, .int x2)] 0 [] (m_M_tomsk σ x1 x2) := by
  unfold m_M_tomsk
  refine s_aload_n C e_M_tomsk_0 rfl ?_
  refine s_iload_n C e_M_tomsk_1 rfl ?_
  refine s_callV_1 C (c_M_isPin C.inj _ _) wv_M_isPin g_583 ⟨by decide, by decide⟩ fc_7 rfl zm_lt_0 (zm_0 _ _ _) rfl (Nat.le_of_ble_eq_true rfl) e_M_tomsk_2 (fun v1 σ2 => ?_)
  refine s_if_eq (tgt := 16) C e_M_tomsk_5 rfl ?_ ?_
  · refine s_ldc C e_M_tomsk_16 g_453 ?_
    exact s_iret C e_M_tomsk_18
  · refine s_aload_n C e_M_tomsk_8 rfl ?_
    refine s_iload_n C e_M_tomsk_9 rfl ?_
    refine s_callV_1 C (c_M_isCell C.inj _ _) wv_M_isCell g_579 ⟨by decide, by decide⟩ fc_7 rfl zm_lt_0 (zm_0 _ _ _) rfl (Nat.le_of_ble_eq_true rfl) e_M_tomsk_10 (fun v3 σ4 => ?_)
    refine s_if_ne (tgt := 19) C e_M_tomsk_13 rfl ?_ ?_
    · refine s_ldc C e_M_tomsk_16 g_453 ?_
      exact s_iret C e_M_tomsk_18
    · refine s_aload_n C e_M_tomsk_19 rfl ?_
      refine s_get C fc_7 zm_lt_0 (zm_0 _ _ _) 13 (by decide) e_M_tomsk_20 g_535 rfl ?_
      refine s_iconst C e_M_tomsk_23 (v := (0 : Int32)) ic_0 ?_
      refine s_aload_n C e_M_tomsk_24 rfl ?_
      refine s_get C fc_7 zm_lt_0 (zm_0 _ _ _) 15 (by decide) e_M_tomsk_25 g_587 rfl ?_
      refine s_iconst C e_M_tomsk_28 (v := (0 : Int32)) ic_0 ?_
      refine s_callSv_4 C (c_M_copies C.inj isA6 isA8 _ _ _) wv_M_copies g_537 ⟨by decide, by decide⟩ rfl (Nat.le_of_ble_eq_true rfl) e_M_tomsk_29 (fun v5 σ6 => ?_)
      refine s_iconst C e_M_tomsk_32 (v := (0 : Int32)) ic_0 ?_
      refine s_istore_n C e_M_tomsk_33 (by decide) ?_
      exact s_cut (w_M_tomsk_L34 C FU _ _ _ _) ⟨rfl, rfl, rfl, rfl, trivial⟩
theorem c_M_tomsk {l : Launch} {D : va_G} {k : Nat → ClassId} {q : Nat → Nat} (hq : Inj ZM q)  (σ : St) (x1 : Int32) (x2 : Int32) : Ct l ZM D k q yX7_tomsk cX7_tomsk 4 (some .int) 4 89 [.ref (q 0), .int x1, .int x2] σ (m_M_tomsk σ x1 x2) :=
  Ct_of hq lcM (by decide) (Nat.le_of_ble_eq_true rfl) (fun _ _ _ _ _ _ _ _ _ _ C => w_M_tomsk C σ x1 x2)
set_option maxRecDepth 100000 in
theorem w_M_round_B93 {X : CX} (C : Cx X ZM RX7 cX7_round 4 (some .int) 4 89)  (r25 : St → Int32 → Rt) (hr25 : ∀ (σ : St) (x1 : Int32), Sm X ZM 4 (some .int) σ [(0, .ref (cq X 0)), (1, .int x1)] 25 [] (r25 σ x1)) (r43 : St → Int32 → Int32 → Int32 → Rt) (hr43 : ∀ (σ : St) (x1 : Int32) (x2 : Int32) (x3 : Int32), Sm X ZM 4 (some .int) σ [(0, .ref (cq X 0)), (1, .int x1), (2, .int x2), (3, .int x3)] 43 [] (r43 σ x1 x2 x3)) (σ : St) (x1 : Int32) (x3 : Int32) (s0 : Int32) : Sm X ZM 4 (some .int) σ [(0, .ref (cq X 0)), (1, .int x1), (3, .int x3)] 93 [.int s0] (m_M_round_B93 r25 r43 σ x1 x3 s0) := by
  unfold m_M_round_B93
  refine s_istore_n C e_M_round_93 (by decide) ?_
  refine s_iinc C e_M_round_94 (v := (1 : Int32)) rfl (by decide) ii_1 ?_
  refine s_goto (tgt := 43) C e_M_round_97 rfl ?_
  exact s_cut (hr43 _ _ _ _) ⟨rfl, rfl, rfl, rfl, trivial⟩
set_option maxRecDepth 100000 in
theorem w_M_round_B92 {X : CX} (C : Cx X ZM RX7 cX7_round 4 (some .int) 4 89)  (r25 : St → Int32 → Rt) (hr25 : ∀ (σ : St) (x1 : Int32), Sm X ZM 4 (some .int) σ [(0, .ref (cq X 0)), (1, .int x1)] 25 [] (r25 σ x1)) (r43 : St → Int32 → Int32 → Int32 → Rt) (hr43 : ∀ (σ : St) (x1 : Int32) (x2 : Int32) (x3 : Int32), Sm X ZM 4 (some .int) σ [(0, .ref (cq X 0)), (1, .int x1), (2, .int x2), (3, .int x3)] 43 [] (r43 σ x1 x2 x3)) (σ : St) (x1 : Int32) (x3 : Int32) : Sm X ZM 4 (some .int) σ [(0, .ref (cq X 0)), (1, .int x1), (3, .int x3)] 92 [] (m_M_round_B92 r25 r43 σ x1 x3) := by
  unfold m_M_round_B92
  refine s_iconst C e_M_round_92 (v := (0 : Int32)) ic_0 ?_
  exact s_cut (w_M_round_B93 C r25 hr25 r43 hr43 _ _ _ _) ⟨rfl, rfl, rfl, trivial⟩
set_option maxRecDepth 100000 in
theorem w_M_round_B100 {X : CX} (C : Cx X ZM RX7 cX7_round 4 (some .int) 4 89)  (r25 : St → Int32 → Rt) (hr25 : ∀ (σ : St) (x1 : Int32), Sm X ZM 4 (some .int) σ [(0, .ref (cq X 0)), (1, .int x1)] 25 [] (r25 σ x1)) (σ : St) (x1 : Int32) (x2 : Int32) : Sm X ZM 4 (some .int) σ [(0, .ref (cq X 0)), (1, .int x1), (2, .int x2)] 100 [] (m_M_round_B100 r25 σ x1 x2) := by
  unfold m_M_round_B100
  refine s_iload_n C e_M_round_100 rfl ?_
  refine s_if_eq (tgt := 106) C e_M_round_101 rfl ?_ ?_
  · refine s_iinc C e_M_round_106 (v := (1 : Int32)) rfl (by decide) ii_1 ?_
    refine s_goto (tgt := 25) C e_M_round_109 rfl ?_
    exact s_cut (hr25 _ _) ⟨rfl, rfl, trivial⟩
  · refine s_iload_n C e_M_round_104 rfl ?_
    exact s_iret C e_M_round_105
set_option maxRecDepth 100000 in
theorem w_M_round_B43 {X : CX} (C : Cx X ZM RX7 cX7_round 4 (some .int) 4 89)  (r25 : St → Int32 → Rt) (hr25 : ∀ (σ : St) (x1 : Int32), Sm X ZM 4 (some .int) σ [(0, .ref (cq X 0)), (1, .int x1)] 25 [] (r25 σ x1)) (r43 : St → Int32 → Int32 → Int32 → Rt) (hr43 : ∀ (σ : St) (x1 : Int32) (x2 : Int32) (x3 : Int32), Sm X ZM 4 (some .int) σ [(0, .ref (cq X 0)), (1, .int x1), (2, .int x2), (3, .int x3)] 43 [] (r43 σ x1 x2 x3)) (σ : St) (x1 : Int32) (x2 : Int32) (x3 : Int32) : Sm X ZM 4 (some .int) σ [(0, .ref (cq X 0)), (1, .int x1), (2, .int x2), (3, .int x3)] 43 [] (m_M_round_B43 r25 r43 σ x1 x2 x3) := by
  unfold m_M_round_B43
  refine s_iload_n C e_M_round_43 rfl ?_
  refine s_aload_n C e_M_round_44 rfl ?_
  refine s_get C fc_7 zm_lt_0 (zm_0 _ _ _) 13 (by decide) e_M_round_45 g_535 rfl ?_
  refine s_iconst C e_M_round_48 (v := (2 : Int32)) ic_2 ?_
  refine s_iald C (za_lt isA6) (za isA6) e_M_round_49 ?_
  refine s_icmp_ge (tgt := 100) C e_M_round_50 rfl ?_ ?_
  · exact s_cut (w_M_round_B100 C r25 hr25 _ _ _) ⟨rfl, rfl, rfl, trivial⟩
  · refine s_iload_n C e_M_round_53 rfl ?_
    refine s_if_eq (tgt := 92) C e_M_round_54 rfl ?_ ?_
    · exact s_cut (w_M_round_B92 C r25 hr25 r43 hr43 _ _ _) ⟨rfl, rfl, rfl, trivial⟩
    · refine s_aload_n C e_M_round_57 rfl ?_
      refine s_get C fc_7 zm_lt_0 (zm_0 _ _ _) 15 (by decide) e_M_round_58 g_587 rfl ?_
      refine s_bipush C e_M_round_61 (v := (22 : Int32)) bp_22 ?_
      refine s_bipush C e_M_round_63 (v := (6 : Int32)) bp_6 ?_
      refine s_iload_n C e_M_round_65 rfl ?_
      refine s_imul C e_M_round_66 ?_
      refine s_iadd C e_M_round_67 ?_
      refine s_iconst C e_M_round_68 (v := (4 : Int32)) ic_4 ?_
      refine s_iadd C e_M_round_69 ?_
      refine s_iald C (za_lt isA8) (za isA8) e_M_round_70 ?_
      refine s_aload_n C e_M_round_71 rfl ?_
      refine s_get C fc_7 zm_lt_0 (zm_0 _ _ _) 13 (by decide) e_M_round_72 g_535 rfl ?_
      refine s_bipush C e_M_round_75 (v := (22 : Int32)) bp_22 ?_
      refine s_bipush C e_M_round_77 (v := (6 : Int32)) bp_6 ?_
      refine s_iload_n C e_M_round_79 rfl ?_
      refine s_imul C e_M_round_80 ?_
      refine s_iadd C e_M_round_81 ?_
      refine s_iconst C e_M_round_82 (v := (4 : Int32)) ic_4 ?_
      refine s_iadd C e_M_round_83 ?_
      refine s_iald C (za_lt isA6) (za isA6) e_M_round_84 ?_
      refine s_icmp_ne (tgt := 92) C e_M_round_85 rfl ?_ ?_
      · refine s_iconst C e_M_round_88 (v := (1 : Int32)) ic_1 ?_
        refine s_goto (tgt := 93) C e_M_round_89 rfl ?_
        exact s_cut (w_M_round_B93 C r25 hr25 r43 hr43 _ _ _ _) ⟨rfl, rfl, rfl, trivial⟩
      · exact s_cut (w_M_round_B92 C r25 hr25 r43 hr43 _ _ _) ⟨rfl, rfl, rfl, trivial⟩
theorem w_M_round_L43 {X : CX} (C : Cx X ZM RX7 cX7_round 4 (some .int) 4 89)  (r25 : St → Int32 → Rt) (hr25 : ∀ (σ : St) (x1 : Int32), Sm X ZM 4 (some .int) σ [(0, .ref (cq X 0)), (1, .int x1)] 25 [] (r25 σ x1)) : ∀ (n : Nat) (σ : St) (x1 : Int32) (x2 : Int32) (x3 : Int32), Sm X ZM 4 (some .int) σ [(0, .ref (cq X 0)), (1, .int x1), (2, .int x2), (3, .int x3)] 43 [] (m_M_round_L43 r25 n σ x1 x2 x3)
  | 0, _, _, _, _ => s_none
  | n + 1, σ, x1, x2, x3 => w_M_round_B43 C r25 hr25 (m_M_round_L43 r25 n) (w_M_round_L43 C r25 hr25 n) σ x1 x2 x3
set_option maxRecDepth 100000 in
theorem w_M_round_B25 {X : CX} (C : Cx X ZM RX7 cX7_round 4 (some .int) 4 89)  (r25 : St → Int32 → Rt) (hr25 : ∀ (σ : St) (x1 : Int32), Sm X ZM 4 (some .int) σ [(0, .ref (cq X 0)), (1, .int x1)] 25 [] (r25 σ x1)) (σ : St) (x1 : Int32) : Sm X ZM 4 (some .int) σ [(0, .ref (cq X 0)), (1, .int x1)] 25 [] (m_M_round_B25 r25 σ x1) := by
  unfold m_M_round_B25
  refine s_iload_n C e_M_round_25 rfl ?_
  refine s_sipush C e_M_round_26 (v := (201 : Int32)) sp_201 ?_
  refine s_icmp_ge (tgt := 112) C e_M_round_29 rfl ?_ ?_
  · refine s_ldc C e_M_round_112 g_452 ?_
    exact s_iret C e_M_round_114
  · refine s_aload_n C e_M_round_32 rfl ?_
    refine s_get C fc_7 zm_lt_0 (zm_0 _ _ _) 15 (by decide) e_M_round_33 g_587 rfl ?_
    refine s_callSv_1 C (c_M_passes C.inj isA8 _) wv_M_passes g_569 ⟨by decide, by decide⟩ rfl (Nat.le_of_ble_eq_true rfl) e_M_round_36 (fun v1 σ2 => ?_)
    refine s_iconst C e_M_round_39 (v := (1 : Int32)) ic_1 ?_
    refine s_istore_n C e_M_round_40 (by decide) ?_
    refine s_iconst C e_M_round_41 (v := (0 : Int32)) ic_0 ?_
    refine s_istore_n C e_M_round_42 (by decide) ?_
    exact s_cut (w_M_round_L43 C r25 hr25 FU _ _ _ _) ⟨rfl, rfl, rfl, rfl, trivial⟩
theorem w_M_round_L25 {X : CX} (C : Cx X ZM RX7 cX7_round 4 (some .int) 4 89)   : ∀ (n : Nat) (σ : St) (x1 : Int32), Sm X ZM 4 (some .int) σ [(0, .ref (cq X 0)), (1, .int x1)] 25 [] (m_M_round_L25 n σ x1)
  | 0, _, _ => s_none
  | n + 1, σ, x1 => w_M_round_B25 C (m_M_round_L25 n) (w_M_round_L25 C n) σ x1
set_option maxRecDepth 100000 in
theorem w_M_round {X : CX} (C : Cx X ZM RX7 cX7_round 4 (some .int) 4 89)  (σ : St)  : Sm X ZM 4 (some .int) σ [(0, .ref (cq X 0))] 0 [] (m_M_round σ) := by
  unfold m_M_round
  refine s_aload_n C e_M_round_0 rfl ?_
  refine s_callV_0 C (c_M_isMap C.inj _) wv_M_isMap g_565 ⟨by decide, by decide⟩ fc_7 rfl zm_lt_0 (zm_0 _ _ _) rfl (Nat.le_of_ble_eq_true rfl) e_M_round_1 (fun v1 σ2 => ?_)
  refine s_if_ne (tgt := 10) C e_M_round_4 rfl ?_ ?_
  · refine s_ldc C e_M_round_7 g_564 ?_
    exact s_iret C e_M_round_9
  · refine s_aload_n C e_M_round_10 rfl ?_
    refine s_get C fc_7 zm_lt_0 (zm_0 _ _ _) 13 (by decide) e_M_round_11 g_535 rfl ?_
    refine s_iconst C e_M_round_14 (v := (0 : Int32)) ic_0 ?_
    refine s_aload_n C e_M_round_15 rfl ?_
    refine s_get C fc_7 zm_lt_0 (zm_0 _ _ _) 15 (by decide) e_M_round_16 g_587 rfl ?_
    refine s_iconst C e_M_round_19 (v := (0 : Int32)) ic_0 ?_
    refine s_callSv_4 C (c_M_copies C.inj isA6 isA8 _ _ _) wv_M_copies g_537 ⟨by decide, by decide⟩ rfl (Nat.le_of_ble_eq_true rfl) e_M_round_20 (fun v3 σ4 => ?_)
    refine s_iconst C e_M_round_23 (v := (1 : Int32)) ic_1 ?_
    refine s_istore_n C e_M_round_24 (by decide) ?_
    exact s_cut (w_M_round_L25 C FU _ _) ⟨rfl, rfl, trivial⟩
theorem c_M_round {l : Launch} {D : va_G} {k : Nat → ClassId} {q : Nat → Nat} (hq : Inj ZM q)  (σ : St)  : Ct l ZM D k q yX7_round cX7_round 4 (some .int) 4 89 [.ref (q 0)] σ (m_M_round σ) :=
  Ct_of hq lcM (by decide) (Nat.le_of_ble_eq_true rfl) (fun _ _ _ _ _ _ _ _ _ _ C => w_M_round C σ)
set_option maxRecDepth 100000 in
theorem w_M_changes_B148 {X : CX} (C : Cx X ZM RX7 cX7_changes 5 (some .int) 1 23)  (r76 : St → Int32 → Int32 → Int32 → Rt) (hr76 : ∀ (σ : St) (x1 : Int32) (x2 : Int32) (x3 : Int32), Sm X ZM 5 (some .int) σ [(0, .ref (cq X 0)), (1, .int x1), (2, .int x2), (3, .int x3)] 76 [] (r76 σ x1 x2 x3)) (σ : St) (x1 : Int32) (x2 : Int32) (x3 : Int32) : Sm X ZM 5 (some .int) σ [(0, .ref (cq X 0)), (1, .int x1), (2, .int x2), (3, .int x3)] 148 [] (m_M_changes_B148 r76 σ x1 x2 x3) := by
  unfold m_M_changes_B148
  refine s_iinc C e_M_changes_148 (v := (1 : Int32)) rfl (by decide) ii_1 ?_
  refine s_goto (tgt := 76) C e_M_changes_151 rfl ?_
  exact s_cut (hr76 _ _ _ _) ⟨rfl, rfl, rfl, rfl, trivial⟩
set_option maxRecDepth 100000 in
theorem w_M_changes_B105 {X : CX} (C : Cx X ZM RX7 cX7_changes 5 (some .int) 1 23)  (r76 : St → Int32 → Int32 → Int32 → Rt) (hr76 : ∀ (σ : St) (x1 : Int32) (x2 : Int32) (x3 : Int32), Sm X ZM 5 (some .int) σ [(0, .ref (cq X 0)), (1, .int x1), (2, .int x2), (3, .int x3)] 76 [] (r76 σ x1 x2 x3)) (r105 : St → Int32 → Int32 → Int32 → Int32 → Rt) (hr105 : ∀ (σ : St) (x1 : Int32) (x2 : Int32) (x3 : Int32) (x4 : Int32), Sm X ZM 5 (some .int) σ [(0, .ref (cq X 0)), (1, .int x1), (2, .int x2), (3, .int x3), (4, .int x4)] 105 [] (r105 σ x1 x2 x3 x4)) (σ : St) (x1 : Int32) (x2 : Int32) (x3 : Int32) (x4 : Int32) : Sm X ZM 5 (some .int) σ [(0, .ref (cq X 0)), (1, .int x1), (2, .int x2), (3, .int x3), (4, .int x4)] 105 [] (m_M_changes_B105 r76 r105 σ x1 x2 x3 x4) := by
  unfold m_M_changes_B105
  refine s_iload_n C e_M_changes_105 rfl ?_
  refine s_iload C e_M_changes_106 rfl ?_
  refine s_callS_2 C (c_M_has C.inj _ _ _) wv_M_has g_550 ⟨by decide, by decide⟩ rfl (Nat.le_of_ble_eq_true rfl) e_M_changes_108 (fun v1 σ2 => ?_)
  refine s_if_ne (tgt := 148) C e_M_changes_111 rfl ?_ ?_
  · refine s_iload_n C e_M_changes_114 rfl ?_
    refine s_iconst C e_M_changes_115 (v := (1 : Int32)) ic_1 ?_
    refine s_iload C e_M_changes_116 rfl ?_
    refine s_ishl C e_M_changes_118 ?_
    refine s_ior C e_M_changes_119 ?_
    refine s_nm (fun y3 => ?_)
    refine s_istore_n C e_M_changes_120 (by decide) ?_
    refine s_aload_n C e_M_changes_121 rfl ?_
    refine s_get C fc_7 zm_lt_0 (zm_0 _ _ _) 13 (by decide) e_M_changes_122 g_535 rfl ?_
    refine s_aload_n C e_M_changes_125 rfl ?_
    refine s_get C fc_7 zm_lt_0 (zm_0 _ _ _) 13 (by decide) e_M_changes_126 g_535 rfl ?_
    refine s_bipush C e_M_changes_129 (v := (22 : Int32)) bp_22 ?_
    refine s_bipush C e_M_changes_131 (v := (6 : Int32)) bp_6 ?_
    refine s_iload C e_M_changes_133 rfl ?_
    refine s_imul C e_M_changes_135 ?_
    refine s_iadd C e_M_changes_136 ?_
    refine s_iconst C e_M_changes_137 (v := (4 : Int32)) ic_4 ?_
    refine s_iadd C e_M_changes_138 ?_
    refine s_iald C (za_lt isA6) (za isA6) e_M_changes_139 ?_
    refine s_callS_2 C (c_M_homeOf C.inj isA6 _ _) wv_M_homeOf g_512 ⟨by decide, by decide⟩ rfl (Nat.le_of_ble_eq_true rfl) e_M_changes_140 (fun v4 σ5 => ?_)
    refine s_istore C e_M_changes_143 (by decide) ?_
    refine s_goto (tgt := 105) C e_M_changes_145 rfl ?_
    exact s_cut (hr105 _ _ _ _ _) ⟨rfl, rfl, rfl, rfl, rfl, trivial⟩
  · exact s_cut (w_M_changes_B148 C r76 hr76 _ _ _ _) ⟨rfl, rfl, rfl, rfl, trivial⟩
theorem w_M_changes_L105 {X : CX} (C : Cx X ZM RX7 cX7_changes 5 (some .int) 1 23)  (r76 : St → Int32 → Int32 → Int32 → Rt) (hr76 : ∀ (σ : St) (x1 : Int32) (x2 : Int32) (x3 : Int32), Sm X ZM 5 (some .int) σ [(0, .ref (cq X 0)), (1, .int x1), (2, .int x2), (3, .int x3)] 76 [] (r76 σ x1 x2 x3)) : ∀ (n : Nat) (σ : St) (x1 : Int32) (x2 : Int32) (x3 : Int32) (x4 : Int32), Sm X ZM 5 (some .int) σ [(0, .ref (cq X 0)), (1, .int x1), (2, .int x2), (3, .int x3), (4, .int x4)] 105 [] (m_M_changes_L105 r76 n σ x1 x2 x3 x4)
  | 0, _, _, _, _, _ => s_none
  | n + 1, σ, x1, x2, x3, x4 => w_M_changes_B105 C r76 hr76 (m_M_changes_L105 r76 n) (w_M_changes_L105 C r76 hr76 n) σ x1 x2 x3 x4
set_option maxRecDepth 100000 in
theorem w_M_changes_B100 {X : CX} (C : Cx X ZM RX7 cX7_changes 5 (some .int) 1 23)  (r76 : St → Int32 → Int32 → Int32 → Rt) (hr76 : ∀ (σ : St) (x1 : Int32) (x2 : Int32) (x3 : Int32), Sm X ZM 5 (some .int) σ [(0, .ref (cq X 0)), (1, .int x1), (2, .int x2), (3, .int x3)] 76 [] (r76 σ x1 x2 x3)) (σ : St) (x2 : Int32) (x3 : Int32) (s0 : Int32) (s1 : Int32) : Sm X ZM 5 (some .int) σ [(0, .ref (cq X 0)), (2, .int x2), (3, .int x3)] 100 [.int s0, .int s1] (m_M_changes_B100 r76 σ x2 x3 s0 s1) := by
  unfold m_M_changes_B100
  refine s_iadd C e_M_changes_100 ?_
  refine s_nm (fun y1 => ?_)
  refine s_istore_n C e_M_changes_101 (by decide) ?_
  refine s_iload_n C e_M_changes_102 rfl ?_
  refine s_istore C e_M_changes_103 (by decide) ?_
  exact s_cut (w_M_changes_L105 C r76 hr76 FU _ _ _ _ _) ⟨rfl, rfl, rfl, rfl, rfl, trivial⟩
set_option maxRecDepth 100000 in
theorem w_M_changes_B154 {X : CX} (C : Cx X ZM RX7 cX7_changes 5 (some .int) 1 23)   (σ : St) (x1 : Int32) : Sm X ZM 5 (some .int) σ [(0, .ref (cq X 0)), (1, .int x1)] 154 [] (m_M_changes_B154 σ x1) := by
  unfold m_M_changes_B154
  refine s_aload_n C e_M_changes_154 rfl ?_
  refine s_get C fc_7 zm_lt_0 (zm_0 _ _ _) 13 (by decide) e_M_changes_155 g_535 rfl ?_
  refine s_iconst C e_M_changes_158 (v := (2 : Int32)) ic_2 ?_
  refine s_iald C (za_lt isA6) (za isA6) e_M_changes_159 ?_
  refine s_iload_n C e_M_changes_160 rfl ?_
  refine s_isub C e_M_changes_161 ?_
  exact s_iret C e_M_changes_162
set_option maxRecDepth 100000 in
theorem w_M_changes_B76 {X : CX} (C : Cx X ZM RX7 cX7_changes 5 (some .int) 1 23)  (r76 : St → Int32 → Int32 → Int32 → Rt) (hr76 : ∀ (σ : St) (x1 : Int32) (x2 : Int32) (x3 : Int32), Sm X ZM 5 (some .int) σ [(0, .ref (cq X 0)), (1, .int x1), (2, .int x2), (3, .int x3)] 76 [] (r76 σ x1 x2 x3)) (σ : St) (x1 : Int32) (x2 : Int32) (x3 : Int32) : Sm X ZM 5 (some .int) σ [(0, .ref (cq X 0)), (1, .int x1), (2, .int x2), (3, .int x3)] 76 [] (m_M_changes_B76 r76 σ x1 x2 x3) := by
  unfold m_M_changes_B76
  refine s_iload_n C e_M_changes_76 rfl ?_
  refine s_aload_n C e_M_changes_77 rfl ?_
  refine s_get C fc_7 zm_lt_0 (zm_0 _ _ _) 13 (by decide) e_M_changes_78 g_535 rfl ?_
  refine s_iconst C e_M_changes_81 (v := (2 : Int32)) ic_2 ?_
  refine s_iald C (za_lt isA6) (za isA6) e_M_changes_82 ?_
  refine s_icmp_ge (tgt := 154) C e_M_changes_83 rfl ?_ ?_
  · exact s_cut (w_M_changes_B154 C _ _) ⟨rfl, rfl, trivial⟩
  · refine s_iload_n C e_M_changes_86 rfl ?_
    refine s_iload_n C e_M_changes_87 rfl ?_
    refine s_iload_n C e_M_changes_88 rfl ?_
    refine s_callS_2 C (c_M_has C.inj _ _ _) wv_M_has g_550 ⟨by decide, by decide⟩ rfl (Nat.le_of_ble_eq_true rfl) e_M_changes_89 (fun v1 σ2 => ?_)
    refine s_if_eq (tgt := 99) C e_M_changes_92 rfl ?_ ?_
    · refine s_iconst C e_M_changes_99 (v := (1 : Int32)) ic_1 ?_
      exact s_cut (w_M_changes_B100 C r76 hr76 _ _ _ _ _) ⟨rfl, rfl, rfl, trivial⟩
    · refine s_iconst C e_M_changes_95 (v := (0 : Int32)) ic_0 ?_
      refine s_goto (tgt := 100) C e_M_changes_96 rfl ?_
      exact s_cut (w_M_changes_B100 C r76 hr76 _ _ _ _ _) ⟨rfl, rfl, rfl, trivial⟩
theorem w_M_changes_L76 {X : CX} (C : Cx X ZM RX7 cX7_changes 5 (some .int) 1 23)   : ∀ (n : Nat) (σ : St) (x1 : Int32) (x2 : Int32) (x3 : Int32), Sm X ZM 5 (some .int) σ [(0, .ref (cq X 0)), (1, .int x1), (2, .int x2), (3, .int x3)] 76 [] (m_M_changes_L76 n σ x1 x2 x3)
  | 0, _, _, _, _ => s_none
  | n + 1, σ, x1, x2, x3 => w_M_changes_B76 C (m_M_changes_L76 n) (w_M_changes_L76 C n) σ x1 x2 x3
set_option maxRecDepth 100000 in
theorem w_M_changes_B70 {X : CX} (C : Cx X ZM RX7 cX7_changes 5 (some .int) 1 23)   (σ : St)  : Sm X ZM 5 (some .int) σ [(0, .ref (cq X 0))] 70 [] (m_M_changes_B70 σ) := by
  unfold m_M_changes_B70
  refine s_iconst C e_M_changes_70 (v := (0 : Int32)) ic_0 ?_
  refine s_istore_n C e_M_changes_71 (by decide) ?_
  refine s_iconst C e_M_changes_72 (v := (0 : Int32)) ic_0 ?_
  refine s_istore_n C e_M_changes_73 (by decide) ?_
  refine s_iconst C e_M_changes_74 (v := (0 : Int32)) ic_0 ?_
  refine s_istore_n C e_M_changes_75 (by decide) ?_
  exact s_cut (w_M_changes_L76 C FU _ _ _ _) ⟨rfl, rfl, rfl, rfl, trivial⟩
set_option maxRecDepth 100000 in
theorem w_M_changes_B2 {X : CX} (C : Cx X ZM RX7 cX7_changes 5 (some .int) 1 23)  (r2 : St → Int32 → Rt) (hr2 : ∀ (σ : St) (x1 : Int32), Sm X ZM 5 (some .int) σ [(0, .ref (cq X 0)), (1, .int x1)] 2 [] (r2 σ x1)) (σ : St) (x1 : Int32) : Sm X ZM 5 (some .int) σ [(0, .ref (cq X 0)), (1, .int x1)] 2 [] (m_M_changes_B2 r2 σ x1) := by
  unfold m_M_changes_B2
  refine s_iload_n C e_M_changes_2 rfl ?_
  refine s_aload_n C e_M_changes_3 rfl ?_
  refine s_get C fc_7 zm_lt_0 (zm_0 _ _ _) 13 (by decide) e_M_changes_4 g_535 rfl ?_
  refine s_iconst C e_M_changes_7 (v := (2 : Int32)) ic_2 ?_
  refine s_iald C (za_lt isA6) (za isA6) e_M_changes_8 ?_
  refine s_icmp_ge (tgt := 70) C e_M_changes_9 rfl ?_ ?_
  · exact s_cut (w_M_changes_B70 C _) ⟨rfl, trivial⟩
  · refine s_aload_n C e_M_changes_12 rfl ?_
    refine s_get C fc_7 zm_lt_0 (zm_0 _ _ _) 13 (by decide) e_M_changes_13 g_535 rfl ?_
    refine s_bipush C e_M_changes_16 (v := (22 : Int32)) bp_22 ?_
    refine s_bipush C e_M_changes_18 (v := (6 : Int32)) bp_6 ?_
    refine s_iload_n C e_M_changes_20 rfl ?_
    refine s_imul C e_M_changes_21 ?_
    refine s_iadd C e_M_changes_22 ?_
    refine s_iconst C e_M_changes_23 (v := (4 : Int32)) ic_4 ?_
    refine s_iadd C e_M_changes_24 ?_
    refine s_iald C (za_lt isA6) (za isA6) e_M_changes_25 ?_
    refine s_nm (fun y1 => ?_)
    refine s_istore_n C e_M_changes_26 (by decide) ?_
    refine s_iload_n C e_M_changes_27 rfl ?_
    refine s_ldc C e_M_changes_28 g_452 ?_
    refine s_icmp_eq (tgt := 61) C e_M_changes_30 rfl ?_ ?_
    · refine s_ldc C e_M_changes_61 g_452 ?_
      exact s_iret C e_M_changes_63
    · refine s_aload_n C e_M_changes_33 rfl ?_
      refine s_get C fc_7 zm_lt_0 (zm_0 _ _ _) 13 (by decide) e_M_changes_34 g_535 rfl ?_
      refine s_iload_n C e_M_changes_37 rfl ?_
      refine s_callS_2 C (c_M_homeOf C.inj isA6 _ _) wv_M_homeOf g_512 ⟨by decide, by decide⟩ rfl (Nat.le_of_ble_eq_true rfl) e_M_changes_38 (fun v2 σ3 => ?_)
      refine s_ldc C e_M_changes_41 g_452 ?_
      refine s_icmp_eq (tgt := 61) C e_M_changes_43 rfl ?_ ?_
      · refine s_ldc C e_M_changes_61 g_452 ?_
        exact s_iret C e_M_changes_63
      · refine s_aload_n C e_M_changes_46 rfl ?_
        refine s_get C fc_7 zm_lt_0 (zm_0 _ _ _) 13 (by decide) e_M_changes_47 g_535 rfl ?_
        refine s_iload_n C e_M_changes_50 rfl ?_
        refine s_callS_2 C (c_M_inCell C.inj isA6 _ _) wv_M_inCell g_541 ⟨by decide, by decide⟩ rfl (Nat.le_of_ble_eq_true rfl) e_M_changes_51 (fun v4 σ5 => ?_)
        refine s_callS_1 C (c_M_ones C.inj _ _) wv_M_ones g_553 ⟨by decide, by decide⟩ rfl (Nat.le_of_ble_eq_true rfl) e_M_changes_54 (fun v6 σ7 => ?_)
        refine s_iconst C e_M_changes_57 (v := (1 : Int32)) ic_1 ?_
        refine s_icmp_le (tgt := 64) C e_M_changes_58 rfl ?_ ?_
        · refine s_iinc C e_M_changes_64 (v := (1 : Int32)) rfl (by decide) ii_1 ?_
          refine s_goto (tgt := 2) C e_M_changes_67 rfl ?_
          exact s_cut (hr2 _ _) ⟨rfl, rfl, trivial⟩
        · refine s_ldc C e_M_changes_61 g_452 ?_
          exact s_iret C e_M_changes_63
theorem w_M_changes_L2 {X : CX} (C : Cx X ZM RX7 cX7_changes 5 (some .int) 1 23)   : ∀ (n : Nat) (σ : St) (x1 : Int32), Sm X ZM 5 (some .int) σ [(0, .ref (cq X 0)), (1, .int x1)] 2 [] (m_M_changes_L2 n σ x1)
  | 0, _, _ => s_none
  | n + 1, σ, x1 => w_M_changes_B2 C (m_M_changes_L2 n) (w_M_changes_L2 C n) σ x1
set_option maxRecDepth 100000 in
theorem w_M_changes {X : CX} (C : Cx X ZM RX7 cX7_changes 5 (some .int) 1 23)  (σ : St)  : Sm X ZM 5 (some .int) σ [(0, .ref (cq X 0))] 0 [] (m_M_changes σ) := by
  unfold m_M_changes
  refine s_iconst C e_M_changes_0 (v := (0 : Int32)) ic_0 ?_
  refine s_istore_n C e_M_changes_1 (by decide) ?_
  exact s_cut (w_M_changes_L2 C FU _ _) ⟨rfl, rfl, trivial⟩
theorem c_M_changes {l : Launch} {D : va_G} {k : Nat → ClassId} {q : Nat → Nat} (hq : Inj ZM q)  (σ : St)  : Ct l ZM D k q yX7_changes cX7_changes 5 (some .int) 1 23 [.ref (q 0)] σ (m_M_changes σ) :=
  Ct_of hq lcM (by decide) (Nat.le_of_ble_eq_true rfl) (fun _ _ _ _ _ _ _ _ _ _ C => w_M_changes C σ)
set_option maxRecDepth 100000 in
theorem w_M_right {X : CX} (C : Cx X ZM RX7 cX7_right 2 (some .int) 2 47)  (σ : St) (x1 : Int32) : Sm X ZM 2 (some .int) σ [(0, .ref (cq X 0)), (1, .int x1)] 0 [] (m_M_right σ x1) := by
  unfold m_M_right
  refine s_aload_n C e_M_right_0 rfl ?_
  refine s_callV_0 C (c_M_isMap C.inj _) wv_M_isMap g_565 ⟨by decide, by decide⟩ fc_7 rfl zm_lt_0 (zm_0 _ _ _) rfl (Nat.le_of_ble_eq_true rfl) e_M_right_1 (fun v1 σ2 => ?_)
  refine s_if_ne (tgt := 10) C e_M_right_4 rfl ?_ ?_
  · refine s_ldc C e_M_right_7 g_564 ?_
    exact s_iret C e_M_right_9
  · refine s_iload_n C e_M_right_10 rfl ?_
    refine s_iconst C e_M_right_11 (v := (0 : Int32)) ic_0 ?_
    refine s_iconst C e_M_right_12 (v := (1 : Int32)) ic_1 ?_
    refine s_callS_3 C (c_M_in C.inj _ _ _ _) wv_M_in g_447 ⟨by decide, by decide⟩ rfl (Nat.le_of_ble_eq_true rfl) e_M_right_13 (fun v3 σ4 => ?_)
    refine s_if_ne (tgt := 22) C e_M_right_16 rfl ?_ ?_
    · refine s_ldc C e_M_right_19 g_453 ?_
      exact s_iret C e_M_right_21
    · refine s_iload_n C e_M_right_22 rfl ?_
      refine s_if_ne (tgt := 36) C e_M_right_23 rfl ?_ ?_
      · refine s_aload_n C e_M_right_26 rfl ?_
        refine s_get C fc_7 zm_lt_0 (zm_0 _ _ _) 13 (by decide) e_M_right_27 g_535 rfl ?_
        refine s_callS_1 C (c_M_rights C.inj isA6 _) wv_M_rights g_596 ⟨by decide, by decide⟩ rfl (Nat.le_of_ble_eq_true rfl) e_M_right_30 (fun v7 σ8 => ?_)
        refine s_goto (tgt := 54) C e_M_right_33 rfl ?_
        exact s_iret C e_M_right_54
      · refine s_aload_n C e_M_right_36 rfl ?_
        refine s_get C fc_7 zm_lt_0 (zm_0 _ _ _) 13 (by decide) e_M_right_37 g_535 rfl ?_
        refine s_iconst C e_M_right_40 (v := (4 : Int32)) ic_4 ?_
        refine s_iald C (za_lt isA6) (za isA6) e_M_right_41 ?_
        refine s_if_ne (tgt := 50) C e_M_right_42 rfl ?_ ?_
        · refine s_ldc C e_M_right_45 g_452 ?_
          refine s_goto (tgt := 54) C e_M_right_47 rfl ?_
          exact s_iret C e_M_right_54
        · refine s_aload_n C e_M_right_50 rfl ?_
          refine s_callV_0 C (c_M_changes C.inj _) wv_M_changes g_592 ⟨by decide, by decide⟩ fc_7 rfl zm_lt_0 (zm_0 _ _ _) rfl (Nat.le_of_ble_eq_true rfl) e_M_right_51 (fun v5 σ6 => ?_)
          exact s_iret C e_M_right_54
theorem c_M_right {l : Launch} {D : va_G} {k : Nat → ClassId} {q : Nat → Nat} (hq : Inj ZM q)  (σ : St) (x1 : Int32) : Ct l ZM D k q yX7_right cX7_right 2 (some .int) 2 47 [.ref (q 0), .int x1] σ (m_M_right σ x1) :=
  Ct_of hq lcM (by decide) (Nat.le_of_ble_eq_true rfl) (fun _ _ _ _ _ _ _ _ _ _ C => w_M_right C σ x1)
set_option maxRecDepth 100000 in
theorem w_M_laysIn_B2 {X : CX} (C : Cx X ZM RX7 cX7_laysIn 4 none 0 0) {w1 : Nat} (hw1 : isA w1) (r2 : St → Int32 → Int32 → Rt) (hr2 : ∀ (σ : St) (x2 : Int32) (x3 : Int32), Sm X ZM 4 none σ [(0, .ref (cq X w1)), (2, .int x2), (3, .int x3)] 2 [] (r2 σ x2 x3)) (σ : St) (x2 : Int32) (x3 : Int32) : Sm X ZM 4 none σ [(0, .ref (cq X w1)), (2, .int x2), (3, .int x3)] 2 [] (m_M_laysIn_B2 w1 r2 σ x2 x3) := by
  unfold m_M_laysIn_B2
  refine s_iload_n C e_M_laysIn_2 rfl ?_
  refine s_if_le (tgt := 29) C e_M_laysIn_3 rfl ?_ ?_
  · refine s_aload_n C e_M_laysIn_29 rfl ?_
    refine s_iload_n C e_M_laysIn_30 rfl ?_
    refine s_iload_n C e_M_laysIn_31 rfl ?_
    refine s_iast C (za_lt hw1) (za hw1) e_M_laysIn_32 (fun σ1 => ?_)
    exact s_vret C e_M_laysIn_33
  · refine s_aload_n C e_M_laysIn_6 rfl ?_
    refine s_iload_n C e_M_laysIn_7 rfl ?_
    refine s_iconst C e_M_laysIn_8 (v := (1 : Int32)) ic_1 ?_
    refine s_isub C e_M_laysIn_9 ?_
    refine s_iald C (za_lt hw1) (za hw1) e_M_laysIn_10 ?_
    refine s_iload_n C e_M_laysIn_11 rfl ?_
    refine s_icmp_ge (tgt := 29) C e_M_laysIn_12 rfl ?_ ?_
    · refine s_aload_n C e_M_laysIn_29 rfl ?_
      refine s_iload_n C e_M_laysIn_30 rfl ?_
      refine s_iload_n C e_M_laysIn_31 rfl ?_
      refine s_iast C (za_lt hw1) (za hw1) e_M_laysIn_32 (fun σ2 => ?_)
      exact s_vret C e_M_laysIn_33
    · refine s_aload_n C e_M_laysIn_15 rfl ?_
      refine s_iload_n C e_M_laysIn_16 rfl ?_
      refine s_aload_n C e_M_laysIn_17 rfl ?_
      refine s_iload_n C e_M_laysIn_18 rfl ?_
      refine s_iconst C e_M_laysIn_19 (v := (1 : Int32)) ic_1 ?_
      refine s_isub C e_M_laysIn_20 ?_
      refine s_iald C (za_lt hw1) (za hw1) e_M_laysIn_21 ?_
      refine s_iast C (za_lt hw1) (za hw1) e_M_laysIn_22 (fun σ3 => ?_)
      refine s_iinc C e_M_laysIn_23 (v := (-1 : Int32)) rfl (by decide) ii_m1 ?_
      refine s_goto (tgt := 2) C e_M_laysIn_26 rfl ?_
      exact s_cut (hr2 _ _ _) ⟨rfl, rfl, rfl, trivial⟩
theorem w_M_laysIn_L2 {X : CX} (C : Cx X ZM RX7 cX7_laysIn 4 none 0 0) {w1 : Nat} (hw1 : isA w1)  : ∀ (n : Nat) (σ : St) (x2 : Int32) (x3 : Int32), Sm X ZM 4 none σ [(0, .ref (cq X w1)), (2, .int x2), (3, .int x3)] 2 [] (m_M_laysIn_L2 w1 n σ x2 x3)
  | 0, _, _, _ => s_none
  | n + 1, σ, x2, x3 => w_M_laysIn_B2 C hw1 (m_M_laysIn_L2 w1 n) (w_M_laysIn_L2 C hw1 n) σ x2 x3
set_option maxRecDepth 100000 in
theorem w_M_laysIn {X : CX} (C : Cx X ZM RX7 cX7_laysIn 4 none 0 0) {w1 : Nat} (hw1 : isA w1) (σ : St) (x1 : Int32) (x2 : Int32) : Sm X ZM 4 none σ [(0, .ref (cq X w1)), (1, .int x1), (2, .int x2)] 0 [] (m_M_laysIn w1 σ x1 x2) := by
  unfold m_M_laysIn
  refine s_iload_n C e_M_laysIn_0 rfl ?_
  refine s_istore_n C e_M_laysIn_1 (by decide) ?_
  exact s_cut (w_M_laysIn_L2 C hw1 FU _ _ _) ⟨rfl, rfl, rfl, trivial⟩
theorem c_M_laysIn {l : Launch} {D : va_G} {k : Nat → ClassId} {q : Nat → Nat} (hq : Inj ZM q) {w1 : Nat} (hw1 : isA w1) (σ : St) (x1 : Int32) (x2 : Int32) : Ct l ZM D k q yX7_laysIn cX7_laysIn 4 none 0 0 [.ref (q w1), .int x1, .int x2] σ (m_M_laysIn w1 σ x1 x2) :=
  Ct_of hq lcM (by decide) (Nat.le_of_ble_eq_true rfl) (fun _ _ _ _ _ _ _ _ _ _ C => w_M_laysIn C hw1 σ x1 x2)
set_option maxRecDepth 100000 in
theorem w_M_mostOf_B96 {X : CX} (C : Cx X ZM RX7 cX7_mostOf 7 (some .int) 1 23)  (r54 : St → Int32 → Int32 → Int32 → Int32 → Rt) (hr54 : ∀ (σ : St) (x2 : Int32) (x3 : Int32) (x4 : Int32) (x5 : Int32), Sm X ZM 7 (some .int) σ [(0, .ref (cq X 0)), (2, .int x2), (3, .int x3), (4, .int x4), (5, .int x5)] 54 [] (r54 σ x2 x3 x4 x5)) (σ : St) (x2 : Int32) (x3 : Int32) (x4 : Int32) (x5 : Int32) : Sm X ZM 7 (some .int) σ [(0, .ref (cq X 0)), (2, .int x2), (3, .int x3), (4, .int x4), (5, .int x5)] 96 [] (m_M_mostOf_B96 r54 σ x2 x3 x4 x5) := by
  unfold m_M_mostOf_B96
  refine s_iinc C e_M_mostOf_96 (v := (1 : Int32)) rfl (by decide) ii_1 ?_
  refine s_goto (tgt := 54) C e_M_mostOf_99 rfl ?_
  exact s_cut (hr54 _ _ _ _ _) ⟨rfl, rfl, rfl, rfl, rfl, trivial⟩
set_option maxRecDepth 100000 in
theorem w_M_mostOf_B108 {X : CX} (C : Cx X ZM RX7 cX7_mostOf 7 (some .int) 1 23)  (r108 : St → Int32 → Int32 → Int32 → Rt) (hr108 : ∀ (σ : St) (x3 : Int32) (x5 : Int32) (x6 : Int32), Sm X ZM 7 (some .int) σ [(0, .ref (cq X 0)), (3, .int x3), (5, .int x5), (6, .int x6)] 108 [] (r108 σ x3 x5 x6)) (σ : St) (x3 : Int32) (x5 : Int32) (x6 : Int32) : Sm X ZM 7 (some .int) σ [(0, .ref (cq X 0)), (3, .int x3), (5, .int x5), (6, .int x6)] 108 [] (m_M_mostOf_B108 r108 σ x3 x5 x6) := by
  unfold m_M_mostOf_B108
  refine s_iload C e_M_mostOf_108 rfl ?_
  refine s_iload_n C e_M_mostOf_110 rfl ?_
  refine s_icmp_ge (tgt := 140) C e_M_mostOf_111 rfl ?_ ?_
  · refine s_iload C e_M_mostOf_140 rfl ?_
    exact s_iret C e_M_mostOf_142
  · refine s_iload C e_M_mostOf_114 rfl ?_
    refine s_aload_n C e_M_mostOf_116 rfl ?_
    refine s_get C fc_7 zm_lt_0 (zm_0 _ _ _) 20 (by decide) e_M_mostOf_117 g_599 rfl ?_
    refine s_iload C e_M_mostOf_120 rfl ?_
    refine s_iald C (za_lt isA12) (za isA12) e_M_mostOf_122 ?_
    refine s_aload_n C e_M_mostOf_123 rfl ?_
    refine s_get C fc_7 zm_lt_0 (zm_0 _ _ _) 21 (by decide) e_M_mostOf_124 g_603 rfl ?_
    refine s_iload C e_M_mostOf_127 rfl ?_
    refine s_iald C (za_lt isA13) (za isA13) e_M_mostOf_129 ?_
    refine s_imul C e_M_mostOf_130 ?_
    refine s_iadd C e_M_mostOf_131 ?_
    refine s_nm (fun y1 => ?_)
    refine s_istore C e_M_mostOf_132 (by decide) ?_
    refine s_iinc C e_M_mostOf_134 (v := (1 : Int32)) rfl (by decide) ii_1 ?_
    refine s_goto (tgt := 108) C e_M_mostOf_137 rfl ?_
    exact s_cut (hr108 _ _ _ _) ⟨rfl, rfl, rfl, rfl, trivial⟩
theorem w_M_mostOf_L108 {X : CX} (C : Cx X ZM RX7 cX7_mostOf 7 (some .int) 1 23)   : ∀ (n : Nat) (σ : St) (x3 : Int32) (x5 : Int32) (x6 : Int32), Sm X ZM 7 (some .int) σ [(0, .ref (cq X 0)), (3, .int x3), (5, .int x5), (6, .int x6)] 108 [] (m_M_mostOf_L108 n σ x3 x5 x6)
  | 0, _, _, _, _ => s_none
  | n + 1, σ, x3, x5, x6 => w_M_mostOf_B108 C (m_M_mostOf_L108 n) (w_M_mostOf_L108 C n) σ x3 x5 x6
set_option maxRecDepth 100000 in
theorem w_M_mostOf_B102 {X : CX} (C : Cx X ZM RX7 cX7_mostOf 7 (some .int) 1 23)   (σ : St) (x3 : Int32) : Sm X ZM 7 (some .int) σ [(0, .ref (cq X 0)), (3, .int x3)] 102 [] (m_M_mostOf_B102 σ x3) := by
  unfold m_M_mostOf_B102
  refine s_iconst C e_M_mostOf_102 (v := (0 : Int32)) ic_0 ?_
  refine s_istore C e_M_mostOf_103 (by decide) ?_
  refine s_iconst C e_M_mostOf_105 (v := (0 : Int32)) ic_0 ?_
  refine s_istore C e_M_mostOf_106 (by decide) ?_
  exact s_cut (w_M_mostOf_L108 C FU _ _ _ _) ⟨rfl, rfl, rfl, rfl, trivial⟩
set_option maxRecDepth 100000 in
theorem w_M_mostOf_B54 {X : CX} (C : Cx X ZM RX7 cX7_mostOf 7 (some .int) 1 23)  (r54 : St → Int32 → Int32 → Int32 → Int32 → Rt) (hr54 : ∀ (σ : St) (x2 : Int32) (x3 : Int32) (x4 : Int32) (x5 : Int32), Sm X ZM 7 (some .int) σ [(0, .ref (cq X 0)), (2, .int x2), (3, .int x3), (4, .int x4), (5, .int x5)] 54 [] (r54 σ x2 x3 x4 x5)) (σ : St) (x2 : Int32) (x3 : Int32) (x4 : Int32) (x5 : Int32) : Sm X ZM 7 (some .int) σ [(0, .ref (cq X 0)), (2, .int x2), (3, .int x3), (4, .int x4), (5, .int x5)] 54 [] (m_M_mostOf_B54 r54 σ x2 x3 x4 x5) := by
  unfold m_M_mostOf_B54
  refine s_iload C e_M_mostOf_54 rfl ?_
  refine s_aload_n C e_M_mostOf_56 rfl ?_
  refine s_get C fc_7 zm_lt_0 (zm_0 _ _ _) 13 (by decide) e_M_mostOf_57 g_535 rfl ?_
  refine s_iconst C e_M_mostOf_60 (v := (1 : Int32)) ic_1 ?_
  refine s_iald C (za_lt isA6) (za isA6) e_M_mostOf_61 ?_
  refine s_icmp_ge (tgt := 102) C e_M_mostOf_62 rfl ?_ ?_
  · exact s_cut (w_M_mostOf_B102 C _ _) ⟨rfl, rfl, trivial⟩
  · refine s_iload_n C e_M_mostOf_65 rfl ?_
    refine s_iload C e_M_mostOf_66 rfl ?_
    refine s_callS_2 C (c_M_has C.inj _ _ _) wv_M_has g_550 ⟨by decide, by decide⟩ rfl (Nat.le_of_ble_eq_true rfl) e_M_mostOf_68 (fun v1 σ2 => ?_)
    refine s_if_eq (tgt := 96) C e_M_mostOf_71 rfl ?_ ?_
    · exact s_cut (w_M_mostOf_B96 C r54 hr54 _ _ _ _ _) ⟨rfl, rfl, rfl, rfl, rfl, trivial⟩
    · refine s_aload_n C e_M_mostOf_74 rfl ?_
      refine s_get C fc_7 zm_lt_0 (zm_0 _ _ _) 21 (by decide) e_M_mostOf_75 g_603 rfl ?_
      refine s_iload C e_M_mostOf_78 rfl ?_
      refine s_aload_n C e_M_mostOf_80 rfl ?_
      refine s_get C fc_7 zm_lt_0 (zm_0 _ _ _) 13 (by decide) e_M_mostOf_81 g_535 rfl ?_
      refine s_bipush C e_M_mostOf_84 (v := (6 : Int32)) bp_6 ?_
      refine s_iload C e_M_mostOf_86 rfl ?_
      refine s_iadd C e_M_mostOf_88 ?_
      refine s_iald C (za_lt isA6) (za isA6) e_M_mostOf_89 ?_
      refine s_callSv_3 C (c_M_laysIn C.inj isA13 _ _ _) wv_M_laysIn g_600 ⟨by decide, by decide⟩ rfl (Nat.le_of_ble_eq_true rfl) e_M_mostOf_90 (fun v3 σ4 => ?_)
      refine s_iinc C e_M_mostOf_93 (v := (1 : Int32)) rfl (by decide) ii_1 ?_
      exact s_cut (w_M_mostOf_B96 C r54 hr54 _ _ _ _ _) ⟨rfl, rfl, rfl, rfl, rfl, trivial⟩
theorem w_M_mostOf_L54 {X : CX} (C : Cx X ZM RX7 cX7_mostOf 7 (some .int) 1 23)   : ∀ (n : Nat) (σ : St) (x2 : Int32) (x3 : Int32) (x4 : Int32) (x5 : Int32), Sm X ZM 7 (some .int) σ [(0, .ref (cq X 0)), (2, .int x2), (3, .int x3), (4, .int x4), (5, .int x5)] 54 [] (m_M_mostOf_L54 n σ x2 x3 x4 x5)
  | 0, _, _, _, _, _ => s_none
  | n + 1, σ, x2, x3, x4, x5 => w_M_mostOf_B54 C (m_M_mostOf_L54 n) (w_M_mostOf_L54 C n) σ x2 x3 x4 x5
set_option maxRecDepth 100000 in
theorem w_M_mostOf_B48 {X : CX} (C : Cx X ZM RX7 cX7_mostOf 7 (some .int) 1 23)   (σ : St) (x2 : Int32) (x3 : Int32) : Sm X ZM 7 (some .int) σ [(0, .ref (cq X 0)), (2, .int x2), (3, .int x3)] 48 [] (m_M_mostOf_B48 σ x2 x3) := by
  unfold m_M_mostOf_B48
  refine s_iconst C e_M_mostOf_48 (v := (0 : Int32)) ic_0 ?_
  refine s_istore C e_M_mostOf_49 (by decide) ?_
  refine s_iconst C e_M_mostOf_51 (v := (0 : Int32)) ic_0 ?_
  refine s_istore C e_M_mostOf_52 (by decide) ?_
  exact s_cut (w_M_mostOf_L54 C FU _ _ _ _ _) ⟨rfl, rfl, rfl, rfl, rfl, trivial⟩
set_option maxRecDepth 100000 in
theorem w_M_mostOf_B5 {X : CX} (C : Cx X ZM RX7 cX7_mostOf 7 (some .int) 1 23)  (r5 : St → Int32 → Int32 → Int32 → Rt) (hr5 : ∀ (σ : St) (x2 : Int32) (x3 : Int32) (x4 : Int32), Sm X ZM 7 (some .int) σ [(0, .ref (cq X 0)), (2, .int x2), (3, .int x3), (4, .int x4)] 5 [] (r5 σ x2 x3 x4)) (σ : St) (x2 : Int32) (x3 : Int32) (x4 : Int32) : Sm X ZM 7 (some .int) σ [(0, .ref (cq X 0)), (2, .int x2), (3, .int x3), (4, .int x4)] 5 [] (m_M_mostOf_B5 r5 σ x2 x3 x4) := by
  unfold m_M_mostOf_B5
  refine s_iload C e_M_mostOf_5 rfl ?_
  refine s_aload_n C e_M_mostOf_7 rfl ?_
  refine s_get C fc_7 zm_lt_0 (zm_0 _ _ _) 13 (by decide) e_M_mostOf_8 g_535 rfl ?_
  refine s_iconst C e_M_mostOf_11 (v := (2 : Int32)) ic_2 ?_
  refine s_iald C (za_lt isA6) (za isA6) e_M_mostOf_12 ?_
  refine s_icmp_ge (tgt := 48) C e_M_mostOf_13 rfl ?_ ?_
  · exact s_cut (w_M_mostOf_B48 C _ _ _) ⟨rfl, rfl, rfl, trivial⟩
  · refine s_aload_n C e_M_mostOf_16 rfl ?_
    refine s_get C fc_7 zm_lt_0 (zm_0 _ _ _) 20 (by decide) e_M_mostOf_17 g_599 rfl ?_
    refine s_iload_n C e_M_mostOf_20 rfl ?_
    refine s_aload_n C e_M_mostOf_21 rfl ?_
    refine s_get C fc_7 zm_lt_0 (zm_0 _ _ _) 13 (by decide) e_M_mostOf_22 g_535 rfl ?_
    refine s_bipush C e_M_mostOf_25 (v := (22 : Int32)) bp_22 ?_
    refine s_bipush C e_M_mostOf_27 (v := (6 : Int32)) bp_6 ?_
    refine s_iload C e_M_mostOf_29 rfl ?_
    refine s_imul C e_M_mostOf_31 ?_
    refine s_iadd C e_M_mostOf_32 ?_
    refine s_iconst C e_M_mostOf_33 (v := (2 : Int32)) ic_2 ?_
    refine s_iadd C e_M_mostOf_34 ?_
    refine s_iald C (za_lt isA6) (za isA6) e_M_mostOf_35 ?_
    refine s_callSv_3 C (c_M_laysIn C.inj isA12 _ _ _) wv_M_laysIn g_600 ⟨by decide, by decide⟩ rfl (Nat.le_of_ble_eq_true rfl) e_M_mostOf_36 (fun v1 σ2 => ?_)
    refine s_iinc C e_M_mostOf_39 (v := (1 : Int32)) rfl (by decide) ii_1 ?_
    refine s_iinc C e_M_mostOf_42 (v := (1 : Int32)) rfl (by decide) ii_1 ?_
    refine s_goto (tgt := 5) C e_M_mostOf_45 rfl ?_
    exact s_cut (hr5 _ _ _ _) ⟨rfl, rfl, rfl, rfl, trivial⟩
theorem w_M_mostOf_L5 {X : CX} (C : Cx X ZM RX7 cX7_mostOf 7 (some .int) 1 23)   : ∀ (n : Nat) (σ : St) (x2 : Int32) (x3 : Int32) (x4 : Int32), Sm X ZM 7 (some .int) σ [(0, .ref (cq X 0)), (2, .int x2), (3, .int x3), (4, .int x4)] 5 [] (m_M_mostOf_L5 n σ x2 x3 x4)
  | 0, _, _, _, _ => s_none
  | n + 1, σ, x2, x3, x4 => w_M_mostOf_B5 C (m_M_mostOf_L5 n) (w_M_mostOf_L5 C n) σ x2 x3 x4
set_option maxRecDepth 100000 in
theorem w_M_mostOf {X : CX} (C : Cx X ZM RX7 cX7_mostOf 7 (some .int) 1 23)  (σ : St) (x1 : Int32) (x2 : Int32) : Sm X ZM 7 (some .int) σ [(0, .ref (cq X 0)), (1, .int x1), (2, .int x2)] 0 [] (m_M_mostOf σ x1 x2) := by
  unfold m_M_mostOf
  refine s_iconst C e_M_mostOf_0 (v := (0 : Int32)) ic_0 ?_
  refine s_istore_n C e_M_mostOf_1 (by decide) ?_
  refine s_iload_n C e_M_mostOf_2 rfl ?_
  refine s_istore C e_M_mostOf_3 (by decide) ?_
  exact s_cut (w_M_mostOf_L5 C FU _ _ _ _) ⟨rfl, rfl, rfl, rfl, trivial⟩
theorem c_M_mostOf {l : Launch} {D : va_G} {k : Nat → ClassId} {q : Nat → Nat} (hq : Inj ZM q)  (σ : St) (x1 : Int32) (x2 : Int32) : Ct l ZM D k q yX7_mostOf cX7_mostOf 7 (some .int) 1 23 [.ref (q 0), .int x1, .int x2] σ (m_M_mostOf σ x1 x2) :=
  Ct_of hq lcM (by decide) (Nat.le_of_ble_eq_true rfl) (fun _ _ _ _ _ _ _ _ _ _ C => w_M_mostOf C σ x1 x2)
set_option maxRecDepth 100000 in
theorem w_M_best_B139 {X : CX} (C : Cx X ZM RX7 cX7_best 7 (some .int) 2 49)  (r68 : St → Int32 → Int32 → Int32 → Int32 → Int32 → Rt) (hr68 : ∀ (σ : St) (x1 : Int32) (x2 : Int32) (x3 : Int32) (x4 : Int32) (x5 : Int32), Sm X ZM 7 (some .int) σ [(0, .ref (cq X 0)), (1, .int x1), (2, .int x2), (3, .int x3), (4, .int x4), (5, .int x5)] 68 [] (r68 σ x1 x2 x3 x4 x5)) (r82 : St → Int32 → Int32 → Int32 → Int32 → Int32 → Int32 → Rt) (hr82 : ∀ (σ : St) (x1 : Int32) (x2 : Int32) (x3 : Int32) (x4 : Int32) (x5 : Int32) (x6 : Int32), Sm X ZM 7 (some .int) σ [(0, .ref (cq X 0)), (1, .int x1), (2, .int x2), (3, .int x3), (4, .int x4), (5, .int x5), (6, .int x6)] 82 [] (r82 σ x1 x2 x3 x4 x5 x6)) (σ : St) (x1 : Int32) (x2 : Int32) (x3 : Int32) (x4 : Int32) (x5 : Int32) (x6 : Int32) : Sm X ZM 7 (some .int) σ [(0, .ref (cq X 0)), (1, .int x1), (2, .int x2), (3, .int x3), (4, .int x4), (5, .int x5), (6, .int x6)] 139 [] (m_M_best_B139 r68 r82 σ x1 x2 x3 x4 x5 x6) := by
  unfold m_M_best_B139
  refine s_iinc C e_M_best_139 (v := (1 : Int32)) rfl (by decide) ii_1 ?_
  refine s_goto (tgt := 82) C e_M_best_142 rfl ?_
  exact s_cut (hr82 _ _ _ _ _ _ _) ⟨rfl, rfl, rfl, rfl, rfl, rfl, rfl, trivial⟩
set_option maxRecDepth 100000 in
theorem w_M_best_B145 {X : CX} (C : Cx X ZM RX7 cX7_best 7 (some .int) 2 49)  (r68 : St → Int32 → Int32 → Int32 → Int32 → Int32 → Rt) (hr68 : ∀ (σ : St) (x1 : Int32) (x2 : Int32) (x3 : Int32) (x4 : Int32) (x5 : Int32), Sm X ZM 7 (some .int) σ [(0, .ref (cq X 0)), (1, .int x1), (2, .int x2), (3, .int x3), (4, .int x4), (5, .int x5)] 68 [] (r68 σ x1 x2 x3 x4 x5)) (σ : St) (x1 : Int32) (x2 : Int32) (x3 : Int32) (x4 : Int32) (x5 : Int32) (x6 : Int32) : Sm X ZM 7 (some .int) σ [(0, .ref (cq X 0)), (1, .int x1), (2, .int x2), (3, .int x3), (4, .int x4), (5, .int x5), (6, .int x6)] 145 [] (m_M_best_B145 r68 σ x1 x2 x3 x4 x5 x6) := by
  unfold m_M_best_B145
  refine s_aload_n C e_M_best_145 rfl ?_
  refine s_get C fc_7 zm_lt_0 (zm_0 _ _ _) 22 (by decide) e_M_best_146 g_608 rfl ?_
  refine s_iload C e_M_best_149 rfl ?_
  refine s_iload C e_M_best_151 rfl ?_
  refine s_iast C (za_lt isA14) (za isA14) e_M_best_153 (fun σ1 => ?_)
  refine s_iload_n C e_M_best_154 rfl ?_
  refine s_iconst C e_M_best_155 (v := (1 : Int32)) ic_1 ?_
  refine s_iload C e_M_best_156 rfl ?_
  refine s_ishl C e_M_best_158 ?_
  refine s_iconst C e_M_best_159 (v := (-1 : Int32)) ic_m1 ?_
  refine s_ixor C e_M_best_160 ?_
  refine s_iand C e_M_best_161 ?_
  refine s_nm (fun y2 => ?_)
  refine s_istore_n C e_M_best_162 (by decide) ?_
  refine s_iload C e_M_best_163 rfl ?_
  refine s_aload_n C e_M_best_165 rfl ?_
  refine s_get C fc_7 zm_lt_0 (zm_0 _ _ _) 13 (by decide) e_M_best_166 g_535 rfl ?_
  refine s_bipush C e_M_best_169 (v := (22 : Int32)) bp_22 ?_
  refine s_bipush C e_M_best_171 (v := (6 : Int32)) bp_6 ?_
  refine s_iload C e_M_best_173 rfl ?_
  refine s_imul C e_M_best_175 ?_
  refine s_iadd C e_M_best_176 ?_
  refine s_iconst C e_M_best_177 (v := (2 : Int32)) ic_2 ?_
  refine s_iadd C e_M_best_178 ?_
  refine s_iald C (za_lt isA6) (za isA6) e_M_best_179 ?_
  refine s_aload_n C e_M_best_180 rfl ?_
  refine s_get C fc_7 zm_lt_0 (zm_0 _ _ _) 13 (by decide) e_M_best_181 g_535 rfl ?_
  refine s_bipush C e_M_best_184 (v := (6 : Int32)) bp_6 ?_
  refine s_iload C e_M_best_186 rfl ?_
  refine s_iadd C e_M_best_188 ?_
  refine s_iald C (za_lt isA6) (za isA6) e_M_best_189 ?_
  refine s_imul C e_M_best_190 ?_
  refine s_isub C e_M_best_191 ?_
  refine s_nm (fun y3 => ?_)
  refine s_istore C e_M_best_192 (by decide) ?_
  refine s_iinc C e_M_best_194 (v := (1 : Int32)) rfl (by decide) ii_1 ?_
  refine s_goto (tgt := 68) C e_M_best_197 rfl ?_
  exact s_cut (hr68 _ _ _ _ _ _) ⟨rfl, rfl, rfl, rfl, rfl, rfl, trivial⟩
set_option maxRecDepth 100000 in
theorem w_M_best_B82 {X : CX} (C : Cx X ZM RX7 cX7_best 7 (some .int) 2 49)  (r68 : St → Int32 → Int32 → Int32 → Int32 → Int32 → Rt) (hr68 : ∀ (σ : St) (x1 : Int32) (x2 : Int32) (x3 : Int32) (x4 : Int32) (x5 : Int32), Sm X ZM 7 (some .int) σ [(0, .ref (cq X 0)), (1, .int x1), (2, .int x2), (3, .int x3), (4, .int x4), (5, .int x5)] 68 [] (r68 σ x1 x2 x3 x4 x5)) (r82 : St → Int32 → Int32 → Int32 → Int32 → Int32 → Int32 → Rt) (hr82 : ∀ (σ : St) (x1 : Int32) (x2 : Int32) (x3 : Int32) (x4 : Int32) (x5 : Int32) (x6 : Int32), Sm X ZM 7 (some .int) σ [(0, .ref (cq X 0)), (1, .int x1), (2, .int x2), (3, .int x3), (4, .int x4), (5, .int x5), (6, .int x6)] 82 [] (r82 σ x1 x2 x3 x4 x5 x6)) (σ : St) (x1 : Int32) (x2 : Int32) (x3 : Int32) (x4 : Int32) (x5 : Int32) (x6 : Int32) : Sm X ZM 7 (some .int) σ [(0, .ref (cq X 0)), (1, .int x1), (2, .int x2), (3, .int x3), (4, .int x4), (5, .int x5), (6, .int x6)] 82 [] (m_M_best_B82 r68 r82 σ x1 x2 x3 x4 x5 x6) := by
  unfold m_M_best_B82
  refine s_iload_n C e_M_best_82 rfl ?_
  refine s_iload C e_M_best_83 rfl ?_
  refine s_callS_2 C (c_M_has C.inj _ _ _) wv_M_has g_550 ⟨by decide, by decide⟩ rfl (Nat.le_of_ble_eq_true rfl) e_M_best_85 (fun v1 σ2 => ?_)
  refine s_if_eq (tgt := 139) C e_M_best_88 rfl ?_ ?_
  · exact s_cut (w_M_best_B139 C r68 hr68 r82 hr82 _ _ _ _ _ _ _) ⟨rfl, rfl, rfl, rfl, rfl, rfl, rfl, trivial⟩
  · refine s_aload_n C e_M_best_91 rfl ?_
    refine s_get C fc_7 zm_lt_0 (zm_0 _ _ _) 13 (by decide) e_M_best_92 g_535 rfl ?_
    refine s_bipush C e_M_best_95 (v := (22 : Int32)) bp_22 ?_
    refine s_bipush C e_M_best_97 (v := (6 : Int32)) bp_6 ?_
    refine s_iload C e_M_best_99 rfl ?_
    refine s_imul C e_M_best_101 ?_
    refine s_iadd C e_M_best_102 ?_
    refine s_iconst C e_M_best_103 (v := (2 : Int32)) ic_2 ?_
    refine s_iadd C e_M_best_104 ?_
    refine s_iald C (za_lt isA6) (za isA6) e_M_best_105 ?_
    refine s_aload_n C e_M_best_106 rfl ?_
    refine s_get C fc_7 zm_lt_0 (zm_0 _ _ _) 13 (by decide) e_M_best_107 g_535 rfl ?_
    refine s_bipush C e_M_best_110 (v := (6 : Int32)) bp_6 ?_
    refine s_iload C e_M_best_112 rfl ?_
    refine s_iadd C e_M_best_114 ?_
    refine s_iald C (za_lt isA6) (za isA6) e_M_best_115 ?_
    refine s_imul C e_M_best_116 ?_
    refine s_aload_n C e_M_best_117 rfl ?_
    refine s_iload C e_M_best_118 rfl ?_
    refine s_iconst C e_M_best_120 (v := (1 : Int32)) ic_1 ?_
    refine s_iadd C e_M_best_121 ?_
    refine s_iload_n C e_M_best_122 rfl ?_
    refine s_iconst C e_M_best_123 (v := (1 : Int32)) ic_1 ?_
    refine s_iload C e_M_best_124 rfl ?_
    refine s_ishl C e_M_best_126 ?_
    refine s_iconst C e_M_best_127 (v := (-1 : Int32)) ic_m1 ?_
    refine s_ixor C e_M_best_128 ?_
    refine s_iand C e_M_best_129 ?_
    refine s_callV_2 C (c_M_mostOf C.inj _ _ _) wv_M_mostOf g_604 ⟨by decide, by decide⟩ fc_7 rfl zm_lt_0 (zm_0 _ _ _) rfl (Nat.le_of_ble_eq_true rfl) e_M_best_130 (fun v3 σ4 => ?_)
    refine s_iadd C e_M_best_133 ?_
    refine s_iload C e_M_best_134 rfl ?_
    refine s_icmp_ge (tgt := 145) C e_M_best_136 rfl ?_ ?_
    · exact s_cut (w_M_best_B145 C r68 hr68 _ _ _ _ _ _ _) ⟨rfl, rfl, rfl, rfl, rfl, rfl, rfl, trivial⟩
    · exact s_cut (w_M_best_B139 C r68 hr68 r82 hr82 _ _ _ _ _ _ _) ⟨rfl, rfl, rfl, rfl, rfl, rfl, rfl, trivial⟩
theorem w_M_best_L82 {X : CX} (C : Cx X ZM RX7 cX7_best 7 (some .int) 2 49)  (r68 : St → Int32 → Int32 → Int32 → Int32 → Int32 → Rt) (hr68 : ∀ (σ : St) (x1 : Int32) (x2 : Int32) (x3 : Int32) (x4 : Int32) (x5 : Int32), Sm X ZM 7 (some .int) σ [(0, .ref (cq X 0)), (1, .int x1), (2, .int x2), (3, .int x3), (4, .int x4), (5, .int x5)] 68 [] (r68 σ x1 x2 x3 x4 x5)) : ∀ (n : Nat) (σ : St) (x1 : Int32) (x2 : Int32) (x3 : Int32) (x4 : Int32) (x5 : Int32) (x6 : Int32), Sm X ZM 7 (some .int) σ [(0, .ref (cq X 0)), (1, .int x1), (2, .int x2), (3, .int x3), (4, .int x4), (5, .int x5), (6, .int x6)] 82 [] (m_M_best_L82 r68 n σ x1 x2 x3 x4 x5 x6)
  | 0, _, _, _, _, _, _, _ => s_none
  | n + 1, σ, x1, x2, x3, x4, x5, x6 => w_M_best_B82 C r68 hr68 (m_M_best_L82 r68 n) (w_M_best_L82 C r68 hr68 n) σ x1 x2 x3 x4 x5 x6
set_option maxRecDepth 100000 in
theorem w_M_best_B200 {X : CX} (C : Cx X ZM RX7 cX7_best 7 (some .int) 2 49)   (σ : St) (x1 : Int32) (x3 : Int32) : Sm X ZM 7 (some .int) σ [(0, .ref (cq X 0)), (1, .int x1), (3, .int x3)] 200 [] (m_M_best_B200 σ x1 x3) := by
  unfold m_M_best_B200
  refine s_iload_n C e_M_best_200 rfl ?_
  refine s_iconst C e_M_best_201 (v := (-1 : Int32)) ic_m1 ?_
  refine s_icmp_ne (tgt := 209) C e_M_best_202 rfl ?_ ?_
  · refine s_iload_n C e_M_best_205 rfl ?_
    refine s_goto (tgt := 215) C e_M_best_206 rfl ?_
    exact s_iret C e_M_best_215
  · refine s_aload_n C e_M_best_209 rfl ?_
    refine s_get C fc_7 zm_lt_0 (zm_0 _ _ _) 22 (by decide) e_M_best_210 g_608 rfl ?_
    refine s_iload_n C e_M_best_213 rfl ?_
    refine s_iald C (za_lt isA14) (za isA14) e_M_best_214 ?_
    exact s_iret C e_M_best_215
set_option maxRecDepth 100000 in
theorem w_M_best_B68 {X : CX} (C : Cx X ZM RX7 cX7_best 7 (some .int) 2 49)  (r68 : St → Int32 → Int32 → Int32 → Int32 → Int32 → Rt) (hr68 : ∀ (σ : St) (x1 : Int32) (x2 : Int32) (x3 : Int32) (x4 : Int32) (x5 : Int32), Sm X ZM 7 (some .int) σ [(0, .ref (cq X 0)), (1, .int x1), (2, .int x2), (3, .int x3), (4, .int x4), (5, .int x5)] 68 [] (r68 σ x1 x2 x3 x4 x5)) (σ : St) (x1 : Int32) (x2 : Int32) (x3 : Int32) (x4 : Int32) (x5 : Int32) : Sm X ZM 7 (some .int) σ [(0, .ref (cq X 0)), (1, .int x1), (2, .int x2), (3, .int x3), (4, .int x4), (5, .int x5)] 68 [] (m_M_best_B68 r68 σ x1 x2 x3 x4 x5) := by
  unfold m_M_best_B68
  refine s_iload C e_M_best_68 rfl ?_
  refine s_aload_n C e_M_best_70 rfl ?_
  refine s_get C fc_7 zm_lt_0 (zm_0 _ _ _) 13 (by decide) e_M_best_71 g_535 rfl ?_
  refine s_iconst C e_M_best_74 (v := (2 : Int32)) ic_2 ?_
  refine s_iald C (za_lt isA6) (za isA6) e_M_best_75 ?_
  refine s_icmp_ge (tgt := 200) C e_M_best_76 rfl ?_ ?_
  · exact s_cut (w_M_best_B200 C _ _ _) ⟨rfl, rfl, rfl, trivial⟩
  · refine s_iconst C e_M_best_79 (v := (0 : Int32)) ic_0 ?_
    refine s_istore C e_M_best_80 (by decide) ?_
    exact s_cut (w_M_best_L82 C r68 hr68 FU _ _ _ _ _ _ _) ⟨rfl, rfl, rfl, rfl, rfl, rfl, rfl, trivial⟩
theorem w_M_best_L68 {X : CX} (C : Cx X ZM RX7 cX7_best 7 (some .int) 2 49)   : ∀ (n : Nat) (σ : St) (x1 : Int32) (x2 : Int32) (x3 : Int32) (x4 : Int32) (x5 : Int32), Sm X ZM 7 (some .int) σ [(0, .ref (cq X 0)), (1, .int x1), (2, .int x2), (3, .int x3), (4, .int x4), (5, .int x5)] 68 [] (m_M_best_L68 n σ x1 x2 x3 x4 x5)
  | 0, _, _, _, _, _, _ => s_none
  | n + 1, σ, x1, x2, x3, x4, x5 => w_M_best_B68 C (m_M_best_L68 n) (w_M_best_L68 C n) σ x1 x2 x3 x4 x5
set_option maxRecDepth 100000 in
theorem w_M_best_B26 {X : CX} (C : Cx X ZM RX7 cX7_best 7 (some .int) 2 49)   (σ : St) (x1 : Int32) : Sm X ZM 7 (some .int) σ [(0, .ref (cq X 0)), (1, .int x1)] 26 [] (m_M_best_B26 σ x1) := by
  unfold m_M_best_B26
  refine s_aload_n C e_M_best_26 rfl ?_
  refine s_get C fc_7 zm_lt_0 (zm_0 _ _ _) 13 (by decide) e_M_best_27 g_535 rfl ?_
  refine s_iconst C e_M_best_30 (v := (2 : Int32)) ic_2 ?_
  refine s_iald C (za_lt isA6) (za isA6) e_M_best_31 ?_
  refine s_aload_n C e_M_best_32 rfl ?_
  refine s_get C fc_7 zm_lt_0 (zm_0 _ _ _) 13 (by decide) e_M_best_33 g_535 rfl ?_
  refine s_iconst C e_M_best_36 (v := (1 : Int32)) ic_1 ?_
  refine s_iald C (za_lt isA6) (za isA6) e_M_best_37 ?_
  refine s_icmp_le (tgt := 44) C e_M_best_38 rfl ?_ ?_
  · refine s_iconst C e_M_best_44 (v := (1 : Int32)) ic_1 ?_
    refine s_aload_n C e_M_best_45 rfl ?_
    refine s_get C fc_7 zm_lt_0 (zm_0 _ _ _) 13 (by decide) e_M_best_46 g_535 rfl ?_
    refine s_iconst C e_M_best_49 (v := (1 : Int32)) ic_1 ?_
    refine s_iald C (za_lt isA6) (za isA6) e_M_best_50 ?_
    refine s_ishl C e_M_best_51 ?_
    refine s_iconst C e_M_best_52 (v := (1 : Int32)) ic_1 ?_
    refine s_isub C e_M_best_53 ?_
    refine s_nm (fun y1 => ?_)
    refine s_istore_n C e_M_best_54 (by decide) ?_
    refine s_aload_n C e_M_best_55 rfl ?_
    refine s_iconst C e_M_best_56 (v := (0 : Int32)) ic_0 ?_
    refine s_iload_n C e_M_best_57 rfl ?_
    refine s_callV_2 C (c_M_mostOf C.inj _ _ _) wv_M_mostOf g_604 ⟨by decide, by decide⟩ fc_7 rfl zm_lt_0 (zm_0 _ _ _) rfl (Nat.le_of_ble_eq_true rfl) e_M_best_58 (fun v2 σ3 => ?_)
    refine s_istore_n C e_M_best_61 (by decide) ?_
    refine s_iload_n C e_M_best_62 rfl ?_
    refine s_istore C e_M_best_63 (by decide) ?_
    refine s_iconst C e_M_best_65 (v := (0 : Int32)) ic_0 ?_
    refine s_istore C e_M_best_66 (by decide) ?_
    exact s_cut (w_M_best_L68 C FU _ _ _ _ _ _) ⟨rfl, rfl, rfl, rfl, rfl, rfl, trivial⟩
  · refine s_ldc C e_M_best_41 g_452 ?_
    exact s_iret C e_M_best_43
set_option maxRecDepth 100000 in
theorem w_M_best {X : CX} (C : Cx X ZM RX7 cX7_best 7 (some .int) 2 49)  (σ : St) (x1 : Int32) : Sm X ZM 7 (some .int) σ [(0, .ref (cq X 0)), (1, .int x1)] 0 [] (m_M_best σ x1) := by
  unfold m_M_best
  refine s_aload_n C e_M_best_0 rfl ?_
  refine s_callV_0 C (c_M_isMap C.inj _) wv_M_isMap g_565 ⟨by decide, by decide⟩ fc_7 rfl zm_lt_0 (zm_0 _ _ _) rfl (Nat.le_of_ble_eq_true rfl) e_M_best_1 (fun v1 σ2 => ?_)
  refine s_if_ne (tgt := 10) C e_M_best_4 rfl ?_ ?_
  · refine s_ldc C e_M_best_7 g_564 ?_
    exact s_iret C e_M_best_9
  · refine s_iload_n C e_M_best_10 rfl ?_
    refine s_iconst C e_M_best_11 (v := (-1 : Int32)) ic_m1 ?_
    refine s_icmp_eq (tgt := 26) C e_M_best_12 rfl ?_ ?_
    · exact s_cut (w_M_best_B26 C _ _) ⟨rfl, rfl, trivial⟩
    · refine s_aload_n C e_M_best_15 rfl ?_
      refine s_iload_n C e_M_best_16 rfl ?_
      refine s_callV_1 C (c_M_isPin C.inj _ _) wv_M_isPin g_583 ⟨by decide, by decide⟩ fc_7 rfl zm_lt_0 (zm_0 _ _ _) rfl (Nat.le_of_ble_eq_true rfl) e_M_best_17 (fun v3 σ4 => ?_)
      refine s_if_ne (tgt := 26) C e_M_best_20 rfl ?_ ?_
      · refine s_ldc C e_M_best_23 g_453 ?_
        exact s_iret C e_M_best_25
      · exact s_cut (w_M_best_B26 C _ _) ⟨rfl, rfl, trivial⟩
theorem c_M_best {l : Launch} {D : va_G} {k : Nat → ClassId} {q : Nat → Nat} (hq : Inj ZM q)  (σ : St) (x1 : Int32) : Ct l ZM D k q yX7_best cX7_best 7 (some .int) 2 49 [.ref (q 0), .int x1] σ (m_M_best σ x1) :=
  Ct_of hq lcM (by decide) (Nat.le_of_ble_eq_true rfl) (fun _ _ _ _ _ _ _ _ _ _ C => w_M_best C σ x1)
set_option maxRecDepth 100000 in
theorem w_M_toOpening_B17 {X : CX} (C : Cx X ZM RX7 cX7_toOpening 1 none 4 89)   (σ : St)  : Sm X ZM 1 none σ [(0, .ref (cq X 0))] 17 [] (m_M_toOpening_B17 σ) := by
  unfold m_M_toOpening_B17
  refine s_aload_n C e_M_toOpening_17 rfl ?_
  refine s_get C fc_7 zm_lt_0 (zm_0 _ _ _) 15 (by decide) e_M_toOpening_18 g_587 rfl ?_
  refine s_callSv_1 C (c_M_passes C.inj isA8 _) wv_M_passes g_569 ⟨by decide, by decide⟩ rfl (Nat.le_of_ble_eq_true rfl) e_M_toOpening_21 (fun v1 σ2 => ?_)
  exact s_vret C e_M_toOpening_24
set_option maxRecDepth 100000 in
theorem w_M_toOpening {X : CX} (C : Cx X ZM RX7 cX7_toOpening 1 none 4 89)  (σ : St)  : Sm X ZM 1 none σ [(0, .ref (cq X 0))] 0 [] (m_M_toOpening σ) := by
  unfold m_M_toOpening
  refine s_aload_n C e_M_toOpening_0 rfl ?_
  refine s_get C fc_7 zm_lt_0 (zm_0 _ _ _) 15 (by decide) e_M_toOpening_1 g_587 rfl ?_
  refine s_iconst C e_M_toOpening_4 (v := (4 : Int32)) ic_4 ?_
  refine s_iald C (za_lt isA8) (za isA8) e_M_toOpening_5 ?_
  refine s_iconst C e_M_toOpening_6 (v := (1 : Int32)) ic_1 ?_
  refine s_icmp_ne (tgt := 17) C e_M_toOpening_7 rfl ?_ ?_
  · refine s_aload_n C e_M_toOpening_10 rfl ?_
    refine s_get C fc_7 zm_lt_0 (zm_0 _ _ _) 15 (by decide) e_M_toOpening_11 g_587 rfl ?_
    refine s_callSv_1 C (c_M_passes C.inj isA8 _) wv_M_passes g_569 ⟨by decide, by decide⟩ rfl (Nat.le_of_ble_eq_true rfl) e_M_toOpening_14 (fun v1 σ2 => ?_)
    exact s_cut (w_M_toOpening_B17 C _) ⟨rfl, trivial⟩
  · exact s_cut (w_M_toOpening_B17 C _) ⟨rfl, trivial⟩
theorem c_M_toOpening {l : Launch} {D : va_G} {k : Nat → ClassId} {q : Nat → Nat} (hq : Inj ZM q)  (σ : St)  : Ct l ZM D k q yX7_toOpening cX7_toOpening 1 none 4 89 [.ref (q 0)] σ (m_M_toOpening σ) :=
  Ct_of hq lcM (by decide) (Nat.le_of_ble_eq_true rfl) (fun _ _ _ _ _ _ _ _ _ _ C => w_M_toOpening C σ)
set_option maxRecDepth 100000 in
theorem w_M_isSeen_B52 {X : CX} (C : Cx X ZM RX7 cX7_isSeen 6 (some .boolean) 5 109)  (r6 : St → Int32 → Int32 → Int32 → Int32 → Int32 → Rt) (hr6 : ∀ (σ : St) (x1 : Int32) (x2 : Int32) (x3 : Int32) (x4 : Int32) (x5 : Int32), Sm X ZM 6 (some .boolean) σ [(0, .ref (cq X 0)), (1, .int x1), (2, .int x2), (3, .int x3), (4, .int x4), (5, .int x5)] 6 [] (r6 σ x1 x2 x3 x4 x5)) (σ : St) (x1 : Int32) (x2 : Int32) (x3 : Int32) (x5 : Int32) (s0 : Int32) : Sm X ZM 6 (some .boolean) σ [(0, .ref (cq X 0)), (1, .int x1), (2, .int x2), (3, .int x3), (5, .int x5)] 52 [.int s0] (m_M_isSeen_B52 r6 σ x1 x2 x3 x5 s0) := by
  unfold m_M_isSeen_B52
  refine s_istore C e_M_isSeen_52 (by decide) ?_
  refine s_iinc C e_M_isSeen_54 (v := (1 : Int32)) rfl (by decide) ii_1 ?_
  refine s_goto (tgt := 6) C e_M_isSeen_57 rfl ?_
  exact s_cut (hr6 _ _ _ _ _ _) ⟨rfl, rfl, rfl, rfl, rfl, rfl, trivial⟩
set_option maxRecDepth 100000 in
theorem w_M_isSeen_B51 {X : CX} (C : Cx X ZM RX7 cX7_isSeen 6 (some .boolean) 5 109)  (r6 : St → Int32 → Int32 → Int32 → Int32 → Int32 → Rt) (hr6 : ∀ (σ : St) (x1 : Int32) (x2 : Int32) (x3 : Int32) (x4 : Int32) (x5 : Int32), Sm X ZM 6 (some .boolean) σ [(0, .ref (cq X 0)), (1, .int x1), (2, .int x2), (3, .int x3), (4, .int x4), (5, .int x5)] 6 [] (r6 σ x1 x2 x3 x4 x5)) (σ : St) (x1 : Int32) (x2 : Int32) (x3 : Int32) (x5 : Int32) : Sm X ZM 6 (some .boolean) σ [(0, .ref (cq X 0)), (1, .int x1), (2, .int x2), (3, .int x3), (5, .int x5)] 51 [] (m_M_isSeen_B51 r6 σ x1 x2 x3 x5) := by
  unfold m_M_isSeen_B51
  refine s_iconst C e_M_isSeen_51 (v := (0 : Int32)) ic_0 ?_
  exact s_cut (w_M_isSeen_B52 C r6 hr6 _ _ _ _ _ _) ⟨rfl, rfl, rfl, rfl, rfl, trivial⟩
set_option maxRecDepth 100000 in
theorem w_M_isSeen_B6 {X : CX} (C : Cx X ZM RX7 cX7_isSeen 6 (some .boolean) 5 109)  (r6 : St → Int32 → Int32 → Int32 → Int32 → Int32 → Rt) (hr6 : ∀ (σ : St) (x1 : Int32) (x2 : Int32) (x3 : Int32) (x4 : Int32) (x5 : Int32), Sm X ZM 6 (some .boolean) σ [(0, .ref (cq X 0)), (1, .int x1), (2, .int x2), (3, .int x3), (4, .int x4), (5, .int x5)] 6 [] (r6 σ x1 x2 x3 x4 x5)) (σ : St) (x1 : Int32) (x2 : Int32) (x3 : Int32) (x4 : Int32) (x5 : Int32) : Sm X ZM 6 (some .boolean) σ [(0, .ref (cq X 0)), (1, .int x1), (2, .int x2), (3, .int x3), (4, .int x4), (5, .int x5)] 6 [] (m_M_isSeen_B6 r6 σ x1 x2 x3 x4 x5) := by
  unfold m_M_isSeen_B6
  refine s_iload C e_M_isSeen_6 rfl ?_
  refine s_iload_n C e_M_isSeen_8 rfl ?_
  refine s_icmp_ge (tgt := 60) C e_M_isSeen_9 rfl ?_ ?_
  · refine s_iload C e_M_isSeen_60 rfl ?_
    exact s_zret C e_M_isSeen_62
  · refine s_aload_n C e_M_isSeen_12 rfl ?_
    refine s_callVv_0 C (c_M_toOpening C.inj _) wv_M_toOpening g_609 ⟨by decide, by decide⟩ fc_7 rfl zm_lt_0 (zm_0 _ _ _) rfl (Nat.le_of_ble_eq_true rfl) e_M_isSeen_13 (fun v1 σ2 => ?_)
    refine s_iload C e_M_isSeen_16 rfl ?_
    refine s_if_eq (tgt := 51) C e_M_isSeen_18 rfl ?_ ?_
    · exact s_cut (w_M_isSeen_B51 C r6 hr6 _ _ _ _ _) ⟨rfl, rfl, rfl, rfl, rfl, trivial⟩
    · refine s_aload_n C e_M_isSeen_21 rfl ?_
      refine s_get C fc_7 zm_lt_0 (zm_0 _ _ _) 15 (by decide) e_M_isSeen_22 g_587 rfl ?_
      refine s_bipush C e_M_isSeen_25 (v := (22 : Int32)) bp_22 ?_
      refine s_bipush C e_M_isSeen_27 (v := (6 : Int32)) bp_6 ?_
      refine s_iload_n C e_M_isSeen_29 rfl ?_
      refine s_imul C e_M_isSeen_30 ?_
      refine s_iadd C e_M_isSeen_31 ?_
      refine s_iconst C e_M_isSeen_32 (v := (4 : Int32)) ic_4 ?_
      refine s_iadd C e_M_isSeen_33 ?_
      refine s_iald C (za_lt isA8) (za isA8) e_M_isSeen_34 ?_
      refine s_aload_n C e_M_isSeen_35 rfl ?_
      refine s_get C fc_7 zm_lt_0 (zm_0 _ _ _) 2 (by decide) e_M_isSeen_36 g_462 rfl ?_
      refine s_iload_n C e_M_isSeen_39 rfl ?_
      refine s_iload C e_M_isSeen_40 rfl ?_
      refine s_iadd C e_M_isSeen_42 ?_
      refine s_iald C (za_lt isA3) (za isA3) e_M_isSeen_43 ?_
      refine s_icmp_ne (tgt := 51) C e_M_isSeen_44 rfl ?_ ?_
      · refine s_iconst C e_M_isSeen_47 (v := (1 : Int32)) ic_1 ?_
        refine s_goto (tgt := 52) C e_M_isSeen_48 rfl ?_
        exact s_cut (w_M_isSeen_B52 C r6 hr6 _ _ _ _ _ _) ⟨rfl, rfl, rfl, rfl, rfl, trivial⟩
      · exact s_cut (w_M_isSeen_B51 C r6 hr6 _ _ _ _ _) ⟨rfl, rfl, rfl, rfl, rfl, trivial⟩
theorem w_M_isSeen_L6 {X : CX} (C : Cx X ZM RX7 cX7_isSeen 6 (some .boolean) 5 109)   : ∀ (n : Nat) (σ : St) (x1 : Int32) (x2 : Int32) (x3 : Int32) (x4 : Int32) (x5 : Int32), Sm X ZM 6 (some .boolean) σ [(0, .ref (cq X 0)), (1, .int x1), (2, .int x2), (3, .int x3), (4, .int x4), (5, .int x5)] 6 [] (m_M_isSeen_L6 n σ x1 x2 x3 x4 x5)
  | 0, _, _, _, _, _, _ => s_none
  | n + 1, σ, x1, x2, x3, x4, x5 => w_M_isSeen_B6 C (m_M_isSeen_L6 n) (w_M_isSeen_L6 C n) σ x1 x2 x3 x4 x5
set_option maxRecDepth 100000 in
theorem w_M_isSeen {X : CX} (C : Cx X ZM RX7 cX7_isSeen 6 (some .boolean) 5 109)  (σ : St) (x1 : Int32) (x2 : Int32) (x3 : Int32) : Sm X ZM 6 (some .boolean) σ [(0, .ref (cq X 0)), (1, .int x1), (2, .int x2), (3, .int x3)] 0 [] (m_M_isSeen σ x1 x2 x3) := by
  unfold m_M_isSeen
  refine s_iconst C e_M_isSeen_0 (v := (1 : Int32)) ic_1 ?_
  refine s_istore C e_M_isSeen_1 (by decide) ?_
  refine s_iconst C e_M_isSeen_3 (v := (0 : Int32)) ic_0 ?_
  refine s_istore C e_M_isSeen_4 (by decide) ?_
  exact s_cut (w_M_isSeen_L6 C FU _ _ _ _ _ _) ⟨rfl, rfl, rfl, rfl, rfl, rfl, trivial⟩
theorem c_M_isSeen {l : Launch} {D : va_G} {k : Nat → ClassId} {q : Nat → Nat} (hq : Inj ZM q)  (σ : St) (x1 : Int32) (x2 : Int32) (x3 : Int32) : Ct l ZM D k q yX7_isSeen cX7_isSeen 6 (some .boolean) 5 109 [.ref (q 0), .int x1, .int x2, .int x3] σ (m_M_isSeen σ x1 x2 x3) :=
  Ct_of hq lcM (by decide) (Nat.le_of_ble_eq_true rfl) (fun _ _ _ _ _ _ _ _ _ _ C => w_M_isSeen C σ x1 x2 x3)
set_option maxRecDepth 100000 in
theorem w_M_triesBy_B79 {X : CX} (C : Cx X ZM RX7 cX7_triesBy 5 none 1 24)   (σ : St) (x4 : Int32) (s0 : Int32) : Sm X ZM 5 none σ [(0, .ref (cq X 0)), (4, .int x4)] 79 [.int s0, .ref (cq X 8)] (m_M_triesBy_B79 σ x4 s0) := by
  unfold m_M_triesBy_B79
  refine s_aload_n C e_M_triesBy_79 rfl ?_
  refine s_get C fc_7 zm_lt_0 (zm_0 _ _ _) 15 (by decide) e_M_triesBy_80 g_587 rfl ?_
  refine s_iload C e_M_triesBy_83 rfl ?_
  refine s_iconst C e_M_triesBy_85 (v := (5 : Int32)) ic_5 ?_
  refine s_iadd C e_M_triesBy_86 ?_
  refine s_iald C (za_lt isA8) (za isA8) e_M_triesBy_87 ?_
  refine s_goto (tgt := 93) C e_M_triesBy_88 rfl ?_
  refine s_iast C (za_lt isA8) (za isA8) e_M_triesBy_93 (fun σ1 => ?_)
  refine s_goto (tgt := 159) C e_M_triesBy_94 rfl ?_
  exact s_vret C e_M_triesBy_159
set_option maxRecDepth 100000 in
theorem w_M_triesBy {X : CX} (C : Cx X ZM RX7 cX7_triesBy 5 none 1 24)  (σ : St) (x1 : Int32) (x2 : Int32) (x3 : Int32) : Sm X ZM 5 none σ [(0, .ref (cq X 0)), (1, .int x1), (2, .int x2), (3, .int x3)] 0 [] (m_M_triesBy σ x1 x2 x3) := by
  unfold m_M_triesBy
  refine s_bipush C e_M_triesBy_0 (v := (22 : Int32)) bp_22 ?_
  refine s_bipush C e_M_triesBy_2 (v := (6 : Int32)) bp_6 ?_
  refine s_iload_n C e_M_triesBy_4 rfl ?_
  refine s_imul C e_M_triesBy_5 ?_
  refine s_iadd C e_M_triesBy_6 ?_
  refine s_nm (fun y1 => ?_)
  refine s_istore C e_M_triesBy_7 (by decide) ?_
  refine s_aload_n C e_M_triesBy_9 rfl ?_
  refine s_get C fc_7 zm_lt_0 (zm_0 _ _ _) 13 (by decide) e_M_triesBy_10 g_535 rfl ?_
  refine s_iconst C e_M_triesBy_13 (v := (0 : Int32)) ic_0 ?_
  refine s_aload_n C e_M_triesBy_14 rfl ?_
  refine s_get C fc_7 zm_lt_0 (zm_0 _ _ _) 15 (by decide) e_M_triesBy_15 g_587 rfl ?_
  refine s_iconst C e_M_triesBy_18 (v := (0 : Int32)) ic_0 ?_
  refine s_callSv_4 C (c_M_copies C.inj isA6 isA8 _ _ _) wv_M_copies g_537 ⟨by decide, by decide⟩ rfl (Nat.le_of_ble_eq_true rfl) e_M_triesBy_19 (fun v2 σ3 => ?_)
  refine s_iload_n C e_M_triesBy_22 rfl ?_
  refine s_split (fun h23_0 => ?_) (fun h23_0 => ?_)
  · refine s_tabI (v := (0 : Int32)) (off := 25) (tgt := 48) C h23_0 e_M_triesBy_23 (by decide) (by decide) rfl rfl ?_
    refine s_aload_n C e_M_triesBy_48 rfl ?_
    refine s_get C fc_7 zm_lt_0 (zm_0 _ _ _) 15 (by decide) e_M_triesBy_49 g_587 rfl ?_
    refine s_iload C e_M_triesBy_52 rfl ?_
    refine s_iload_n C e_M_triesBy_54 rfl ?_
    refine s_iast C (za_lt isA8) (za isA8) e_M_triesBy_55 (fun σ4 => ?_)
    refine s_aload_n C e_M_triesBy_56 rfl ?_
    refine s_get C fc_7 zm_lt_0 (zm_0 _ _ _) 15 (by decide) e_M_triesBy_57 g_587 rfl ?_
    refine s_iload C e_M_triesBy_60 rfl ?_
    refine s_iconst C e_M_triesBy_62 (v := (4 : Int32)) ic_4 ?_
    refine s_iadd C e_M_triesBy_63 ?_
    refine s_aload_n C e_M_triesBy_64 rfl ?_
    refine s_get C fc_7 zm_lt_0 (zm_0 _ _ _) 15 (by decide) e_M_triesBy_65 g_587 rfl ?_
    refine s_iconst C e_M_triesBy_68 (v := (4 : Int32)) ic_4 ?_
    refine s_iald C (za_lt isA8) (za isA8) e_M_triesBy_69 ?_
    refine s_iconst C e_M_triesBy_70 (v := (1 : Int32)) ic_1 ?_
    refine s_icmp_eq (tgt := 79) C e_M_triesBy_71 rfl ?_ ?_
    · exact s_cut (w_M_triesBy_B79 C _ _ _) ⟨rfl, rfl, trivial⟩
    · refine s_iload_n C e_M_triesBy_74 rfl ?_
      refine s_iconst C e_M_triesBy_75 (v := (5 : Int32)) ic_5 ?_
      refine s_icmp_ne (tgt := 91) C e_M_triesBy_76 rfl ?_ ?_
      · exact s_cut (w_M_triesBy_B79 C _ _ _) ⟨rfl, rfl, trivial⟩
      · refine s_ldc C e_M_triesBy_91 g_452 ?_
        refine s_iast C (za_lt isA8) (za isA8) e_M_triesBy_93 (fun σ5 => ?_)
        refine s_goto (tgt := 159) C e_M_triesBy_94 rfl ?_
        exact s_vret C e_M_triesBy_159
  · skip
    refine s_split (fun h23_1 => ?_) (fun h23_1 => ?_)
    · refine s_tabI (v := (1 : Int32)) (off := 74) (tgt := 97) C h23_1 e_M_triesBy_23 (by decide) (by decide) rfl rfl ?_
      refine s_aload_n C e_M_triesBy_97 rfl ?_
      refine s_get C fc_7 zm_lt_0 (zm_0 _ _ _) 15 (by decide) e_M_triesBy_98 g_587 rfl ?_
      refine s_iconst C e_M_triesBy_101 (v := (0 : Int32)) ic_0 ?_
      refine s_iload_n C e_M_triesBy_102 rfl ?_
      refine s_iast C (za_lt isA8) (za isA8) e_M_triesBy_103 (fun σ6 => ?_)
      refine s_goto (tgt := 159) C e_M_triesBy_104 rfl ?_
      exact s_vret C e_M_triesBy_159
    · skip
      refine s_split (fun h23_2 => ?_) (fun h23_2 => ?_)
      · refine s_tabI (v := (2 : Int32)) (off := 84) (tgt := 107) C h23_2 e_M_triesBy_23 (by decide) (by decide) rfl rfl ?_
        refine s_aload_n C e_M_triesBy_107 rfl ?_
        refine s_get C fc_7 zm_lt_0 (zm_0 _ _ _) 15 (by decide) e_M_triesBy_108 g_587 rfl ?_
        refine s_iload C e_M_triesBy_111 rfl ?_
        refine s_iconst C e_M_triesBy_113 (v := (1 : Int32)) ic_1 ?_
        refine s_iadd C e_M_triesBy_114 ?_
        refine s_iload_n C e_M_triesBy_115 rfl ?_
        refine s_iast C (za_lt isA8) (za isA8) e_M_triesBy_116 (fun σ7 => ?_)
        refine s_goto (tgt := 159) C e_M_triesBy_117 rfl ?_
        exact s_vret C e_M_triesBy_159
      · skip
        have hx : x2.toInt < 0 ∨ 2 < x2.toInt := by
          have q0 := ne_i (z := 0) rfl h23_0
          have q1 := ne_i (z := 1) rfl h23_1
          have q2 := ne_i (z := 2) rfl h23_2
          omega
        refine s_tabO (tgt := 120) C e_M_triesBy_23 hx rfl ?_
        refine s_aload_n C e_M_triesBy_120 rfl ?_
        refine s_get C fc_7 zm_lt_0 (zm_0 _ _ _) 15 (by decide) e_M_triesBy_121 g_587 rfl ?_
        refine s_iload C e_M_triesBy_124 rfl ?_
        refine s_iconst C e_M_triesBy_126 (v := (5 : Int32)) ic_5 ?_
        refine s_iadd C e_M_triesBy_127 ?_
        refine s_iload_n C e_M_triesBy_128 rfl ?_
        refine s_iast C (za_lt isA8) (za isA8) e_M_triesBy_129 (fun σ8 => ?_)
        refine s_aload_n C e_M_triesBy_130 rfl ?_
        refine s_get C fc_7 zm_lt_0 (zm_0 _ _ _) 15 (by decide) e_M_triesBy_131 g_587 rfl ?_
        refine s_iload C e_M_triesBy_134 rfl ?_
        refine s_iconst C e_M_triesBy_136 (v := (4 : Int32)) ic_4 ?_
        refine s_iadd C e_M_triesBy_137 ?_
        refine s_aload_n C e_M_triesBy_138 rfl ?_
        refine s_get C fc_7 zm_lt_0 (zm_0 _ _ _) 15 (by decide) e_M_triesBy_139 g_587 rfl ?_
        refine s_iload C e_M_triesBy_142 rfl ?_
        refine s_iconst C e_M_triesBy_144 (v := (4 : Int32)) ic_4 ?_
        refine s_iadd C e_M_triesBy_145 ?_
        refine s_iald C (za_lt isA8) (za isA8) e_M_triesBy_146 ?_
        refine s_ldc C e_M_triesBy_147 g_452 ?_
        refine s_icmp_ne (tgt := 157) C e_M_triesBy_149 rfl ?_ ?_
        · refine s_ldc C e_M_triesBy_152 g_452 ?_
          refine s_goto (tgt := 158) C e_M_triesBy_154 rfl ?_
          refine s_iast C (za_lt isA8) (za isA8) e_M_triesBy_158 (fun σ10 => ?_)
          exact s_vret C e_M_triesBy_159
        · refine s_iload_n C e_M_triesBy_157 rfl ?_
          refine s_iast C (za_lt isA8) (za isA8) e_M_triesBy_158 (fun σ9 => ?_)
          exact s_vret C e_M_triesBy_159
theorem c_M_triesBy {l : Launch} {D : va_G} {k : Nat → ClassId} {q : Nat → Nat} (hq : Inj ZM q)  (σ : St) (x1 : Int32) (x2 : Int32) (x3 : Int32) : Ct l ZM D k q yX7_triesBy cX7_triesBy 5 none 1 24 [.ref (q 0), .int x1, .int x2, .int x3] σ (m_M_triesBy σ x1 x2 x3) :=
  Ct_of hq lcM (by decide) (Nat.le_of_ble_eq_true rfl) (fun _ _ _ _ _ _ _ _ _ _ C => w_M_triesBy C σ x1 x2 x3)
set_option maxRecDepth 100000 in
theorem w_M_fits_B153 {X : CX} (C : Cx X ZM RX7 cX7_fits 8 (some .int) 6 134)  (r85 : St → Int32 → Int32 → Int32 → Int32 → Int32 → Int32 → Int32 → Rt) (hr85 : ∀ (σ : St) (x1 : Int32) (x2 : Int32) (x3 : Int32) (x4 : Int32) (x5 : Int32) (x6 : Int32) (x7 : Int32), Sm X ZM 8 (some .int) σ [(0, .ref (cq X 0)), (1, .int x1), (2, .int x2), (3, .int x3), (4, .int x4), (5, .int x5), (6, .int x6), (7, .int x7)] 85 [] (r85 σ x1 x2 x3 x4 x5 x6 x7)) (σ : St) (x1 : Int32) (x2 : Int32) (x3 : Int32) (x4 : Int32) (x5 : Int32) (x7 : Int32) (s0 : Int32) (s1 : Int32) : Sm X ZM 8 (some .int) σ [(0, .ref (cq X 0)), (1, .int x1), (2, .int x2), (3, .int x3), (4, .int x4), (5, .int x5), (7, .int x7)] 153 [.int s0, .int s1] (m_M_fits_B153 r85 σ x1 x2 x3 x4 x5 x7 s0 s1) := by
  unfold m_M_fits_B153
  refine s_ior C e_M_fits_153 ?_
  refine s_nm (fun y1 => ?_)
  refine s_istore C e_M_fits_154 (by decide) ?_
  refine s_iinc C e_M_fits_156 (v := (1 : Int32)) rfl (by decide) ii_1 ?_
  refine s_goto (tgt := 85) C e_M_fits_159 rfl ?_
  exact s_cut (hr85 _ _ _ _ _ _ _ _) ⟨rfl, rfl, rfl, rfl, rfl, rfl, rfl, rfl, trivial⟩
set_option maxRecDepth 100000 in
theorem w_M_fits_B162 {X : CX} (C : Cx X ZM RX7 cX7_fits 8 (some .int) 6 134)   (σ : St) (x6 : Int32) : Sm X ZM 8 (some .int) σ [(0, .ref (cq X 0)), (6, .int x6)] 162 [] (m_M_fits_B162 σ x6) := by
  unfold m_M_fits_B162
  refine s_aload_n C e_M_fits_162 rfl ?_
  refine s_iload C e_M_fits_163 rfl ?_
  refine s_callV_1 C (c_M_well C.inj _ _) wv_M_well g_463 ⟨by decide, by decide⟩ fc_7 rfl zm_lt_0 (zm_0 _ _ _) rfl (Nat.le_of_ble_eq_true rfl) e_M_fits_165 (fun v1 σ2 => ?_)
  exact s_iret C e_M_fits_168
set_option maxRecDepth 100000 in
theorem w_M_fits_B115 {X : CX} (C : Cx X ZM RX7 cX7_fits 8 (some .int) 6 134)  (r85 : St → Int32 → Int32 → Int32 → Int32 → Int32 → Int32 → Int32 → Rt) (hr85 : ∀ (σ : St) (x1 : Int32) (x2 : Int32) (x3 : Int32) (x4 : Int32) (x5 : Int32) (x6 : Int32) (x7 : Int32), Sm X ZM 8 (some .int) σ [(0, .ref (cq X 0)), (1, .int x1), (2, .int x2), (3, .int x3), (4, .int x4), (5, .int x5), (6, .int x6), (7, .int x7)] 85 [] (r85 σ x1 x2 x3 x4 x5 x6 x7)) (σ : St) (x1 : Int32) (x2 : Int32) (x3 : Int32) (x4 : Int32) (x5 : Int32) (x6 : Int32) (x7 : Int32) (s0 : Int32) (s1 : Int32) : Sm X ZM 8 (some .int) σ [(0, .ref (cq X 0)), (1, .int x1), (2, .int x2), (3, .int x3), (4, .int x4), (5, .int x5), (6, .int x6), (7, .int x7)] 115 [.int s0, .int s1] (m_M_fits_B115 r85 σ x1 x2 x3 x4 x5 x6 x7 s0 s1) := by
  unfold m_M_fits_B115
  refine s_icmp_gt (tgt := 162) C e_M_fits_115 rfl ?_ ?_
  · exact s_cut (w_M_fits_B162 C _ _) ⟨rfl, rfl, trivial⟩
  · refine s_aload_n C e_M_fits_118 rfl ?_
    refine s_iload_n C e_M_fits_119 rfl ?_
    refine s_iload C e_M_fits_120 rfl ?_
    refine s_iload C e_M_fits_122 rfl ?_
    refine s_callVv_3 C (c_M_triesBy C.inj _ _ _ _) wv_M_triesBy g_617 ⟨by decide, by decide⟩ fc_7 rfl zm_lt_0 (zm_0 _ _ _) rfl (Nat.le_of_ble_eq_true rfl) e_M_fits_124 (fun v1 σ2 => ?_)
    refine s_iload C e_M_fits_127 rfl ?_
    refine s_aload_n C e_M_fits_129 rfl ?_
    refine s_iload_n C e_M_fits_130 rfl ?_
    refine s_bipush C e_M_fits_131 (v := (40 : Int32)) bp_40 ?_
    refine s_iload_n C e_M_fits_133 rfl ?_
    refine s_imul C e_M_fits_134 ?_
    refine s_iload_n C e_M_fits_135 rfl ?_
    refine s_iadd C e_M_fits_136 ?_
    refine s_iload C e_M_fits_137 rfl ?_
    refine s_callV_3 C (c_M_isSeen C.inj _ _ _ _) wv_M_isSeen g_613 ⟨by decide, by decide⟩ fc_7 rfl zm_lt_0 (zm_0 _ _ _) rfl (Nat.le_of_ble_eq_true rfl) e_M_fits_139 (fun v3 σ4 => ?_)
    refine s_if_eq (tgt := 152) C e_M_fits_142 rfl ?_ ?_
    · refine s_iconst C e_M_fits_152 (v := (0 : Int32)) ic_0 ?_
      exact s_cut (w_M_fits_B153 C r85 hr85 _ _ _ _ _ _ _ _ _) ⟨rfl, rfl, rfl, rfl, rfl, rfl, rfl, trivial⟩
    · refine s_iconst C e_M_fits_145 (v := (1 : Int32)) ic_1 ?_
      refine s_iload C e_M_fits_146 rfl ?_
      refine s_ishl C e_M_fits_148 ?_
      refine s_goto (tgt := 153) C e_M_fits_149 rfl ?_
      exact s_cut (w_M_fits_B153 C r85 hr85 _ _ _ _ _ _ _ _ _) ⟨rfl, rfl, rfl, rfl, rfl, rfl, rfl, trivial⟩
set_option maxRecDepth 100000 in
theorem w_M_fits_B85 {X : CX} (C : Cx X ZM RX7 cX7_fits 8 (some .int) 6 134)  (r85 : St → Int32 → Int32 → Int32 → Int32 → Int32 → Int32 → Int32 → Rt) (hr85 : ∀ (σ : St) (x1 : Int32) (x2 : Int32) (x3 : Int32) (x4 : Int32) (x5 : Int32) (x6 : Int32) (x7 : Int32), Sm X ZM 8 (some .int) σ [(0, .ref (cq X 0)), (1, .int x1), (2, .int x2), (3, .int x3), (4, .int x4), (5, .int x5), (6, .int x6), (7, .int x7)] 85 [] (r85 σ x1 x2 x3 x4 x5 x6 x7)) (σ : St) (x1 : Int32) (x2 : Int32) (x3 : Int32) (x4 : Int32) (x5 : Int32) (x6 : Int32) (x7 : Int32) : Sm X ZM 8 (some .int) σ [(0, .ref (cq X 0)), (1, .int x1), (2, .int x2), (3, .int x3), (4, .int x4), (5, .int x5), (6, .int x6), (7, .int x7)] 85 [] (m_M_fits_B85 r85 σ x1 x2 x3 x4 x5 x6 x7) := by
  unfold m_M_fits_B85
  refine s_iload C e_M_fits_85 rfl ?_
  refine s_iload C e_M_fits_87 rfl ?_
  refine s_if_ne (tgt := 96) C e_M_fits_89 rfl ?_ ?_
  · refine s_iconst C e_M_fits_92 (v := (5 : Int32)) ic_5 ?_
    refine s_goto (tgt := 115) C e_M_fits_93 rfl ?_
    exact s_cut (w_M_fits_B115 C r85 hr85 _ _ _ _ _ _ _ _ _ _) ⟨rfl, rfl, rfl, rfl, rfl, rfl, rfl, rfl, trivial⟩
  · refine s_iload C e_M_fits_96 rfl ?_
    refine s_iconst C e_M_fits_98 (v := (1 : Int32)) ic_1 ?_
    refine s_icmp_ne (tgt := 107) C e_M_fits_99 rfl ?_ ?_
    · refine s_bipush C e_M_fits_102 (v := (15 : Int32)) bp_15 ?_
      refine s_goto (tgt := 115) C e_M_fits_104 rfl ?_
      exact s_cut (w_M_fits_B115 C r85 hr85 _ _ _ _ _ _ _ _ _ _) ⟨rfl, rfl, rfl, rfl, rfl, rfl, rfl, rfl, trivial⟩
    · refine s_aload_n C e_M_fits_107 rfl ?_
      refine s_get C fc_7 zm_lt_0 (zm_0 _ _ _) 13 (by decide) e_M_fits_108 g_535 rfl ?_
      refine s_iconst C e_M_fits_111 (v := (1 : Int32)) ic_1 ?_
      refine s_iald C (za_lt isA6) (za isA6) e_M_fits_112 ?_
      refine s_iconst C e_M_fits_113 (v := (1 : Int32)) ic_1 ?_
      refine s_isub C e_M_fits_114 ?_
      exact s_cut (w_M_fits_B115 C r85 hr85 _ _ _ _ _ _ _ _ _ _) ⟨rfl, rfl, rfl, rfl, rfl, rfl, rfl, rfl, trivial⟩
theorem w_M_fits_L85 {X : CX} (C : Cx X ZM RX7 cX7_fits 8 (some .int) 6 134)   : ∀ (n : Nat) (σ : St) (x1 : Int32) (x2 : Int32) (x3 : Int32) (x4 : Int32) (x5 : Int32) (x6 : Int32) (x7 : Int32), Sm X ZM 8 (some .int) σ [(0, .ref (cq X 0)), (1, .int x1), (2, .int x2), (3, .int x3), (4, .int x4), (5, .int x5), (6, .int x6), (7, .int x7)] 85 [] (m_M_fits_L85 n σ x1 x2 x3 x4 x5 x6 x7)
  | 0, _, _, _, _, _, _, _, _ => s_none
  | n + 1, σ, x1, x2, x3, x4, x5, x6, x7 => w_M_fits_B85 C (m_M_fits_L85 n) (w_M_fits_L85 C n) σ x1 x2 x3 x4 x5 x6 x7
set_option maxRecDepth 100000 in
theorem w_M_fits_B83 {X : CX} (C : Cx X ZM RX7 cX7_fits 8 (some .int) 6 134)   (σ : St) (x1 : Int32) (x2 : Int32) (x3 : Int32) (x4 : Int32) (x5 : Int32) (x6 : Int32) (s0 : Int32) : Sm X ZM 8 (some .int) σ [(0, .ref (cq X 0)), (1, .int x1), (2, .int x2), (3, .int x3), (4, .int x4), (5, .int x5), (6, .int x6)] 83 [.int s0] (m_M_fits_B83 σ x1 x2 x3 x4 x5 x6 s0) := by
  unfold m_M_fits_B83
  refine s_istore C e_M_fits_83 (by decide) ?_
  exact s_cut (w_M_fits_L85 C FU _ _ _ _ _ _ _ _) ⟨rfl, rfl, rfl, rfl, rfl, rfl, rfl, rfl, trivial⟩
set_option maxRecDepth 100000 in
theorem w_M_fits {X : CX} (C : Cx X ZM RX7 cX7_fits 8 (some .int) 6 134)  (σ : St) (x1 : Int32) (x2 : Int32) (x3 : Int32) (x4 : Int32) (x5 : Int32) : Sm X ZM 8 (some .int) σ [(0, .ref (cq X 0)), (1, .int x1), (2, .int x2), (3, .int x3), (4, .int x4), (5, .int x5)] 0 [] (m_M_fits σ x1 x2 x3 x4 x5) := by
  unfold m_M_fits
  refine s_aload_n C e_M_fits_0 rfl ?_
  refine s_iload_n C e_M_fits_1 rfl ?_
  refine s_callV_1 C (c_M_isPin C.inj _ _) wv_M_isPin g_583 ⟨by decide, by decide⟩ fc_7 rfl zm_lt_0 (zm_0 _ _ _) rfl (Nat.le_of_ble_eq_true rfl) e_M_fits_2 (fun v1 σ2 => ?_)
  refine s_if_eq (tgt := 36) C e_M_fits_5 rfl ?_ ?_
  · refine s_ldc C e_M_fits_36 g_453 ?_
    exact s_iret C e_M_fits_38
  · refine s_iload_n C e_M_fits_8 rfl ?_
    refine s_callS_1 C (c_M_isRow C.inj _ _) wv_M_isRow g_459 ⟨by decide, by decide⟩ rfl (Nat.le_of_ble_eq_true rfl) e_M_fits_9 (fun v3 σ4 => ?_)
    refine s_if_eq (tgt := 36) C e_M_fits_12 rfl ?_ ?_
    · refine s_ldc C e_M_fits_36 g_453 ?_
      exact s_iret C e_M_fits_38
    · refine s_iload C e_M_fits_15 rfl ?_
      refine s_iconst C e_M_fits_17 (v := (1 : Int32)) ic_1 ?_
      refine s_bipush C e_M_fits_18 (v := (12 : Int32)) bp_12 ?_
      refine s_callS_3 C (c_M_in C.inj _ _ _ _) wv_M_in g_447 ⟨by decide, by decide⟩ rfl (Nat.le_of_ble_eq_true rfl) e_M_fits_20 (fun v5 σ6 => ?_)
      refine s_if_eq (tgt := 36) C e_M_fits_23 rfl ?_ ?_
      · refine s_ldc C e_M_fits_36 g_453 ?_
        exact s_iret C e_M_fits_38
      · refine s_iload C e_M_fits_26 rfl ?_
        refine s_iconst C e_M_fits_28 (v := (0 : Int32)) ic_0 ?_
        refine s_iconst C e_M_fits_29 (v := (3 : Int32)) ic_3 ?_
        refine s_callS_3 C (c_M_in C.inj _ _ _ _) wv_M_in g_447 ⟨by decide, by decide⟩ rfl (Nat.le_of_ble_eq_true rfl) e_M_fits_30 (fun v7 σ8 => ?_)
        refine s_if_ne (tgt := 39) C e_M_fits_33 rfl ?_ ?_
        · refine s_ldc C e_M_fits_36 g_453 ?_
          exact s_iret C e_M_fits_38
        · refine s_aload_n C e_M_fits_39 rfl ?_
          refine s_iload_n C e_M_fits_40 rfl ?_
          refine s_callV_1 C (c_M_isMissing C.inj _ _) wv_M_isMissing g_470 ⟨by decide, by decide⟩ fc_7 rfl zm_lt_0 (zm_0 _ _ _) rfl (Nat.le_of_ble_eq_true rfl) e_M_fits_41 (fun v9 σ10 => ?_)
          refine s_if_eq (tgt := 53) C e_M_fits_44 rfl ?_ ?_
          · refine s_aload_n C e_M_fits_53 rfl ?_
            refine s_iload_n C e_M_fits_54 rfl ?_
            refine s_iload_n C e_M_fits_55 rfl ?_
            refine s_iload C e_M_fits_56 rfl ?_
            refine s_callV_3 C (c_M_isPart C.inj _ _ _ _) wv_M_isPart g_474 ⟨by decide, by decide⟩ fc_7 rfl zm_lt_0 (zm_0 _ _ _) rfl (Nat.le_of_ble_eq_true rfl) e_M_fits_58 (fun v11 σ12 => ?_)
            refine s_if_ne (tgt := 70) C e_M_fits_61 rfl ?_ ?_
            · refine s_aload_n C e_M_fits_64 rfl ?_
              refine s_iconst C e_M_fits_65 (v := (2 : Int32)) ic_2 ?_
              refine s_callV_1 C (c_M_found C.inj _ _) wv_M_found g_455 ⟨by decide, by decide⟩ fc_7 rfl zm_lt_0 (zm_0 _ _ _) rfl (Nat.le_of_ble_eq_true rfl) e_M_fits_66 (fun v13 σ14 => ?_)
              exact s_iret C e_M_fits_69
            · refine s_iconst C e_M_fits_70 (v := (0 : Int32)) ic_0 ?_
              refine s_istore C e_M_fits_71 (by decide) ?_
              refine s_iload C e_M_fits_73 rfl ?_
              refine s_if_ne (tgt := 82) C e_M_fits_75 rfl ?_ ?_
              · refine s_iconst C e_M_fits_78 (v := (1 : Int32)) ic_1 ?_
                refine s_goto (tgt := 83) C e_M_fits_79 rfl ?_
                exact s_cut (w_M_fits_B83 C _ _ _ _ _ _ _ _) ⟨rfl, rfl, rfl, rfl, rfl, rfl, rfl, trivial⟩
              · refine s_iconst C e_M_fits_82 (v := (0 : Int32)) ic_0 ?_
                exact s_cut (w_M_fits_B83 C _ _ _ _ _ _ _ _) ⟨rfl, rfl, rfl, rfl, rfl, rfl, rfl, trivial⟩
          · refine s_aload_n C e_M_fits_47 rfl ?_
            refine s_iconst C e_M_fits_48 (v := (1 : Int32)) ic_1 ?_
            refine s_callV_1 C (c_M_found C.inj _ _) wv_M_found g_455 ⟨by decide, by decide⟩ fc_7 rfl zm_lt_0 (zm_0 _ _ _) rfl (Nat.le_of_ble_eq_true rfl) e_M_fits_49 (fun v15 σ16 => ?_)
            exact s_iret C e_M_fits_52
theorem c_M_fits {l : Launch} {D : va_G} {k : Nat → ClassId} {q : Nat → Nat} (hq : Inj ZM q)  (σ : St) (x1 : Int32) (x2 : Int32) (x3 : Int32) (x4 : Int32) (x5 : Int32) : Ct l ZM D k q yX7_fits cX7_fits 8 (some .int) 6 134 [.ref (q 0), .int x1, .int x2, .int x3, .int x4, .int x5] σ (m_M_fits σ x1 x2 x3 x4 x5) :=
  Ct_of hq lcM (by decide) (Nat.le_of_ble_eq_true rfl) (fun _ _ _ _ _ _ _ _ _ _ C => w_M_fits C σ x1 x2 x3 x4 x5)
set_option maxRecDepth 100000 in
theorem w_M_left_B172 {X : CX} (C : Cx X ZM RX7 cX7_left 10 (some .int) 3 69)  (r104 : St → Int32 → Int32 → Int32 → Int32 → Int32 → Int32 → Int32 → Rt) (hr104 : ∀ (σ : St) (x1 : Int32) (x2 : Int32) (x3 : Int32) (x4 : Int32) (x5 : Int32) (x6 : Int32) (x7 : Int32), Sm X ZM 10 (some .int) σ [(0, .ref (cq X 0)), (1, .int x1), (2, .int x2), (3, .int x3), (4, .int x4), (5, .int x5), (6, .int x6), (7, .int x7)] 104 [] (r104 σ x1 x2 x3 x4 x5 x6 x7)) (r127 : St → Int32 → Int32 → Int32 → Int32 → Int32 → Int32 → Int32 → Int32 → Int32 → Rt) (hr127 : ∀ (σ : St) (x1 : Int32) (x2 : Int32) (x3 : Int32) (x4 : Int32) (x5 : Int32) (x6 : Int32) (x7 : Int32) (x8 : Int32) (x9 : Int32), Sm X ZM 10 (some .int) σ [(0, .ref (cq X 0)), (1, .int x1), (2, .int x2), (3, .int x3), (4, .int x4), (5, .int x5), (6, .int x6), (7, .int x7), (8, .int x8), (9, .int x9)] 127 [] (r127 σ x1 x2 x3 x4 x5 x6 x7 x8 x9)) (σ : St) (x1 : Int32) (x2 : Int32) (x3 : Int32) (x4 : Int32) (x5 : Int32) (x6 : Int32) (x7 : Int32) (x9 : Int32) (s0 : Int32) (s1 : Int32) : Sm X ZM 10 (some .int) σ [(0, .ref (cq X 0)), (1, .int x1), (2, .int x2), (3, .int x3), (4, .int x4), (5, .int x5), (6, .int x6), (7, .int x7), (9, .int x9)] 172 [.int s0, .int s1] (m_M_left_B172 r104 r127 σ x1 x2 x3 x4 x5 x6 x7 x9 s0 s1) := by
  unfold m_M_left_B172
  refine s_imul C e_M_left_172 ?_
  refine s_nm (fun y1 => ?_)
  refine s_istore C e_M_left_173 (by decide) ?_
  refine s_iinc C e_M_left_175 (v := (1 : Int32)) rfl (by decide) ii_1 ?_
  refine s_goto (tgt := 127) C e_M_left_178 rfl ?_
  exact s_cut (hr127 _ _ _ _ _ _ _ _ _ _) ⟨rfl, rfl, rfl, rfl, rfl, rfl, rfl, rfl, rfl, rfl, trivial⟩
set_option maxRecDepth 100000 in
theorem w_M_left_B242 {X : CX} (C : Cx X ZM RX7 cX7_left 10 (some .int) 3 69)  (r104 : St → Int32 → Int32 → Int32 → Int32 → Int32 → Int32 → Int32 → Rt) (hr104 : ∀ (σ : St) (x1 : Int32) (x2 : Int32) (x3 : Int32) (x4 : Int32) (x5 : Int32) (x6 : Int32) (x7 : Int32), Sm X ZM 10 (some .int) σ [(0, .ref (cq X 0)), (1, .int x1), (2, .int x2), (3, .int x3), (4, .int x4), (5, .int x5), (6, .int x6), (7, .int x7)] 104 [] (r104 σ x1 x2 x3 x4 x5 x6 x7)) (σ : St) (x1 : Int32) (x2 : Int32) (x3 : Int32) (x4 : Int32) (x5 : Int32) (x6 : Int32) (x7 : Int32) : Sm X ZM 10 (some .int) σ [(0, .ref (cq X 0)), (1, .int x1), (2, .int x2), (3, .int x3), (4, .int x4), (5, .int x5), (6, .int x6), (7, .int x7)] 242 [] (m_M_left_B242 r104 σ x1 x2 x3 x4 x5 x6 x7) := by
  unfold m_M_left_B242
  refine s_iinc C e_M_left_242 (v := (1 : Int32)) rfl (by decide) ii_1 ?_
  refine s_goto (tgt := 104) C e_M_left_245 rfl ?_
  exact s_cut (hr104 _ _ _ _ _ _ _ _) ⟨rfl, rfl, rfl, rfl, rfl, rfl, rfl, rfl, trivial⟩
set_option maxRecDepth 100000 in
theorem w_M_left_B239 {X : CX} (C : Cx X ZM RX7 cX7_left 10 (some .int) 3 69)  (r104 : St → Int32 → Int32 → Int32 → Int32 → Int32 → Int32 → Int32 → Rt) (hr104 : ∀ (σ : St) (x1 : Int32) (x2 : Int32) (x3 : Int32) (x4 : Int32) (x5 : Int32) (x6 : Int32) (x7 : Int32), Sm X ZM 10 (some .int) σ [(0, .ref (cq X 0)), (1, .int x1), (2, .int x2), (3, .int x3), (4, .int x4), (5, .int x5), (6, .int x6), (7, .int x7)] 104 [] (r104 σ x1 x2 x3 x4 x5 x6 x7)) (σ : St) (x1 : Int32) (x2 : Int32) (x3 : Int32) (x4 : Int32) (x6 : Int32) (x7 : Int32) (s0 : Int32) (s1 : Int32) : Sm X ZM 10 (some .int) σ [(0, .ref (cq X 0)), (1, .int x1), (2, .int x2), (3, .int x3), (4, .int x4), (6, .int x6), (7, .int x7)] 239 [.int s0, .int s1] (m_M_left_B239 r104 σ x1 x2 x3 x4 x6 x7 s0 s1) := by
  unfold m_M_left_B239
  refine s_iadd C e_M_left_239 ?_
  refine s_nm (fun y1 => ?_)
  refine s_istore C e_M_left_240 (by decide) ?_
  exact s_cut (w_M_left_B242 C r104 hr104 _ _ _ _ _ _ _ _) ⟨rfl, rfl, rfl, rfl, rfl, rfl, rfl, rfl, trivial⟩
set_option maxRecDepth 100000 in
theorem w_M_left_B211 {X : CX} (C : Cx X ZM RX7 cX7_left 10 (some .int) 3 69)  (r104 : St → Int32 → Int32 → Int32 → Int32 → Int32 → Int32 → Int32 → Rt) (hr104 : ∀ (σ : St) (x1 : Int32) (x2 : Int32) (x3 : Int32) (x4 : Int32) (x5 : Int32) (x6 : Int32) (x7 : Int32), Sm X ZM 10 (some .int) σ [(0, .ref (cq X 0)), (1, .int x1), (2, .int x2), (3, .int x3), (4, .int x4), (5, .int x5), (6, .int x6), (7, .int x7)] 104 [] (r104 σ x1 x2 x3 x4 x5 x6 x7)) (σ : St) (x1 : Int32) (x2 : Int32) (x3 : Int32) (x4 : Int32) (x5 : Int32) (x6 : Int32) (x7 : Int32) (x8 : Int32) : Sm X ZM 10 (some .int) σ [(0, .ref (cq X 0)), (1, .int x1), (2, .int x2), (3, .int x3), (4, .int x4), (5, .int x5), (6, .int x6), (7, .int x7), (8, .int x8)] 211 [] (m_M_left_B211 r104 σ x1 x2 x3 x4 x5 x6 x7 x8) := by
  unfold m_M_left_B211
  refine s_aload_n C e_M_left_211 rfl ?_
  refine s_get C fc_7 zm_lt_0 (zm_0 _ _ _) 15 (by decide) e_M_left_212 g_587 rfl ?_
  refine s_iload C e_M_left_215 rfl ?_
  refine s_callSv_2 C (c_M_opens C.inj isA8 _ _) wv_M_opens g_557 ⟨by decide, by decide⟩ rfl (Nat.le_of_ble_eq_true rfl) e_M_left_217 (fun v1 σ2 => ?_)
  refine s_iload C e_M_left_220 rfl ?_
  refine s_aload_n C e_M_left_222 rfl ?_
  refine s_get C fc_7 zm_lt_0 (zm_0 _ _ _) 15 (by decide) e_M_left_223 g_587 rfl ?_
  refine s_iload_n C e_M_left_226 rfl ?_
  refine s_callS_2 C (c_M_inCell C.inj isA8 _ _) wv_M_inCell g_541 ⟨by decide, by decide⟩ rfl (Nat.le_of_ble_eq_true rfl) e_M_left_227 (fun v3 σ4 => ?_)
  refine s_if_le (tgt := 238) C e_M_left_230 rfl ?_ ?_
  · refine s_iconst C e_M_left_238 (v := (0 : Int32)) ic_0 ?_
    exact s_cut (w_M_left_B239 C r104 hr104 _ _ _ _ _ _ _ _ _) ⟨rfl, rfl, rfl, rfl, rfl, rfl, rfl, trivial⟩
  · refine s_iload C e_M_left_233 rfl ?_
    refine s_goto (tgt := 239) C e_M_left_235 rfl ?_
    exact s_cut (w_M_left_B239 C r104 hr104 _ _ _ _ _ _ _ _ _) ⟨rfl, rfl, rfl, rfl, rfl, rfl, rfl, trivial⟩
set_option maxRecDepth 100000 in
theorem w_M_left_B181 {X : CX} (C : Cx X ZM RX7 cX7_left 10 (some .int) 3 69)  (r104 : St → Int32 → Int32 → Int32 → Int32 → Int32 → Int32 → Int32 → Rt) (hr104 : ∀ (σ : St) (x1 : Int32) (x2 : Int32) (x3 : Int32) (x4 : Int32) (x5 : Int32) (x6 : Int32) (x7 : Int32), Sm X ZM 10 (some .int) σ [(0, .ref (cq X 0)), (1, .int x1), (2, .int x2), (3, .int x3), (4, .int x4), (5, .int x5), (6, .int x6), (7, .int x7)] 104 [] (r104 σ x1 x2 x3 x4 x5 x6 x7)) (σ : St) (x1 : Int32) (x2 : Int32) (x3 : Int32) (x4 : Int32) (x5 : Int32) (x6 : Int32) (x7 : Int32) (x8 : Int32) : Sm X ZM 10 (some .int) σ [(0, .ref (cq X 0)), (1, .int x1), (2, .int x2), (3, .int x3), (4, .int x4), (5, .int x5), (6, .int x6), (7, .int x7), (8, .int x8)] 181 [] (m_M_left_B181 r104 σ x1 x2 x3 x4 x5 x6 x7 x8) := by
  unfold m_M_left_B181
  refine s_aload_n C e_M_left_181 rfl ?_
  refine s_get C fc_7 zm_lt_0 (zm_0 _ _ _) 13 (by decide) e_M_left_182 g_535 rfl ?_
  refine s_iconst C e_M_left_185 (v := (0 : Int32)) ic_0 ?_
  refine s_aload_n C e_M_left_186 rfl ?_
  refine s_get C fc_7 zm_lt_0 (zm_0 _ _ _) 15 (by decide) e_M_left_187 g_587 rfl ?_
  refine s_iconst C e_M_left_190 (v := (0 : Int32)) ic_0 ?_
  refine s_callSv_4 C (c_M_copies C.inj isA6 isA8 _ _ _) wv_M_copies g_537 ⟨by decide, by decide⟩ rfl (Nat.le_of_ble_eq_true rfl) e_M_left_191 (fun v1 σ2 => ?_)
  refine s_aload_n C e_M_left_194 rfl ?_
  refine s_get C fc_7 zm_lt_0 (zm_0 _ _ _) 13 (by decide) e_M_left_195 g_535 rfl ?_
  refine s_iconst C e_M_left_198 (v := (4 : Int32)) ic_4 ?_
  refine s_iald C (za_lt isA6) (za isA6) e_M_left_199 ?_
  refine s_iconst C e_M_left_200 (v := (1 : Int32)) ic_1 ?_
  refine s_icmp_ne (tgt := 211) C e_M_left_201 rfl ?_ ?_
  · refine s_aload_n C e_M_left_204 rfl ?_
    refine s_get C fc_7 zm_lt_0 (zm_0 _ _ _) 15 (by decide) e_M_left_205 g_587 rfl ?_
    refine s_callSv_1 C (c_M_closes C.inj isA8 _) wv_M_closes g_560 ⟨by decide, by decide⟩ rfl (Nat.le_of_ble_eq_true rfl) e_M_left_208 (fun v3 σ4 => ?_)
    exact s_cut (w_M_left_B211 C r104 hr104 _ _ _ _ _ _ _ _ _) ⟨rfl, rfl, rfl, rfl, rfl, rfl, rfl, rfl, rfl, trivial⟩
  · exact s_cut (w_M_left_B211 C r104 hr104 _ _ _ _ _ _ _ _ _) ⟨rfl, rfl, rfl, rfl, rfl, rfl, rfl, rfl, rfl, trivial⟩
set_option maxRecDepth 100000 in
theorem w_M_left_B127 {X : CX} (C : Cx X ZM RX7 cX7_left 10 (some .int) 3 69)  (r104 : St → Int32 → Int32 → Int32 → Int32 → Int32 → Int32 → Int32 → Rt) (hr104 : ∀ (σ : St) (x1 : Int32) (x2 : Int32) (x3 : Int32) (x4 : Int32) (x5 : Int32) (x6 : Int32) (x7 : Int32), Sm X ZM 10 (some .int) σ [(0, .ref (cq X 0)), (1, .int x1), (2, .int x2), (3, .int x3), (4, .int x4), (5, .int x5), (6, .int x6), (7, .int x7)] 104 [] (r104 σ x1 x2 x3 x4 x5 x6 x7)) (r127 : St → Int32 → Int32 → Int32 → Int32 → Int32 → Int32 → Int32 → Int32 → Int32 → Rt) (hr127 : ∀ (σ : St) (x1 : Int32) (x2 : Int32) (x3 : Int32) (x4 : Int32) (x5 : Int32) (x6 : Int32) (x7 : Int32) (x8 : Int32) (x9 : Int32), Sm X ZM 10 (some .int) σ [(0, .ref (cq X 0)), (1, .int x1), (2, .int x2), (3, .int x3), (4, .int x4), (5, .int x5), (6, .int x6), (7, .int x7), (8, .int x8), (9, .int x9)] 127 [] (r127 σ x1 x2 x3 x4 x5 x6 x7 x8 x9)) (σ : St) (x1 : Int32) (x2 : Int32) (x3 : Int32) (x4 : Int32) (x5 : Int32) (x6 : Int32) (x7 : Int32) (x8 : Int32) (x9 : Int32) : Sm X ZM 10 (some .int) σ [(0, .ref (cq X 0)), (1, .int x1), (2, .int x2), (3, .int x3), (4, .int x4), (5, .int x5), (6, .int x6), (7, .int x7), (8, .int x8), (9, .int x9)] 127 [] (m_M_left_B127 r104 r127 σ x1 x2 x3 x4 x5 x6 x7 x8 x9) := by
  unfold m_M_left_B127
  refine s_iload C e_M_left_127 rfl ?_
  refine s_aload_n C e_M_left_129 rfl ?_
  refine s_get C fc_7 zm_lt_0 (zm_0 _ _ _) 13 (by decide) e_M_left_130 g_535 rfl ?_
  refine s_iconst C e_M_left_133 (v := (2 : Int32)) ic_2 ?_
  refine s_iald C (za_lt isA6) (za isA6) e_M_left_134 ?_
  refine s_icmp_ge (tgt := 181) C e_M_left_135 rfl ?_ ?_
  · exact s_cut (w_M_left_B181 C r104 hr104 _ _ _ _ _ _ _ _ _) ⟨rfl, rfl, rfl, rfl, rfl, rfl, rfl, rfl, rfl, trivial⟩
  · refine s_iload C e_M_left_138 rfl ?_
    refine s_iload C e_M_left_140 rfl ?_
    refine s_iload C e_M_left_142 rfl ?_
    refine s_callS_2 C (c_M_has C.inj _ _ _) wv_M_has g_550 ⟨by decide, by decide⟩ rfl (Nat.le_of_ble_eq_true rfl) e_M_left_144 (fun v1 σ2 => ?_)
    refine s_if_ne (tgt := 154) C e_M_left_147 rfl ?_ ?_
    · refine s_iconst C e_M_left_150 (v := (1 : Int32)) ic_1 ?_
      refine s_goto (tgt := 172) C e_M_left_151 rfl ?_
      exact s_cut (w_M_left_B172 C r104 hr104 r127 hr127 _ _ _ _ _ _ _ _ _ _ _) ⟨rfl, rfl, rfl, rfl, rfl, rfl, rfl, rfl, rfl, trivial⟩
    · refine s_iload C e_M_left_154 rfl ?_
      refine s_iload C e_M_left_156 rfl ?_
      refine s_callS_2 C (c_M_has C.inj _ _ _) wv_M_has g_550 ⟨by decide, by decide⟩ rfl (Nat.le_of_ble_eq_true rfl) e_M_left_158 (fun v3 σ4 => ?_)
      refine s_if_eq (tgt := 168) C e_M_left_161 rfl ?_ ?_
      · refine s_bipush C e_M_left_168 (v := (10 : Int32)) bp_10 ?_
        refine s_iload_n C e_M_left_170 rfl ?_
        refine s_isub C e_M_left_171 ?_
        exact s_cut (w_M_left_B172 C r104 hr104 r127 hr127 _ _ _ _ _ _ _ _ _ _ _) ⟨rfl, rfl, rfl, rfl, rfl, rfl, rfl, rfl, rfl, trivial⟩
      · refine s_iload_n C e_M_left_164 rfl ?_
        refine s_goto (tgt := 172) C e_M_left_165 rfl ?_
        exact s_cut (w_M_left_B172 C r104 hr104 r127 hr127 _ _ _ _ _ _ _ _ _ _ _) ⟨rfl, rfl, rfl, rfl, rfl, rfl, rfl, rfl, rfl, trivial⟩
theorem w_M_left_L127 {X : CX} (C : Cx X ZM RX7 cX7_left 10 (some .int) 3 69)  (r104 : St → Int32 → Int32 → Int32 → Int32 → Int32 → Int32 → Int32 → Rt) (hr104 : ∀ (σ : St) (x1 : Int32) (x2 : Int32) (x3 : Int32) (x4 : Int32) (x5 : Int32) (x6 : Int32) (x7 : Int32), Sm X ZM 10 (some .int) σ [(0, .ref (cq X 0)), (1, .int x1), (2, .int x2), (3, .int x3), (4, .int x4), (5, .int x5), (6, .int x6), (7, .int x7)] 104 [] (r104 σ x1 x2 x3 x4 x5 x6 x7)) : ∀ (n : Nat) (σ : St) (x1 : Int32) (x2 : Int32) (x3 : Int32) (x4 : Int32) (x5 : Int32) (x6 : Int32) (x7 : Int32) (x8 : Int32) (x9 : Int32), Sm X ZM 10 (some .int) σ [(0, .ref (cq X 0)), (1, .int x1), (2, .int x2), (3, .int x3), (4, .int x4), (5, .int x5), (6, .int x6), (7, .int x7), (8, .int x8), (9, .int x9)] 127 [] (m_M_left_L127 r104 n σ x1 x2 x3 x4 x5 x6 x7 x8 x9)
  | 0, _, _, _, _, _, _, _, _, _, _ => s_none
  | n + 1, σ, x1, x2, x3, x4, x5, x6, x7, x8, x9 => w_M_left_B127 C r104 hr104 (m_M_left_L127 r104 n) (w_M_left_L127 C r104 hr104 n) σ x1 x2 x3 x4 x5 x6 x7 x8 x9
set_option maxRecDepth 100000 in
theorem w_M_left_B279 {X : CX} (C : Cx X ZM RX7 cX7_left 10 (some .int) 3 69)   (σ : St) (x3 : Int32) (x5 : Int32) (x6 : Int32) (x7 : Int32) : Sm X ZM 10 (some .int) σ [(3, .int x3), (5, .int x5), (6, .int x6), (7, .int x7)] 279 [] (m_M_left_B279 σ x3 x5 x6 x7) := by
  unfold m_M_left_B279
  refine s_iload_n C e_M_left_279 rfl ?_
  refine s_if_ne (tgt := 288) C e_M_left_280 rfl ?_ ?_
  · refine s_iload C e_M_left_283 rfl ?_
    refine s_goto (tgt := 290) C e_M_left_285 rfl ?_
    refine s_iload C e_M_left_290 rfl ?_
    refine s_idiv C e_M_left_292 ?_
    exact s_iret C e_M_left_293
  · refine s_iload C e_M_left_288 rfl ?_
    refine s_iload C e_M_left_290 rfl ?_
    refine s_idiv C e_M_left_292 ?_
    exact s_iret C e_M_left_293
set_option maxRecDepth 100000 in
theorem w_M_left_B256 {X : CX} (C : Cx X ZM RX7 cX7_left 10 (some .int) 3 69)  (r256 : St → Int32 → Int32 → Int32 → Int32 → Int32 → Rt) (hr256 : ∀ (σ : St) (x3 : Int32) (x5 : Int32) (x6 : Int32) (x7 : Int32) (x8 : Int32), Sm X ZM 10 (some .int) σ [(3, .int x3), (5, .int x5), (6, .int x6), (7, .int x7), (8, .int x8)] 256 [] (r256 σ x3 x5 x6 x7 x8)) (σ : St) (x3 : Int32) (x5 : Int32) (x6 : Int32) (x7 : Int32) (x8 : Int32) : Sm X ZM 10 (some .int) σ [(3, .int x3), (5, .int x5), (6, .int x6), (7, .int x7), (8, .int x8)] 256 [] (m_M_left_B256 r256 σ x3 x5 x6 x7 x8) := by
  unfold m_M_left_B256
  refine s_iload C e_M_left_256 rfl ?_
  refine s_if_eq (tgt := 279) C e_M_left_258 rfl ?_ ?_
  · exact s_cut (w_M_left_B279 C _ _ _ _ _) ⟨rfl, rfl, rfl, rfl, trivial⟩
  · refine s_iload C e_M_left_261 rfl ?_
    refine s_iload C e_M_left_263 rfl ?_
    refine s_irem C e_M_left_265 ?_
    refine s_nm (fun y1 => ?_)
    refine s_istore C e_M_left_266 (by decide) ?_
    refine s_iload C e_M_left_268 rfl ?_
    refine s_istore C e_M_left_270 (by decide) ?_
    refine s_iload C e_M_left_272 rfl ?_
    refine s_istore C e_M_left_274 (by decide) ?_
    refine s_goto (tgt := 256) C e_M_left_276 rfl ?_
    exact s_cut (hr256 _ _ _ _ _ _) ⟨rfl, rfl, rfl, rfl, rfl, trivial⟩
theorem w_M_left_L256 {X : CX} (C : Cx X ZM RX7 cX7_left 10 (some .int) 3 69)   : ∀ (n : Nat) (σ : St) (x3 : Int32) (x5 : Int32) (x6 : Int32) (x7 : Int32) (x8 : Int32), Sm X ZM 10 (some .int) σ [(3, .int x3), (5, .int x5), (6, .int x6), (7, .int x7), (8, .int x8)] 256 [] (m_M_left_L256 n σ x3 x5 x6 x7 x8)
  | 0, _, _, _, _, _, _ => s_none
  | n + 1, σ, x3, x5, x6, x7, x8 => w_M_left_B256 C (m_M_left_L256 n) (w_M_left_L256 C n) σ x3 x5 x6 x7 x8
set_option maxRecDepth 100000 in
theorem w_M_left_B248 {X : CX} (C : Cx X ZM RX7 cX7_left 10 (some .int) 3 69)   (σ : St) (x3 : Int32) (x5 : Int32) (x6 : Int32) : Sm X ZM 10 (some .int) σ [(3, .int x3), (5, .int x5), (6, .int x6)] 248 [] (m_M_left_B248 σ x3 x5 x6) := by
  unfold m_M_left_B248
  refine s_iload C e_M_left_248 rfl ?_
  refine s_istore C e_M_left_250 (by decide) ?_
  refine s_iload C e_M_left_252 rfl ?_
  refine s_istore C e_M_left_254 (by decide) ?_
  exact s_cut (w_M_left_L256 C FU _ _ _ _ _ _) ⟨rfl, rfl, rfl, rfl, rfl, trivial⟩
set_option maxRecDepth 100000 in
theorem w_M_left_B104 {X : CX} (C : Cx X ZM RX7 cX7_left 10 (some .int) 3 69)  (r104 : St → Int32 → Int32 → Int32 → Int32 → Int32 → Int32 → Int32 → Rt) (hr104 : ∀ (σ : St) (x1 : Int32) (x2 : Int32) (x3 : Int32) (x4 : Int32) (x5 : Int32) (x6 : Int32) (x7 : Int32), Sm X ZM 10 (some .int) σ [(0, .ref (cq X 0)), (1, .int x1), (2, .int x2), (3, .int x3), (4, .int x4), (5, .int x5), (6, .int x6), (7, .int x7)] 104 [] (r104 σ x1 x2 x3 x4 x5 x6 x7)) (σ : St) (x1 : Int32) (x2 : Int32) (x3 : Int32) (x4 : Int32) (x5 : Int32) (x6 : Int32) (x7 : Int32) : Sm X ZM 10 (some .int) σ [(0, .ref (cq X 0)), (1, .int x1), (2, .int x2), (3, .int x3), (4, .int x4), (5, .int x5), (6, .int x6), (7, .int x7)] 104 [] (m_M_left_B104 r104 σ x1 x2 x3 x4 x5 x6 x7) := by
  unfold m_M_left_B104
  refine s_iload C e_M_left_104 rfl ?_
  refine s_iload C e_M_left_106 rfl ?_
  refine s_icmp_gt (tgt := 248) C e_M_left_108 rfl ?_ ?_
  · exact s_cut (w_M_left_B248 C _ _ _ _) ⟨rfl, rfl, rfl, trivial⟩
  · refine s_iload C e_M_left_111 rfl ?_
    refine s_iload C e_M_left_113 rfl ?_
    refine s_iconst C e_M_left_115 (v := (-1 : Int32)) ic_m1 ?_
    refine s_ixor C e_M_left_116 ?_
    refine s_iand C e_M_left_117 ?_
    refine s_if_ne (tgt := 242) C e_M_left_118 rfl ?_ ?_
    · refine s_iconst C e_M_left_121 (v := (1 : Int32)) ic_1 ?_
      refine s_istore C e_M_left_122 (by decide) ?_
      refine s_iconst C e_M_left_124 (v := (0 : Int32)) ic_0 ?_
      refine s_istore C e_M_left_125 (by decide) ?_
      exact s_cut (w_M_left_L127 C r104 hr104 FU _ _ _ _ _ _ _ _ _ _) ⟨rfl, rfl, rfl, rfl, rfl, rfl, rfl, rfl, rfl, rfl, trivial⟩
    · exact s_cut (w_M_left_B242 C r104 hr104 _ _ _ _ _ _ _ _) ⟨rfl, rfl, rfl, rfl, rfl, rfl, rfl, rfl, trivial⟩
theorem w_M_left_L104 {X : CX} (C : Cx X ZM RX7 cX7_left 10 (some .int) 3 69)   : ∀ (n : Nat) (σ : St) (x1 : Int32) (x2 : Int32) (x3 : Int32) (x4 : Int32) (x5 : Int32) (x6 : Int32) (x7 : Int32), Sm X ZM 10 (some .int) σ [(0, .ref (cq X 0)), (1, .int x1), (2, .int x2), (3, .int x3), (4, .int x4), (5, .int x5), (6, .int x6), (7, .int x7)] 104 [] (m_M_left_L104 n σ x1 x2 x3 x4 x5 x6 x7)
  | 0, _, _, _, _, _, _, _, _ => s_none
  | n + 1, σ, x1, x2, x3, x4, x5, x6, x7 => w_M_left_B104 C (m_M_left_L104 n) (w_M_left_L104 C n) σ x1 x2 x3 x4 x5 x6 x7
set_option maxRecDepth 100000 in
theorem w_M_left_B101 {X : CX} (C : Cx X ZM RX7 cX7_left 10 (some .int) 3 69)   (σ : St) (x1 : Int32) (x2 : Int32) (x3 : Int32) (x4 : Int32) (x5 : Int32) (x6 : Int32) : Sm X ZM 10 (some .int) σ [(0, .ref (cq X 0)), (1, .int x1), (2, .int x2), (3, .int x3), (4, .int x4), (5, .int x5), (6, .int x6)] 101 [] (m_M_left_B101 σ x1 x2 x3 x4 x5 x6) := by
  unfold m_M_left_B101
  refine s_iconst C e_M_left_101 (v := (0 : Int32)) ic_0 ?_
  refine s_istore C e_M_left_102 (by decide) ?_
  exact s_cut (w_M_left_L104 C FU _ _ _ _ _ _ _ _) ⟨rfl, rfl, rfl, rfl, rfl, rfl, rfl, rfl, trivial⟩
set_option maxRecDepth 100000 in
theorem w_M_left_B78 {X : CX} (C : Cx X ZM RX7 cX7_left 10 (some .int) 3 69)  (r78 : St → Int32 → Int32 → Int32 → Int32 → Int32 → Int32 → Int32 → Rt) (hr78 : ∀ (σ : St) (x1 : Int32) (x2 : Int32) (x3 : Int32) (x4 : Int32) (x5 : Int32) (x6 : Int32) (x7 : Int32), Sm X ZM 10 (some .int) σ [(0, .ref (cq X 0)), (1, .int x1), (2, .int x2), (3, .int x3), (4, .int x4), (5, .int x5), (6, .int x6), (7, .int x7)] 78 [] (r78 σ x1 x2 x3 x4 x5 x6 x7)) (σ : St) (x1 : Int32) (x2 : Int32) (x3 : Int32) (x4 : Int32) (x5 : Int32) (x6 : Int32) (x7 : Int32) : Sm X ZM 10 (some .int) σ [(0, .ref (cq X 0)), (1, .int x1), (2, .int x2), (3, .int x3), (4, .int x4), (5, .int x5), (6, .int x6), (7, .int x7)] 78 [] (m_M_left_B78 r78 σ x1 x2 x3 x4 x5 x6 x7) := by
  unfold m_M_left_B78
  refine s_iload C e_M_left_78 rfl ?_
  refine s_iload C e_M_left_80 rfl ?_
  refine s_callS_1 C (c_M_ones C.inj _ _) wv_M_ones g_553 ⟨by decide, by decide⟩ rfl (Nat.le_of_ble_eq_true rfl) e_M_left_82 (fun v1 σ2 => ?_)
  refine s_icmp_ge (tgt := 101) C e_M_left_85 rfl ?_ ?_
  · exact s_cut (w_M_left_B101 C _ _ _ _ _ _ _) ⟨rfl, rfl, rfl, rfl, rfl, rfl, rfl, trivial⟩
  · refine s_iload C e_M_left_88 rfl ?_
    refine s_bipush C e_M_left_90 (v := (10 : Int32)) bp_10 ?_
    refine s_imul C e_M_left_92 ?_
    refine s_nm (fun y3 => ?_)
    refine s_istore C e_M_left_93 (by decide) ?_
    refine s_iinc C e_M_left_95 (v := (1 : Int32)) rfl (by decide) ii_1 ?_
    refine s_goto (tgt := 78) C e_M_left_98 rfl ?_
    exact s_cut (hr78 _ _ _ _ _ _ _ _) ⟨rfl, rfl, rfl, rfl, rfl, rfl, rfl, rfl, trivial⟩
theorem w_M_left_L78 {X : CX} (C : Cx X ZM RX7 cX7_left 10 (some .int) 3 69)   : ∀ (n : Nat) (σ : St) (x1 : Int32) (x2 : Int32) (x3 : Int32) (x4 : Int32) (x5 : Int32) (x6 : Int32) (x7 : Int32), Sm X ZM 10 (some .int) σ [(0, .ref (cq X 0)), (1, .int x1), (2, .int x2), (3, .int x3), (4, .int x4), (5, .int x5), (6, .int x6), (7, .int x7)] 78 [] (m_M_left_L78 n σ x1 x2 x3 x4 x5 x6 x7)
  | 0, _, _, _, _, _, _, _, _ => s_none
  | n + 1, σ, x1, x2, x3, x4, x5, x6, x7 => w_M_left_B78 C (m_M_left_L78 n) (w_M_left_L78 C n) σ x1 x2 x3 x4 x5 x6 x7
set_option maxRecDepth 100000 in
theorem w_M_left_B60 {X : CX} (C : Cx X ZM RX7 cX7_left 10 (some .int) 3 69)   (σ : St) (x1 : Int32) (x2 : Int32) (x3 : Int32) : Sm X ZM 10 (some .int) σ [(0, .ref (cq X 0)), (1, .int x1), (2, .int x2), (3, .int x3)] 60 [] (m_M_left_B60 σ x1 x2 x3) := by
  unfold m_M_left_B60
  refine s_aload_n C e_M_left_60 rfl ?_
  refine s_get C fc_7 zm_lt_0 (zm_0 _ _ _) 15 (by decide) e_M_left_61 g_587 rfl ?_
  refine s_callS_1 C (c_M_inTray C.inj isA8 _) wv_M_inTray g_621 ⟨by decide, by decide⟩ rfl (Nat.le_of_ble_eq_true rfl) e_M_left_64 (fun v1 σ2 => ?_)
  refine s_istore C e_M_left_67 (by decide) ?_
  refine s_iconst C e_M_left_69 (v := (0 : Int32)) ic_0 ?_
  refine s_istore C e_M_left_70 (by decide) ?_
  refine s_iconst C e_M_left_72 (v := (1 : Int32)) ic_1 ?_
  refine s_istore C e_M_left_73 (by decide) ?_
  refine s_iconst C e_M_left_75 (v := (0 : Int32)) ic_0 ?_
  refine s_istore C e_M_left_76 (by decide) ?_
  exact s_cut (w_M_left_L78 C FU _ _ _ _ _ _ _ _) ⟨rfl, rfl, rfl, rfl, rfl, rfl, rfl, rfl, trivial⟩
set_option maxRecDepth 100000 in
theorem w_M_left {X : CX} (C : Cx X ZM RX7 cX7_left 10 (some .int) 3 69)  (σ : St) (x1 : Int32) (x2 : Int32) (x3 : Int32) : Sm X ZM 10 (some .int) σ [(0, .ref (cq X 0)), (1, .int x1), (2, .int x2), (3, .int x3)] 0 [] (m_M_left σ x1 x2 x3) := by
  unfold m_M_left
  refine s_aload_n C e_M_left_0 rfl ?_
  refine s_iload_n C e_M_left_1 rfl ?_
  refine s_callV_1 C (c_M_isCell C.inj _ _) wv_M_isCell g_579 ⟨by decide, by decide⟩ fc_7 rfl zm_lt_0 (zm_0 _ _ _) rfl (Nat.le_of_ble_eq_true rfl) e_M_left_2 (fun v1 σ2 => ?_)
  refine s_if_eq (tgt := 27) C e_M_left_5 rfl ?_ ?_
  · refine s_ldc C e_M_left_27 g_453 ?_
    exact s_iret C e_M_left_29
  · refine s_iload_n C e_M_left_8 rfl ?_
    refine s_iconst C e_M_left_9 (v := (0 : Int32)) ic_0 ?_
    refine s_bipush C e_M_left_10 (v := (10 : Int32)) bp_10 ?_
    refine s_callS_3 C (c_M_in C.inj _ _ _ _) wv_M_in g_447 ⟨by decide, by decide⟩ rfl (Nat.le_of_ble_eq_true rfl) e_M_left_12 (fun v3 σ4 => ?_)
    refine s_if_eq (tgt := 27) C e_M_left_15 rfl ?_ ?_
    · refine s_ldc C e_M_left_27 g_453 ?_
      exact s_iret C e_M_left_29
    · refine s_iload_n C e_M_left_18 rfl ?_
      refine s_iconst C e_M_left_19 (v := (0 : Int32)) ic_0 ?_
      refine s_iconst C e_M_left_20 (v := (1 : Int32)) ic_1 ?_
      refine s_callS_3 C (c_M_in C.inj _ _ _ _) wv_M_in g_447 ⟨by decide, by decide⟩ rfl (Nat.le_of_ble_eq_true rfl) e_M_left_21 (fun v5 σ6 => ?_)
      refine s_if_ne (tgt := 30) C e_M_left_24 rfl ?_ ?_
      · refine s_ldc C e_M_left_27 g_453 ?_
        exact s_iret C e_M_left_29
      · refine s_aload_n C e_M_left_30 rfl ?_
        refine s_get C fc_7 zm_lt_0 (zm_0 _ _ _) 13 (by decide) e_M_left_31 g_535 rfl ?_
        refine s_iconst C e_M_left_34 (v := (0 : Int32)) ic_0 ?_
        refine s_aload_n C e_M_left_35 rfl ?_
        refine s_get C fc_7 zm_lt_0 (zm_0 _ _ _) 15 (by decide) e_M_left_36 g_587 rfl ?_
        refine s_iconst C e_M_left_39 (v := (0 : Int32)) ic_0 ?_
        refine s_callSv_4 C (c_M_copies C.inj isA6 isA8 _ _ _) wv_M_copies g_537 ⟨by decide, by decide⟩ rfl (Nat.le_of_ble_eq_true rfl) e_M_left_40 (fun v7 σ8 => ?_)
        refine s_aload_n C e_M_left_43 rfl ?_
        refine s_get C fc_7 zm_lt_0 (zm_0 _ _ _) 13 (by decide) e_M_left_44 g_535 rfl ?_
        refine s_iconst C e_M_left_47 (v := (4 : Int32)) ic_4 ?_
        refine s_iald C (za_lt isA6) (za isA6) e_M_left_48 ?_
        refine s_iconst C e_M_left_49 (v := (1 : Int32)) ic_1 ?_
        refine s_icmp_ne (tgt := 60) C e_M_left_50 rfl ?_ ?_
        · refine s_aload_n C e_M_left_53 rfl ?_
          refine s_get C fc_7 zm_lt_0 (zm_0 _ _ _) 15 (by decide) e_M_left_54 g_587 rfl ?_
          refine s_callSv_1 C (c_M_closes C.inj isA8 _) wv_M_closes g_560 ⟨by decide, by decide⟩ rfl (Nat.le_of_ble_eq_true rfl) e_M_left_57 (fun v9 σ10 => ?_)
          exact s_cut (w_M_left_B60 C _ _ _ _) ⟨rfl, rfl, rfl, rfl, trivial⟩
        · exact s_cut (w_M_left_B60 C _ _ _ _) ⟨rfl, rfl, rfl, rfl, trivial⟩
theorem c_M_left {l : Launch} {D : va_G} {k : Nat → ClassId} {q : Nat → Nat} (hq : Inj ZM q)  (σ : St) (x1 : Int32) (x2 : Int32) (x3 : Int32) : Ct l ZM D k q yX7_left cX7_left 10 (some .int) 3 69 [.ref (q 0), .int x1, .int x2, .int x3] σ (m_M_left σ x1 x2 x3) :=
  Ct_of hq lcM (by decide) (Nat.le_of_ble_eq_true rfl) (fun _ _ _ _ _ _ _ _ _ _ C => w_M_left C σ x1 x2 x3)
set_option maxRecDepth 100000 in
theorem w_M_drawn_B148 {X : CX} (C : Cx X ZM RX7 cX7_drawn 7 (some .int) 5 109)  (r69 : St → Int32 → Int32 → Int64 → Int32 → Rt) (hr69 : ∀ (σ : St) (x1 : Int32) (x3 : Int32) (x4 : Int64) (x6 : Int32), Sm X ZM 7 (some .int) σ [(0, .ref (cq X 0)), (1, .int x1), (3, .int x3), (4, .long x4), (6, .int x6)] 69 [] (r69 σ x1 x3 x4 x6)) (σ : St) (x1 : Int32) (x3 : Int32) (x4 : Int64) (x6 : Int32) : Sm X ZM 7 (some .int) σ [(0, .ref (cq X 0)), (1, .int x1), (3, .int x3), (4, .long x4), (6, .int x6)] 148 [] (m_M_drawn_B148 r69 σ x1 x3 x4 x6) := by
  unfold m_M_drawn_B148
  refine s_aload_n C e_M_drawn_148 rfl ?_
  refine s_callVv_0 C (c_M_toOpening C.inj _) wv_M_toOpening g_609 ⟨by decide, by decide⟩ fc_7 rfl zm_lt_0 (zm_0 _ _ _) rfl (Nat.le_of_ble_eq_true rfl) e_M_drawn_149 (fun v1 σ2 => ?_)
  refine s_iinc C e_M_drawn_152 (v := (1 : Int32)) rfl (by decide) ii_1 ?_
  refine s_goto (tgt := 69) C e_M_drawn_155 rfl ?_
  exact s_cut (hr69 _ _ _ _ _) ⟨rfl, rfl, rfl, rfl, rfl, trivial⟩
set_option maxRecDepth 100000 in
theorem w_M_drawn_B158 {X : CX} (C : Cx X ZM RX7 cX7_drawn 7 (some .int) 5 109)   (σ : St) (x3 : Int32) : Sm X ZM 7 (some .int) σ [(0, .ref (cq X 0)), (3, .int x3)] 158 [] (m_M_drawn_B158 σ x3) := by
  unfold m_M_drawn_B158
  refine s_iload_n C e_M_drawn_158 rfl ?_
  refine s_if_ne (tgt := 171) C e_M_drawn_159 rfl ?_ ?_
  · refine s_aload_n C e_M_drawn_162 rfl ?_
    refine s_get C fc_7 zm_lt_0 (zm_0 _ _ _) 15 (by decide) e_M_drawn_163 g_587 rfl ?_
    refine s_iconst C e_M_drawn_166 (v := (5 : Int32)) ic_5 ?_
    refine s_iald C (za_lt isA8) (za isA8) e_M_drawn_167 ?_
    refine s_goto (tgt := 181) C e_M_drawn_168 rfl ?_
    exact s_iret C e_M_drawn_181
  · refine s_aload_n C e_M_drawn_171 rfl ?_
    refine s_get C fc_7 zm_lt_0 (zm_0 _ _ _) 15 (by decide) e_M_drawn_172 g_587 rfl ?_
    refine s_callS_1 C (c_M_rights C.inj isA8 _) wv_M_rights g_596 ⟨by decide, by decide⟩ rfl (Nat.le_of_ble_eq_true rfl) e_M_drawn_175 (fun v1 σ2 => ?_)
    refine s_callS_1 C (c_M_ones C.inj _ _) wv_M_ones g_553 ⟨by decide, by decide⟩ rfl (Nat.le_of_ble_eq_true rfl) e_M_drawn_178 (fun v3 σ4 => ?_)
    exact s_iret C e_M_drawn_181
set_option maxRecDepth 100000 in
theorem w_M_drawn_B69 {X : CX} (C : Cx X ZM RX7 cX7_drawn 7 (some .int) 5 109)  (r69 : St → Int32 → Int32 → Int64 → Int32 → Rt) (hr69 : ∀ (σ : St) (x1 : Int32) (x3 : Int32) (x4 : Int64) (x6 : Int32), Sm X ZM 7 (some .int) σ [(0, .ref (cq X 0)), (1, .int x1), (3, .int x3), (4, .long x4), (6, .int x6)] 69 [] (r69 σ x1 x3 x4 x6)) (σ : St) (x1 : Int32) (x3 : Int32) (x4 : Int64) (x6 : Int32) : Sm X ZM 7 (some .int) σ [(0, .ref (cq X 0)), (1, .int x1), (3, .int x3), (4, .long x4), (6, .int x6)] 69 [] (m_M_drawn_B69 r69 σ x1 x3 x4 x6) := by
  unfold m_M_drawn_B69
  refine s_iload C e_M_drawn_69 rfl ?_
  refine s_iload_n C e_M_drawn_71 rfl ?_
  refine s_icmp_ge (tgt := 158) C e_M_drawn_72 rfl ?_ ?_
  · exact s_cut (w_M_drawn_B158 C _ _) ⟨rfl, rfl, trivial⟩
  · refine s_lload C e_M_drawn_75 rfl ?_
    refine s_ldc2 C e_M_drawn_77 g_624 ?_
    refine s_lmul C e_M_drawn_80 ?_
    refine s_ldc2 C e_M_drawn_81 g_625 ?_
    refine s_lrem C e_M_drawn_84 ?_
    refine s_nml (fun y1 => ?_)
    refine s_lstore C e_M_drawn_85 (by decide) ?_
    refine s_aload_n C e_M_drawn_87 rfl ?_
    refine s_get C fc_7 zm_lt_0 (zm_0 _ _ _) 15 (by decide) e_M_drawn_88 g_587 rfl ?_
    refine s_iconst C e_M_drawn_91 (v := (0 : Int32)) ic_0 ?_
    refine s_lload C e_M_drawn_92 rfl ?_
    refine s_ldc2 C e_M_drawn_94 g_626 ?_
    refine s_lrem C e_M_drawn_97 ?_
    refine s_l2i C e_M_drawn_98 ?_
    refine s_iast C (za_lt isA8) (za isA8) e_M_drawn_99 (fun σ2 => ?_)
    refine s_aload_n C e_M_drawn_100 rfl ?_
    refine s_get C fc_7 zm_lt_0 (zm_0 _ _ _) 15 (by decide) e_M_drawn_101 g_587 rfl ?_
    refine s_iconst C e_M_drawn_104 (v := (4 : Int32)) ic_4 ?_
    refine s_iald C (za_lt isA8) (za isA8) e_M_drawn_105 ?_
    refine s_iconst C e_M_drawn_106 (v := (1 : Int32)) ic_1 ?_
    refine s_icmp_ne (tgt := 148) C e_M_drawn_107 rfl ?_ ?_
    · refine s_aload_n C e_M_drawn_110 rfl ?_
      refine s_get C fc_7 zm_lt_0 (zm_0 _ _ _) 13 (by decide) e_M_drawn_111 g_535 rfl ?_
      refine s_iconst C e_M_drawn_114 (v := (2 : Int32)) ic_2 ?_
      refine s_iald C (za_lt isA6) (za isA6) e_M_drawn_115 ?_
      refine s_if_le (tgt := 148) C e_M_drawn_116 rfl ?_ ?_
      · exact s_cut (w_M_drawn_B148 C r69 hr69 _ _ _ _ _) ⟨rfl, rfl, rfl, rfl, rfl, trivial⟩
      · refine s_aload_n C e_M_drawn_119 rfl ?_
        refine s_get C fc_7 zm_lt_0 (zm_0 _ _ _) 15 (by decide) e_M_drawn_120 g_587 rfl ?_
        refine s_lload C e_M_drawn_123 rfl ?_
        refine s_aload_n C e_M_drawn_125 rfl ?_
        refine s_get C fc_7 zm_lt_0 (zm_0 _ _ _) 13 (by decide) e_M_drawn_126 g_535 rfl ?_
        refine s_iconst C e_M_drawn_129 (v := (2 : Int32)) ic_2 ?_
        refine s_iald C (za_lt isA6) (za isA6) e_M_drawn_130 ?_
        refine s_i2l C e_M_drawn_131 ?_
        refine s_lrem C e_M_drawn_132 ?_
        refine s_l2i C e_M_drawn_133 ?_
        refine s_lload C e_M_drawn_134 rfl ?_
        refine s_aload_n C e_M_drawn_136 rfl ?_
        refine s_get C fc_7 zm_lt_0 (zm_0 _ _ _) 13 (by decide) e_M_drawn_137 g_535 rfl ?_
        refine s_iconst C e_M_drawn_140 (v := (1 : Int32)) ic_1 ?_
        refine s_iald C (za_lt isA6) (za isA6) e_M_drawn_141 ?_
        refine s_i2l C e_M_drawn_142 ?_
        refine s_lrem C e_M_drawn_143 ?_
        refine s_l2i C e_M_drawn_144 ?_
        refine s_callSv_3 C (c_M_lays C.inj isA8 _ _ _) wv_M_lays g_576 ⟨by decide, by decide⟩ rfl (Nat.le_of_ble_eq_true rfl) e_M_drawn_145 (fun v3 σ4 => ?_)
        exact s_cut (w_M_drawn_B148 C r69 hr69 _ _ _ _ _) ⟨rfl, rfl, rfl, rfl, rfl, trivial⟩
    · exact s_cut (w_M_drawn_B148 C r69 hr69 _ _ _ _ _) ⟨rfl, rfl, rfl, rfl, rfl, trivial⟩
theorem w_M_drawn_L69 {X : CX} (C : Cx X ZM RX7 cX7_drawn 7 (some .int) 5 109)   : ∀ (n : Nat) (σ : St) (x1 : Int32) (x3 : Int32) (x4 : Int64) (x6 : Int32), Sm X ZM 7 (some .int) σ [(0, .ref (cq X 0)), (1, .int x1), (3, .int x3), (4, .long x4), (6, .int x6)] 69 [] (m_M_drawn_L69 n σ x1 x3 x4 x6)
  | 0, _, _, _, _, _ => s_none
  | n + 1, σ, x1, x3, x4, x6 => w_M_drawn_B69 C (m_M_drawn_L69 n) (w_M_drawn_L69 C n) σ x1 x3 x4 x6
set_option maxRecDepth 100000 in
theorem w_M_drawn {X : CX} (C : Cx X ZM RX7 cX7_drawn 7 (some .int) 5 109)  (σ : St) (x1 : Int32) (x2 : Int32) (x3 : Int32) : Sm X ZM 7 (some .int) σ [(0, .ref (cq X 0)), (1, .int x1), (2, .int x2), (3, .int x3)] 0 [] (m_M_drawn σ x1 x2 x3) := by
  unfold m_M_drawn
  refine s_aload_n C e_M_drawn_0 rfl ?_
  refine s_callV_0 C (c_M_isMap C.inj _) wv_M_isMap g_565 ⟨by decide, by decide⟩ fc_7 rfl zm_lt_0 (zm_0 _ _ _) rfl (Nat.le_of_ble_eq_true rfl) e_M_drawn_1 (fun v1 σ2 => ?_)
  refine s_if_ne (tgt := 10) C e_M_drawn_4 rfl ?_ ?_
  · refine s_ldc C e_M_drawn_7 g_564 ?_
    exact s_iret C e_M_drawn_9
  · refine s_iload_n C e_M_drawn_10 rfl ?_
    refine s_iconst C e_M_drawn_11 (v := (0 : Int32)) ic_0 ?_
    refine s_bipush C e_M_drawn_12 (v := (30 : Int32)) bp_30 ?_
    refine s_callS_3 C (c_M_in C.inj _ _ _ _) wv_M_in g_447 ⟨by decide, by decide⟩ rfl (Nat.le_of_ble_eq_true rfl) e_M_drawn_14 (fun v3 σ4 => ?_)
    refine s_if_eq (tgt := 39) C e_M_drawn_17 rfl ?_ ?_
    · refine s_ldc C e_M_drawn_39 g_453 ?_
      exact s_iret C e_M_drawn_41
    · refine s_iload_n C e_M_drawn_20 rfl ?_
      refine s_iconst C e_M_drawn_21 (v := (1 : Int32)) ic_1 ?_
      refine s_ldc C e_M_drawn_22 g_556 ?_
      refine s_callS_3 C (c_M_in C.inj _ _ _ _) wv_M_in g_447 ⟨by decide, by decide⟩ rfl (Nat.le_of_ble_eq_true rfl) e_M_drawn_24 (fun v5 σ6 => ?_)
      refine s_if_eq (tgt := 39) C e_M_drawn_27 rfl ?_ ?_
      · refine s_ldc C e_M_drawn_39 g_453 ?_
        exact s_iret C e_M_drawn_41
      · refine s_iload_n C e_M_drawn_30 rfl ?_
        refine s_iconst C e_M_drawn_31 (v := (0 : Int32)) ic_0 ?_
        refine s_iconst C e_M_drawn_32 (v := (1 : Int32)) ic_1 ?_
        refine s_callS_3 C (c_M_in C.inj _ _ _ _) wv_M_in g_447 ⟨by decide, by decide⟩ rfl (Nat.le_of_ble_eq_true rfl) e_M_drawn_33 (fun v7 σ8 => ?_)
        refine s_if_ne (tgt := 42) C e_M_drawn_36 rfl ?_ ?_
        · refine s_ldc C e_M_drawn_39 g_453 ?_
          exact s_iret C e_M_drawn_41
        · refine s_aload_n C e_M_drawn_42 rfl ?_
          refine s_get C fc_7 zm_lt_0 (zm_0 _ _ _) 13 (by decide) e_M_drawn_43 g_535 rfl ?_
          refine s_iconst C e_M_drawn_46 (v := (0 : Int32)) ic_0 ?_
          refine s_aload_n C e_M_drawn_47 rfl ?_
          refine s_get C fc_7 zm_lt_0 (zm_0 _ _ _) 15 (by decide) e_M_drawn_48 g_587 rfl ?_
          refine s_iconst C e_M_drawn_51 (v := (0 : Int32)) ic_0 ?_
          refine s_callSv_4 C (c_M_copies C.inj isA6 isA8 _ _ _) wv_M_copies g_537 ⟨by decide, by decide⟩ rfl (Nat.le_of_ble_eq_true rfl) e_M_drawn_52 (fun v9 σ10 => ?_)
          refine s_aload_n C e_M_drawn_55 rfl ?_
          refine s_get C fc_7 zm_lt_0 (zm_0 _ _ _) 15 (by decide) e_M_drawn_56 g_587 rfl ?_
          refine s_iconst C e_M_drawn_59 (v := (5 : Int32)) ic_5 ?_
          refine s_iconst C e_M_drawn_60 (v := (0 : Int32)) ic_0 ?_
          refine s_iast C (za_lt isA8) (za isA8) e_M_drawn_61 (fun σ11 => ?_)
          refine s_iload_n C e_M_drawn_62 rfl ?_
          refine s_i2l C e_M_drawn_63 ?_
          refine s_nml (fun y12 => ?_)
          refine s_lstore C e_M_drawn_64 (by decide) ?_
          refine s_iconst C e_M_drawn_66 (v := (0 : Int32)) ic_0 ?_
          refine s_istore C e_M_drawn_67 (by decide) ?_
          exact s_cut (w_M_drawn_L69 C FU _ _ _ _ _) ⟨rfl, rfl, rfl, rfl, rfl, trivial⟩
theorem c_M_drawn {l : Launch} {D : va_G} {k : Nat → ClassId} {q : Nat → Nat} (hq : Inj ZM q)  (σ : St) (x1 : Int32) (x2 : Int32) (x3 : Int32) : Ct l ZM D k q yX7_drawn cX7_drawn 7 (some .int) 5 109 [.ref (q 0), .int x1, .int x2, .int x3] σ (m_M_drawn σ x1 x2 x3) :=
  Ct_of hq lcM (by decide) (Nat.le_of_ble_eq_true rfl) (fun _ _ _ _ _ _ _ _ _ _ C => w_M_drawn C σ x1 x2 x3)
set_option maxRecDepth 100000 in
theorem w_M_image {X : CX} (C : Cx X ZM RX7 cX7_image 2 (some .int) 1 24)  (σ : St) (x1 : Int32) : Sm X ZM 2 (some .int) σ [(0, .ref (cq X 0)), (1, .int x1)] 0 [] (m_M_image σ x1) := by
  unfold m_M_image
  refine s_iload_n C e_M_image_0 rfl ?_
  refine s_iconst C e_M_image_1 (v := (0 : Int32)) ic_0 ?_
  refine s_iconst C e_M_image_2 (v := (1 : Int32)) ic_1 ?_
  refine s_callS_3 C (c_M_in C.inj _ _ _ _) wv_M_in g_447 ⟨by decide, by decide⟩ rfl (Nat.le_of_ble_eq_true rfl) e_M_image_3 (fun v1 σ2 => ?_)
  refine s_if_ne (tgt := 12) C e_M_image_6 rfl ?_ ?_
  · refine s_ldc C e_M_image_9 g_453 ?_
    exact s_iret C e_M_image_11
  · refine s_aload_n C e_M_image_12 rfl ?_
    refine s_callV_0 C (c_M_isMap C.inj _) wv_M_isMap g_565 ⟨by decide, by decide⟩ fc_7 rfl zm_lt_0 (zm_0 _ _ _) rfl (Nat.le_of_ble_eq_true rfl) e_M_image_13 (fun v3 σ4 => ?_)
    refine s_if_ne (tgt := 22) C e_M_image_16 rfl ?_ ?_
    · refine s_ldc C e_M_image_19 g_564 ?_
      exact s_iret C e_M_image_21
    · refine s_aload_n C e_M_image_22 rfl ?_
      refine s_get C fc_7 zm_lt_0 (zm_0 _ _ _) 13 (by decide) e_M_image_23 g_535 rfl ?_
      refine s_iconst C e_M_image_26 (v := (0 : Int32)) ic_0 ?_
      refine s_aload_n C e_M_image_27 rfl ?_
      refine s_get C fc_7 zm_lt_0 (zm_0 _ _ _) 18 (by decide) e_M_image_28 g_627 rfl ?_
      refine s_bipush C e_M_image_31 (v := (64 : Int32)) bp_64 ?_
      refine s_iload_n C e_M_image_33 rfl ?_
      refine s_imul C e_M_image_34 ?_
      refine s_callSv_4 C (c_M_copies C.inj isA6 isA10 _ _ _) wv_M_copies g_537 ⟨by decide, by decide⟩ rfl (Nat.le_of_ble_eq_true rfl) e_M_image_35 (fun v5 σ6 => ?_)
      refine s_aload_n C e_M_image_38 rfl ?_
      refine s_get C fc_7 zm_lt_0 (zm_0 _ _ _) 19 (by decide) e_M_image_39 g_628 rfl ?_
      refine s_iload_n C e_M_image_42 rfl ?_
      refine s_iconst C e_M_image_43 (v := (1 : Int32)) ic_1 ?_
      refine s_zast C zm_lt_11 zm_11 e_M_image_44 (fun σ7 => ?_)
      refine s_iconst C e_M_image_45 (v := (1 : Int32)) ic_1 ?_
      exact s_iret C e_M_image_46
theorem c_M_image {l : Launch} {D : va_G} {k : Nat → ClassId} {q : Nat → Nat} (hq : Inj ZM q)  (σ : St) (x1 : Int32) : Ct l ZM D k q yX7_image cX7_image 2 (some .int) 1 24 [.ref (q 0), .int x1] σ (m_M_image σ x1) :=
  Ct_of hq lcM (by decide) (Nat.le_of_ble_eq_true rfl) (fun _ _ _ _ _ _ _ _ _ _ C => w_M_image C σ x1)
set_option maxRecDepth 100000 in
theorem w_M_restore {X : CX} (C : Cx X ZM RX7 cX7_restore 2 (some .int) 1 24)  (σ : St) (x1 : Int32) : Sm X ZM 2 (some .int) σ [(0, .ref (cq X 0)), (1, .int x1)] 0 [] (m_M_restore σ x1) := by
  unfold m_M_restore
  refine s_iload_n C e_M_restore_0 rfl ?_
  refine s_iconst C e_M_restore_1 (v := (0 : Int32)) ic_0 ?_
  refine s_iconst C e_M_restore_2 (v := (1 : Int32)) ic_1 ?_
  refine s_callS_3 C (c_M_in C.inj _ _ _ _) wv_M_in g_447 ⟨by decide, by decide⟩ rfl (Nat.le_of_ble_eq_true rfl) e_M_restore_3 (fun v1 σ2 => ?_)
  refine s_if_ne (tgt := 12) C e_M_restore_6 rfl ?_ ?_
  · refine s_ldc C e_M_restore_9 g_453 ?_
    exact s_iret C e_M_restore_11
  · refine s_aload_n C e_M_restore_12 rfl ?_
    refine s_get C fc_7 zm_lt_0 (zm_0 _ _ _) 19 (by decide) e_M_restore_13 g_628 rfl ?_
    refine s_iload_n C e_M_restore_16 rfl ?_
    refine s_zald C zm_lt_11 zm_11 e_M_restore_17 ?_
    refine s_if_ne (tgt := 24) C e_M_restore_18 rfl ?_ ?_
    · refine s_ldc C e_M_restore_21 g_564 ?_
      exact s_iret C e_M_restore_23
    · refine s_aload_n C e_M_restore_24 rfl ?_
      refine s_get C fc_7 zm_lt_0 (zm_0 _ _ _) 18 (by decide) e_M_restore_25 g_627 rfl ?_
      refine s_bipush C e_M_restore_28 (v := (64 : Int32)) bp_64 ?_
      refine s_iload_n C e_M_restore_30 rfl ?_
      refine s_imul C e_M_restore_31 ?_
      refine s_aload_n C e_M_restore_32 rfl ?_
      refine s_get C fc_7 zm_lt_0 (zm_0 _ _ _) 13 (by decide) e_M_restore_33 g_535 rfl ?_
      refine s_iconst C e_M_restore_36 (v := (0 : Int32)) ic_0 ?_
      refine s_callSv_4 C (c_M_copies C.inj isA10 isA6 _ _ _) wv_M_copies g_537 ⟨by decide, by decide⟩ rfl (Nat.le_of_ble_eq_true rfl) e_M_restore_37 (fun v3 σ4 => ?_)
      refine s_aload_n C e_M_restore_40 rfl ?_
      refine s_iconst C e_M_restore_41 (v := (0 : Int32)) ic_0 ?_
      refine s_put C fc_7 zm_lt_0 (zm_0 _ _ _) 17 (by decide) (zmp_17 _ _ _ _) (Nat.le_of_ble_eq_true rfl) e_M_restore_42 g_536 rfl rfl (fun σ5 => ?_)
      refine s_iconst C e_M_restore_45 (v := (1 : Int32)) ic_1 ?_
      exact s_iret C e_M_restore_46
theorem c_M_restore {l : Launch} {D : va_G} {k : Nat → ClassId} {q : Nat → Nat} (hq : Inj ZM q)  (σ : St) (x1 : Int32) : Ct l ZM D k q yX7_restore cX7_restore 2 (some .int) 1 24 [.ref (q 0), .int x1] σ (m_M_restore σ x1) :=
  Ct_of hq lcM (by decide) (Nat.le_of_ble_eq_true rfl) (fun _ _ _ _ _ _ _ _ _ _ C => w_M_restore C σ x1)
set_option maxRecDepth 100000 in
theorem w_M_kindIn {X : CX} (C : Cx X ZM RX7 cX7_kindIn 2 (some .int) 0 0)  (σ : St) (x1 : Int32) : Sm X ZM 2 (some .int) σ [(0, .ref (cq X 0)), (1, .int x1)] 0 [] (m_M_kindIn σ x1) := by
  unfold m_M_kindIn
  refine s_aload_n C e_M_kindIn_0 rfl ?_
  refine s_get C fc_7 zm_lt_0 (zm_0 _ _ _) 13 (by decide) e_M_kindIn_1 g_535 rfl ?_
  refine s_bipush C e_M_kindIn_4 (v := (22 : Int32)) bp_22 ?_
  refine s_bipush C e_M_kindIn_6 (v := (6 : Int32)) bp_6 ?_
  refine s_iload_n C e_M_kindIn_8 rfl ?_
  refine s_imul C e_M_kindIn_9 ?_
  refine s_iadd C e_M_kindIn_10 ?_
  refine s_iald C (za_lt isA6) (za isA6) e_M_kindIn_11 ?_
  exact s_iret C e_M_kindIn_12
theorem c_M_kindIn {l : Launch} {D : va_G} {k : Nat → ClassId} {q : Nat → Nat} (hq : Inj ZM q)  (σ : St) (x1 : Int32) : Ct l ZM D k q yX7_kindIn cX7_kindIn 2 (some .int) 0 0 [.ref (q 0), .int x1] σ (m_M_kindIn σ x1) :=
  Ct_of hq lcM (by decide) (Nat.le_of_ble_eq_true rfl) (fun _ _ _ _ _ _ _ _ _ _ C => w_M_kindIn C σ x1)
set_option maxRecDepth 100000 in
theorem w_M_kind {X : CX} (C : Cx X ZM RX7 cX7_kind 2 (some .int) 2 43)  (σ : St) (x1 : Int32) : Sm X ZM 2 (some .int) σ [(0, .ref (cq X 0)), (1, .int x1)] 0 [] (m_M_kind σ x1) := by
  unfold m_M_kind
  refine s_aload_n C e_M_kind_0 rfl ?_
  refine s_iload_n C e_M_kind_1 rfl ?_
  refine s_callV_1 C (c_M_isPin C.inj _ _) wv_M_isPin g_583 ⟨by decide, by decide⟩ fc_7 rfl zm_lt_0 (zm_0 _ _ _) rfl (Nat.le_of_ble_eq_true rfl) e_M_kind_2 (fun v1 σ2 => ?_)
  refine s_if_eq (tgt := 16) C e_M_kind_5 rfl ?_ ?_
  · refine s_ldc C e_M_kind_16 g_453 ?_
    exact s_iret C e_M_kind_18
  · refine s_aload_n C e_M_kind_8 rfl ?_
    refine s_iload_n C e_M_kind_9 rfl ?_
    refine s_callV_1 C (c_M_kindIn C.inj _ _) wv_M_kindIn g_629 ⟨by decide, by decide⟩ fc_7 rfl zm_lt_0 (zm_0 _ _ _) rfl (Nat.le_of_ble_eq_true rfl) e_M_kind_10 (fun v3 σ4 => ?_)
    refine s_goto (tgt := 18) C e_M_kind_13 rfl ?_
    exact s_iret C e_M_kind_18
theorem c_M_kind {l : Launch} {D : va_G} {k : Nat → ClassId} {q : Nat → Nat} (hq : Inj ZM q)  (σ : St) (x1 : Int32) : Ct l ZM D k q yX7_kind cX7_kind 2 (some .int) 2 43 [.ref (q 0), .int x1] σ (m_M_kind σ x1) :=
  Ct_of hq lcM (by decide) (Nat.le_of_ble_eq_true rfl) (fun _ _ _ _ _ _ _ _ _ _ C => w_M_kind C σ x1)
set_option maxRecDepth 100000 in
theorem w_M_as_B60 {X : CX} (C : Cx X ZM RX7 cX7_as 5 (some .int) 2 43)   (σ : St) (x1 : Int32) (s0 : Int32) : Sm X ZM 5 (some .int) σ [(0, .ref (cq X 0)), (1, .int x1)] 60 [.int s0] (m_M_as_B60 σ x1 s0) := by
  unfold m_M_as_B60
  refine s_istore C e_M_as_60 (by decide) ?_
  refine s_iload C e_M_as_62 rfl ?_
  refine s_if_eq (tgt := 75) C e_M_as_64 rfl ?_ ?_
  · refine s_aload_n C e_M_as_75 rfl ?_
    refine s_iconst C e_M_as_76 (v := (3 : Int32)) ic_3 ?_
    refine s_callV_1 C (c_M_found C.inj _ _) wv_M_found g_455 ⟨by decide, by decide⟩ fc_7 rfl zm_lt_0 (zm_0 _ _ _) rfl (Nat.le_of_ble_eq_true rfl) e_M_as_77 (fun v1 σ2 => ?_)
    exact s_iret C e_M_as_80
  · refine s_aload_n C e_M_as_67 rfl ?_
    refine s_iload_n C e_M_as_68 rfl ?_
    refine s_callV_1 C (c_M_well C.inj _ _) wv_M_well g_463 ⟨by decide, by decide⟩ fc_7 rfl zm_lt_0 (zm_0 _ _ _) rfl (Nat.le_of_ble_eq_true rfl) e_M_as_69 (fun v3 σ4 => ?_)
    refine s_goto (tgt := 80) C e_M_as_72 rfl ?_
    exact s_iret C e_M_as_80
set_option maxRecDepth 100000 in
theorem w_M_as_B55 {X : CX} (C : Cx X ZM RX7 cX7_as 5 (some .int) 2 43)   (σ : St) (x1 : Int32) : Sm X ZM 5 (some .int) σ [(0, .ref (cq X 0)), (1, .int x1)] 55 [] (m_M_as_B55 σ x1) := by
  unfold m_M_as_B55
  refine s_iconst C e_M_as_55 (v := (1 : Int32)) ic_1 ?_
  refine s_goto (tgt := 60) C e_M_as_56 rfl ?_
  exact s_cut (w_M_as_B60 C _ _ _) ⟨rfl, rfl, trivial⟩
set_option maxRecDepth 100000 in
theorem w_M_as_B59 {X : CX} (C : Cx X ZM RX7 cX7_as 5 (some .int) 2 43)   (σ : St) (x1 : Int32) : Sm X ZM 5 (some .int) σ [(0, .ref (cq X 0)), (1, .int x1)] 59 [] (m_M_as_B59 σ x1) := by
  unfold m_M_as_B59
  refine s_iconst C e_M_as_59 (v := (0 : Int32)) ic_0 ?_
  exact s_cut (w_M_as_B60 C _ _ _) ⟨rfl, rfl, trivial⟩
set_option maxRecDepth 100000 in
theorem w_M_as_B45 {X : CX} (C : Cx X ZM RX7 cX7_as 5 (some .int) 2 43)   (σ : St) (x1 : Int32) (x2 : Int32) (x3 : Int32) : Sm X ZM 5 (some .int) σ [(0, .ref (cq X 0)), (1, .int x1), (2, .int x2), (3, .int x3)] 45 [] (m_M_as_B45 σ x1 x2 x3) := by
  unfold m_M_as_B45
  refine s_iload_n C e_M_as_45 rfl ?_
  refine s_iconst C e_M_as_46 (v := (4 : Int32)) ic_4 ?_
  refine s_icmp_ne (tgt := 59) C e_M_as_47 rfl ?_ ?_
  · refine s_iload_n C e_M_as_50 rfl ?_
    refine s_iconst C e_M_as_51 (v := (5 : Int32)) ic_5 ?_
    refine s_icmp_ne (tgt := 59) C e_M_as_52 rfl ?_ ?_
    · exact s_cut (w_M_as_B55 C _ _) ⟨rfl, rfl, trivial⟩
    · exact s_cut (w_M_as_B59 C _ _) ⟨rfl, rfl, trivial⟩
  · exact s_cut (w_M_as_B59 C _ _) ⟨rfl, rfl, trivial⟩
set_option maxRecDepth 100000 in
theorem w_M_as {X : CX} (C : Cx X ZM RX7 cX7_as 5 (some .int) 2 43)  (σ : St) (x1 : Int32) (x2 : Int32) : Sm X ZM 5 (some .int) σ [(0, .ref (cq X 0)), (1, .int x1), (2, .int x2)] 0 [] (m_M_as σ x1 x2) := by
  unfold m_M_as
  refine s_aload_n C e_M_as_0 rfl ?_
  refine s_iload_n C e_M_as_1 rfl ?_
  refine s_callV_1 C (c_M_isPin C.inj _ _) wv_M_isPin g_583 ⟨by decide, by decide⟩ fc_7 rfl zm_lt_0 (zm_0 _ _ _) rfl (Nat.le_of_ble_eq_true rfl) e_M_as_2 (fun v1 σ2 => ?_)
  refine s_if_eq (tgt := 17) C e_M_as_5 rfl ?_ ?_
  · refine s_ldc C e_M_as_17 g_453 ?_
    exact s_iret C e_M_as_19
  · refine s_iload_n C e_M_as_8 rfl ?_
    refine s_iconst C e_M_as_9 (v := (0 : Int32)) ic_0 ?_
    refine s_iconst C e_M_as_10 (v := (5 : Int32)) ic_5 ?_
    refine s_callS_3 C (c_M_in C.inj _ _ _ _) wv_M_in g_447 ⟨by decide, by decide⟩ rfl (Nat.le_of_ble_eq_true rfl) e_M_as_11 (fun v3 σ4 => ?_)
    refine s_if_ne (tgt := 20) C e_M_as_14 rfl ?_ ?_
    · refine s_ldc C e_M_as_17 g_453 ?_
      exact s_iret C e_M_as_19
    · refine s_aload_n C e_M_as_20 rfl ?_
      refine s_iload_n C e_M_as_21 rfl ?_
      refine s_callV_1 C (c_M_kindIn C.inj _ _) wv_M_kindIn g_629 ⟨by decide, by decide⟩ fc_7 rfl zm_lt_0 (zm_0 _ _ _) rfl (Nat.le_of_ble_eq_true rfl) e_M_as_22 (fun v5 σ6 => ?_)
      refine s_istore_n C e_M_as_25 (by decide) ?_
      refine s_iload_n C e_M_as_26 rfl ?_
      refine s_if_eq (tgt := 55) C e_M_as_27 rfl ?_ ?_
      · exact s_cut (w_M_as_B55 C _ _) ⟨rfl, rfl, trivial⟩
      · refine s_iload_n C e_M_as_30 rfl ?_
        refine s_iload_n C e_M_as_31 rfl ?_
        refine s_icmp_eq (tgt := 55) C e_M_as_32 rfl ?_ ?_
        · exact s_cut (w_M_as_B55 C _ _) ⟨rfl, rfl, trivial⟩
        · refine s_iload_n C e_M_as_35 rfl ?_
          refine s_iconst C e_M_as_36 (v := (1 : Int32)) ic_1 ?_
          refine s_icmp_ne (tgt := 45) C e_M_as_37 rfl ?_ ?_
          · refine s_iload_n C e_M_as_40 rfl ?_
            refine s_iconst C e_M_as_41 (v := (4 : Int32)) ic_4 ?_
            refine s_icmp_lt (tgt := 55) C e_M_as_42 rfl ?_ ?_
            · exact s_cut (w_M_as_B55 C _ _) ⟨rfl, rfl, trivial⟩
            · exact s_cut (w_M_as_B45 C _ _ _ _) ⟨rfl, rfl, rfl, rfl, trivial⟩
          · exact s_cut (w_M_as_B45 C _ _ _ _) ⟨rfl, rfl, rfl, rfl, trivial⟩
theorem c_M_as {l : Launch} {D : va_G} {k : Nat → ClassId} {q : Nat → Nat} (hq : Inj ZM q)  (σ : St) (x1 : Int32) (x2 : Int32) : Ct l ZM D k q yX7_as cX7_as 5 (some .int) 2 43 [.ref (q 0), .int x1, .int x2] σ (m_M_as σ x1 x2) :=
  Ct_of hq lcM (by decide) (Nat.le_of_ble_eq_true rfl) (fun _ _ _ _ _ _ _ _ _ _ C => w_M_as C σ x1 x2)
set_option maxRecDepth 100000 in
theorem w_M_begins {X : CX} (C : Cx X ZM RX7 cX7_begins 2 none 0 0)  (σ : St) (x1 : Int32) : Sm X ZM 2 none σ [(0, .ref (cq X 0)), (1, .int x1)] 0 [] (m_M_begins σ x1) := by
  unfold m_M_begins
  refine s_aload_n C e_M_begins_0 rfl ?_
  refine s_get C fc_7 zm_lt_0 (zm_0 _ _ _) 24 (by decide) e_M_begins_1 g_633 rfl ?_
  refine s_bipush C e_M_begins_4 (v := (16 : Int32)) bp_16 ?_
  refine s_icmp_ge (tgt := 29) C e_M_begins_6 rfl ?_ ?_
  · exact s_vret C e_M_begins_29
  · refine s_aload_n C e_M_begins_9 rfl ?_
    refine s_get C fc_7 zm_lt_0 (zm_0 _ _ _) 23 (by decide) e_M_begins_10 g_634 rfl ?_
    refine s_aload_n C e_M_begins_13 rfl ?_
    refine s_get C fc_7 zm_lt_0 (zm_0 _ _ _) 24 (by decide) e_M_begins_14 g_633 rfl ?_
    refine s_iload_n C e_M_begins_17 rfl ?_
    refine s_iast C (za_lt isA15) (za isA15) e_M_begins_18 (fun σ1 => ?_)
    refine s_aload_n C e_M_begins_19 rfl ?_
    refine s_dup C e_M_begins_20 rfl ?_
    refine s_get C fc_7 zm_lt_0 (zm_0 _ _ _) 24 (by decide) e_M_begins_21 g_633 rfl ?_
    refine s_iconst C e_M_begins_24 (v := (1 : Int32)) ic_1 ?_
    refine s_iadd C e_M_begins_25 ?_
    refine s_put C fc_7 zm_lt_0 (zm_0 _ _ _) 24 (by decide) (zmp_24 _ _ _ _) (Nat.le_of_ble_eq_true rfl) e_M_begins_26 g_633 rfl rfl (fun σ2 => ?_)
    exact s_vret C e_M_begins_29
theorem c_M_begins {l : Launch} {D : va_G} {k : Nat → ClassId} {q : Nat → Nat} (hq : Inj ZM q)  (σ : St) (x1 : Int32) : Ct l ZM D k q yX7_begins cX7_begins 2 none 0 0 [.ref (q 0), .int x1] σ (m_M_begins σ x1) :=
  Ct_of hq lcM (by decide) (Nat.le_of_ble_eq_true rfl) (fun _ _ _ _ _ _ _ _ _ _ C => w_M_begins C σ x1)
set_option maxRecDepth 100000 in
theorem w_M_agentMark_B27 {X : CX} (C : Cx X ZM RX7 cX7_agentMark 4 (some .int) 1 21)   (σ : St) (x1 : Int32) (x2 : Int32) : Sm X ZM 4 (some .int) σ [(0, .ref (cq X 0)), (1, .int x1), (2, .int x2)] 27 [] (m_M_agentMark_B27 σ x1 x2) := by
  unfold m_M_agentMark_B27
  refine s_aload_n C e_M_agentMark_27 rfl ?_
  refine s_bipush C e_M_agentMark_28 (v := (21 : Int32)) bp_21 ?_
  refine s_callVv_1 C (c_M_begins C.inj _ _) wv_M_begins g_635 ⟨by decide, by decide⟩ fc_7 rfl zm_lt_0 (zm_0 _ _ _) rfl (Nat.le_of_ble_eq_true rfl) e_M_agentMark_30 (fun v1 σ2 => ?_)
  refine s_aload_n C e_M_agentMark_33 rfl ?_
  refine s_bipush C e_M_agentMark_34 (v := (20 : Int32)) bp_20 ?_
  refine s_callVv_1 C (c_M_begins C.inj _ _) wv_M_begins g_635 ⟨by decide, by decide⟩ fc_7 rfl zm_lt_0 (zm_0 _ _ _) rfl (Nat.le_of_ble_eq_true rfl) e_M_agentMark_36 (fun v3 σ4 => ?_)
  refine s_iload_n C e_M_agentMark_39 rfl ?_
  refine s_aload_n C e_M_agentMark_40 rfl ?_
  refine s_get C fc_7 zm_lt_0 (zm_0 _ _ _) 13 (by decide) e_M_agentMark_41 g_535 rfl ?_
  refine s_bipush C e_M_agentMark_44 (v := (22 : Int32)) bp_22 ?_
  refine s_bipush C e_M_agentMark_46 (v := (6 : Int32)) bp_6 ?_
  refine s_iload_n C e_M_agentMark_48 rfl ?_
  refine s_imul C e_M_agentMark_49 ?_
  refine s_iadd C e_M_agentMark_50 ?_
  refine s_iconst C e_M_agentMark_51 (v := (5 : Int32)) ic_5 ?_
  refine s_iadd C e_M_agentMark_52 ?_
  refine s_iald C (za_lt isA6) (za isA6) e_M_agentMark_53 ?_
  refine s_iadd C e_M_agentMark_54 ?_
  refine s_nm (fun y5 => ?_)
  refine s_istore_n C e_M_agentMark_55 (by decide) ?_
  refine s_iload_n C e_M_agentMark_56 rfl ?_
  refine s_iconst C e_M_agentMark_57 (v := (2 : Int32)) ic_2 ?_
  refine s_icmp_ne (tgt := 67) C e_M_agentMark_58 rfl ?_ ?_
  · refine s_iconst C e_M_agentMark_61 (v := (2 : Int32)) ic_2 ?_
    refine s_iload_n C e_M_agentMark_62 rfl ?_
    refine s_imul C e_M_agentMark_63 ?_
    refine s_goto (tgt := 81) C e_M_agentMark_64 rfl ?_
    exact s_iret C e_M_agentMark_81
  · refine s_iload_n C e_M_agentMark_67 rfl ?_
    refine s_iconst C e_M_agentMark_68 (v := (3 : Int32)) ic_3 ?_
    refine s_icmp_ne (tgt := 80) C e_M_agentMark_69 rfl ?_ ?_
    · refine s_iload_n C e_M_agentMark_72 rfl ?_
      refine s_sipush C e_M_agentMark_73 (v := (1000 : Int32)) sp_1000 ?_
      refine s_isub C e_M_agentMark_76 ?_
      refine s_goto (tgt := 81) C e_M_agentMark_77 rfl ?_
      exact s_iret C e_M_agentMark_81
    · refine s_iload_n C e_M_agentMark_80 rfl ?_
      exact s_iret C e_M_agentMark_81
set_option maxRecDepth 100000 in
theorem w_M_agentMark_B24 {X : CX} (C : Cx X ZM RX7 cX7_agentMark 4 (some .int) 1 21)   (σ : St) (x1 : Int32) (x2 : Int32) (s0 : Int32) : Sm X ZM 4 (some .int) σ [(0, .ref (cq X 0)), (1, .int x1), (2, .int x2)] 24 [.int s0, .ref (cq X 0)] (m_M_agentMark_B24 σ x1 x2 s0) := by
  unfold m_M_agentMark_B24
  refine s_callVv_1 C (c_M_begins C.inj _ _) wv_M_begins g_635 ⟨by decide, by decide⟩ fc_7 rfl zm_lt_0 (zm_0 _ _ _) rfl (Nat.le_of_ble_eq_true rfl) e_M_agentMark_24 (fun v1 σ2 => ?_)
  exact s_cut (w_M_agentMark_B27 C _ _ _) ⟨rfl, rfl, rfl, trivial⟩
set_option maxRecDepth 100000 in
theorem w_M_agentMark {X : CX} (C : Cx X ZM RX7 cX7_agentMark 4 (some .int) 1 21)  (σ : St) (x1 : Int32) : Sm X ZM 4 (some .int) σ [(0, .ref (cq X 0)), (1, .int x1)] 0 [] (m_M_agentMark σ x1) := by
  unfold m_M_agentMark
  refine s_aload_n C e_M_agentMark_0 rfl ?_
  refine s_iload_n C e_M_agentMark_1 rfl ?_
  refine s_callV_1 C (c_M_kindIn C.inj _ _) wv_M_kindIn g_629 ⟨by decide, by decide⟩ fc_7 rfl zm_lt_0 (zm_0 _ _ _) rfl (Nat.le_of_ble_eq_true rfl) e_M_agentMark_2 (fun v1 σ2 => ?_)
  refine s_istore_n C e_M_agentMark_5 (by decide) ?_
  refine s_iload_n C e_M_agentMark_6 rfl ?_
  refine s_iconst C e_M_agentMark_7 (v := (1 : Int32)) ic_1 ?_
  refine s_icmp_eq (tgt := 27) C e_M_agentMark_8 rfl ?_ ?_
  · exact s_cut (w_M_agentMark_B27 C _ _ _) ⟨rfl, rfl, rfl, trivial⟩
  · refine s_aload_n C e_M_agentMark_11 rfl ?_
    refine s_iload_n C e_M_agentMark_12 rfl ?_
    refine s_iconst C e_M_agentMark_13 (v := (2 : Int32)) ic_2 ?_
    refine s_icmp_ne (tgt := 22) C e_M_agentMark_14 rfl ?_ ?_
    · refine s_bipush C e_M_agentMark_17 (v := (24 : Int32)) bp_24 ?_
      refine s_goto (tgt := 24) C e_M_agentMark_19 rfl ?_
      exact s_cut (w_M_agentMark_B24 C _ _ _ _) ⟨rfl, rfl, rfl, trivial⟩
    · refine s_bipush C e_M_agentMark_22 (v := (22 : Int32)) bp_22 ?_
      exact s_cut (w_M_agentMark_B24 C _ _ _ _) ⟨rfl, rfl, rfl, trivial⟩
theorem c_M_agentMark {l : Launch} {D : va_G} {k : Nat → ClassId} {q : Nat → Nat} (hq : Inj ZM q)  (σ : St) (x1 : Int32) : Ct l ZM D k q yX7_agentMark cX7_agentMark 4 (some .int) 1 21 [.ref (q 0), .int x1] σ (m_M_agentMark σ x1) :=
  Ct_of hq lcM (by decide) (Nat.le_of_ble_eq_true rfl) (fun _ _ _ _ _ _ _ _ _ _ C => w_M_agentMark C σ x1)
set_option maxRecDepth 100000 in
theorem w_M_oldSize_B25 {X : CX} (C : Cx X ZM RX7 cX7_oldSize 4 (some .int) 1 21)   (σ : St) (x1 : Int32) (x2 : Int32) : Sm X ZM 4 (some .int) σ [(0, .ref (cq X 0)), (1, .int x1), (2, .int x2)] 25 [] (m_M_oldSize_B25 σ x1 x2) := by
  unfold m_M_oldSize_B25
  refine s_aload_n C e_M_oldSize_25 rfl ?_
  refine s_bipush C e_M_oldSize_26 (v := (13 : Int32)) bp_13 ?_
  refine s_callVv_1 C (c_M_begins C.inj _ _) wv_M_begins g_635 ⟨by decide, by decide⟩ fc_7 rfl zm_lt_0 (zm_0 _ _ _) rfl (Nat.le_of_ble_eq_true rfl) e_M_oldSize_28 (fun v1 σ2 => ?_)
  refine s_aload_n C e_M_oldSize_31 rfl ?_
  refine s_bipush C e_M_oldSize_32 (v := (10 : Int32)) bp_10 ?_
  refine s_callVv_1 C (c_M_begins C.inj _ _) wv_M_begins g_635 ⟨by decide, by decide⟩ fc_7 rfl zm_lt_0 (zm_0 _ _ _) rfl (Nat.le_of_ble_eq_true rfl) e_M_oldSize_34 (fun v3 σ4 => ?_)
  refine s_aload_n C e_M_oldSize_37 rfl ?_
  refine s_get C fc_7 zm_lt_0 (zm_0 _ _ _) 13 (by decide) e_M_oldSize_38 g_535 rfl ?_
  refine s_bipush C e_M_oldSize_41 (v := (22 : Int32)) bp_22 ?_
  refine s_bipush C e_M_oldSize_43 (v := (6 : Int32)) bp_6 ?_
  refine s_iload_n C e_M_oldSize_45 rfl ?_
  refine s_imul C e_M_oldSize_46 ?_
  refine s_iadd C e_M_oldSize_47 ?_
  refine s_iconst C e_M_oldSize_48 (v := (2 : Int32)) ic_2 ?_
  refine s_iadd C e_M_oldSize_49 ?_
  refine s_iald C (za_lt isA6) (za isA6) e_M_oldSize_50 ?_
  refine s_bipush C e_M_oldSize_51 (v := (100 : Int32)) bp_100 ?_
  refine s_isub C e_M_oldSize_53 ?_
  refine s_nm (fun y5 => ?_)
  refine s_istore_n C e_M_oldSize_54 (by decide) ?_
  refine s_iload_n C e_M_oldSize_55 rfl ?_
  refine s_if_eq (tgt := 65) C e_M_oldSize_56 rfl ?_ ?_
  · refine s_iload_n C e_M_oldSize_65 rfl ?_
    exact s_iret C e_M_oldSize_66
  · refine s_iconst C e_M_oldSize_59 (v := (2 : Int32)) ic_2 ?_
    refine s_iload_n C e_M_oldSize_60 rfl ?_
    refine s_imul C e_M_oldSize_61 ?_
    refine s_goto (tgt := 66) C e_M_oldSize_62 rfl ?_
    exact s_iret C e_M_oldSize_66
set_option maxRecDepth 100000 in
theorem w_M_oldSize_B14 {X : CX} (C : Cx X ZM RX7 cX7_oldSize 4 (some .int) 1 21)   (σ : St) (x1 : Int32) (s0 : Int32) : Sm X ZM 4 (some .int) σ [(0, .ref (cq X 0)), (1, .int x1)] 14 [.int s0] (m_M_oldSize_B14 σ x1 s0) := by
  unfold m_M_oldSize_B14
  refine s_istore_n C e_M_oldSize_14 (by decide) ?_
  refine s_iload_n C e_M_oldSize_15 rfl ?_
  refine s_if_eq (tgt := 25) C e_M_oldSize_16 rfl ?_ ?_
  · exact s_cut (w_M_oldSize_B25 C _ _ _) ⟨rfl, rfl, rfl, trivial⟩
  · refine s_aload_n C e_M_oldSize_19 rfl ?_
    refine s_bipush C e_M_oldSize_20 (v := (14 : Int32)) bp_14 ?_
    refine s_callVv_1 C (c_M_begins C.inj _ _) wv_M_begins g_635 ⟨by decide, by decide⟩ fc_7 rfl zm_lt_0 (zm_0 _ _ _) rfl (Nat.le_of_ble_eq_true rfl) e_M_oldSize_22 (fun v1 σ2 => ?_)
    exact s_cut (w_M_oldSize_B25 C _ _ _) ⟨rfl, rfl, rfl, trivial⟩
set_option maxRecDepth 100000 in
theorem w_M_oldSize {X : CX} (C : Cx X ZM RX7 cX7_oldSize 4 (some .int) 1 21)  (σ : St) (x1 : Int32) : Sm X ZM 4 (some .int) σ [(0, .ref (cq X 0)), (1, .int x1)] 0 [] (m_M_oldSize σ x1) := by
  unfold m_M_oldSize
  refine s_aload_n C e_M_oldSize_0 rfl ?_
  refine s_iload_n C e_M_oldSize_1 rfl ?_
  refine s_callV_1 C (c_M_kindIn C.inj _ _) wv_M_kindIn g_629 ⟨by decide, by decide⟩ fc_7 rfl zm_lt_0 (zm_0 _ _ _) rfl (Nat.le_of_ble_eq_true rfl) e_M_oldSize_2 (fun v1 σ2 => ?_)
  refine s_iconst C e_M_oldSize_5 (v := (5 : Int32)) ic_5 ?_
  refine s_icmp_ne (tgt := 13) C e_M_oldSize_6 rfl ?_ ?_
  · refine s_iconst C e_M_oldSize_9 (v := (1 : Int32)) ic_1 ?_
    refine s_goto (tgt := 14) C e_M_oldSize_10 rfl ?_
    exact s_cut (w_M_oldSize_B14 C _ _ _) ⟨rfl, rfl, trivial⟩
  · refine s_iconst C e_M_oldSize_13 (v := (0 : Int32)) ic_0 ?_
    exact s_cut (w_M_oldSize_B14 C _ _ _) ⟨rfl, rfl, trivial⟩
theorem c_M_oldSize {l : Launch} {D : va_G} {k : Nat → ClassId} {q : Nat → Nat} (hq : Inj ZM q)  (σ : St) (x1 : Int32) : Ct l ZM D k q yX7_oldSize cX7_oldSize 4 (some .int) 1 21 [.ref (q 0), .int x1] σ (m_M_oldSize σ x1) :=
  Ct_of hq lcM (by decide) (Nat.le_of_ble_eq_true rfl) (fun _ _ _ _ _ _ _ _ _ _ C => w_M_oldSize C σ x1)
set_option maxRecDepth 100000 in
theorem w_M_agentSize_B25 {X : CX} (C : Cx X ZM RX7 cX7_agentSize 4 (some .int) 2 44)   (σ : St) (x1 : Int32) (x2 : Int32) : Sm X ZM 4 (some .int) σ [(0, .ref (cq X 0)), (1, .int x1), (2, .int x2)] 25 [] (m_M_agentSize_B25 σ x1 x2) := by
  unfold m_M_agentSize_B25
  refine s_aload_n C e_M_agentSize_25 rfl ?_
  refine s_bipush C e_M_agentSize_26 (v := (11 : Int32)) bp_11 ?_
  refine s_callVv_1 C (c_M_begins C.inj _ _) wv_M_begins g_635 ⟨by decide, by decide⟩ fc_7 rfl zm_lt_0 (zm_0 _ _ _) rfl (Nat.le_of_ble_eq_true rfl) e_M_agentSize_28 (fun v1 σ2 => ?_)
  refine s_aload_n C e_M_agentSize_31 rfl ?_
  refine s_bipush C e_M_agentSize_32 (v := (10 : Int32)) bp_10 ?_
  refine s_callVv_1 C (c_M_begins C.inj _ _) wv_M_begins g_635 ⟨by decide, by decide⟩ fc_7 rfl zm_lt_0 (zm_0 _ _ _) rfl (Nat.le_of_ble_eq_true rfl) e_M_agentSize_34 (fun v3 σ4 => ?_)
  refine s_aload_n C e_M_agentSize_37 rfl ?_
  refine s_get C fc_7 zm_lt_0 (zm_0 _ _ _) 13 (by decide) e_M_agentSize_38 g_535 rfl ?_
  refine s_bipush C e_M_agentSize_41 (v := (22 : Int32)) bp_22 ?_
  refine s_bipush C e_M_agentSize_43 (v := (6 : Int32)) bp_6 ?_
  refine s_iload_n C e_M_agentSize_45 rfl ?_
  refine s_imul C e_M_agentSize_46 ?_
  refine s_iadd C e_M_agentSize_47 ?_
  refine s_iconst C e_M_agentSize_48 (v := (2 : Int32)) ic_2 ?_
  refine s_iadd C e_M_agentSize_49 ?_
  refine s_iald C (za_lt isA6) (za isA6) e_M_agentSize_50 ?_
  refine s_aload_n C e_M_agentSize_51 rfl ?_
  refine s_iload_n C e_M_agentSize_52 rfl ?_
  refine s_callV_1 C (c_M_agentMark C.inj _ _) wv_M_agentMark g_639 ⟨by decide, by decide⟩ fc_7 rfl zm_lt_0 (zm_0 _ _ _) rfl (Nat.le_of_ble_eq_true rfl) e_M_agentSize_53 (fun v5 σ6 => ?_)
  refine s_iadd C e_M_agentSize_56 ?_
  refine s_nm (fun y7 => ?_)
  refine s_istore_n C e_M_agentSize_57 (by decide) ?_
  refine s_iload_n C e_M_agentSize_58 rfl ?_
  refine s_if_eq (tgt := 67) C e_M_agentSize_59 rfl ?_ ?_
  · refine s_iload_n C e_M_agentSize_67 rfl ?_
    exact s_iret C e_M_agentSize_68
  · refine s_iload_n C e_M_agentSize_62 rfl ?_
    refine s_ineg C e_M_agentSize_63 ?_
    refine s_goto (tgt := 68) C e_M_agentSize_64 rfl ?_
    exact s_iret C e_M_agentSize_68
set_option maxRecDepth 100000 in
theorem w_M_agentSize_B14 {X : CX} (C : Cx X ZM RX7 cX7_agentSize 4 (some .int) 2 44)   (σ : St) (x1 : Int32) (s0 : Int32) : Sm X ZM 4 (some .int) σ [(0, .ref (cq X 0)), (1, .int x1)] 14 [.int s0] (m_M_agentSize_B14 σ x1 s0) := by
  unfold m_M_agentSize_B14
  refine s_istore_n C e_M_agentSize_14 (by decide) ?_
  refine s_iload_n C e_M_agentSize_15 rfl ?_
  refine s_if_eq (tgt := 25) C e_M_agentSize_16 rfl ?_ ?_
  · exact s_cut (w_M_agentSize_B25 C _ _ _) ⟨rfl, rfl, rfl, trivial⟩
  · refine s_aload_n C e_M_agentSize_19 rfl ?_
    refine s_bipush C e_M_agentSize_20 (v := (12 : Int32)) bp_12 ?_
    refine s_callVv_1 C (c_M_begins C.inj _ _) wv_M_begins g_635 ⟨by decide, by decide⟩ fc_7 rfl zm_lt_0 (zm_0 _ _ _) rfl (Nat.le_of_ble_eq_true rfl) e_M_agentSize_22 (fun v1 σ2 => ?_)
    exact s_cut (w_M_agentSize_B25 C _ _ _) ⟨rfl, rfl, rfl, trivial⟩
set_option maxRecDepth 100000 in
theorem w_M_agentSize {X : CX} (C : Cx X ZM RX7 cX7_agentSize 4 (some .int) 2 44)  (σ : St) (x1 : Int32) : Sm X ZM 4 (some .int) σ [(0, .ref (cq X 0)), (1, .int x1)] 0 [] (m_M_agentSize σ x1) := by
  unfold m_M_agentSize
  refine s_aload_n C e_M_agentSize_0 rfl ?_
  refine s_iload_n C e_M_agentSize_1 rfl ?_
  refine s_callV_1 C (c_M_kindIn C.inj _ _) wv_M_kindIn g_629 ⟨by decide, by decide⟩ fc_7 rfl zm_lt_0 (zm_0 _ _ _) rfl (Nat.le_of_ble_eq_true rfl) e_M_agentSize_2 (fun v1 σ2 => ?_)
  refine s_iconst C e_M_agentSize_5 (v := (2 : Int32)) ic_2 ?_
  refine s_icmp_ne (tgt := 13) C e_M_agentSize_6 rfl ?_ ?_
  · refine s_iconst C e_M_agentSize_9 (v := (1 : Int32)) ic_1 ?_
    refine s_goto (tgt := 14) C e_M_agentSize_10 rfl ?_
    exact s_cut (w_M_agentSize_B14 C _ _ _) ⟨rfl, rfl, trivial⟩
  · refine s_iconst C e_M_agentSize_13 (v := (0 : Int32)) ic_0 ?_
    exact s_cut (w_M_agentSize_B14 C _ _ _) ⟨rfl, rfl, trivial⟩
theorem c_M_agentSize {l : Launch} {D : va_G} {k : Nat → ClassId} {q : Nat → Nat} (hq : Inj ZM q)  (σ : St) (x1 : Int32) : Ct l ZM D k q yX7_agentSize cX7_agentSize 4 (some .int) 2 44 [.ref (q 0), .int x1] σ (m_M_agentSize σ x1) :=
  Ct_of hq lcM (by decide) (Nat.le_of_ble_eq_true rfl) (fun _ _ _ _ _ _ _ _ _ _ C => w_M_agentSize C σ x1)
set_option maxRecDepth 100000 in
theorem w_M_oldMark {X : CX} (C : Cx X ZM RX7 cX7_oldMark 2 (some .int) 2 44)  (σ : St) (x1 : Int32) : Sm X ZM 2 (some .int) σ [(0, .ref (cq X 0)), (1, .int x1)] 0 [] (m_M_oldMark σ x1) := by
  unfold m_M_oldMark
  refine s_aload_n C e_M_oldMark_0 rfl ?_
  refine s_bipush C e_M_oldMark_1 (v := (23 : Int32)) bp_23 ?_
  refine s_callVv_1 C (c_M_begins C.inj _ _) wv_M_begins g_635 ⟨by decide, by decide⟩ fc_7 rfl zm_lt_0 (zm_0 _ _ _) rfl (Nat.le_of_ble_eq_true rfl) e_M_oldMark_3 (fun v1 σ2 => ?_)
  refine s_aload_n C e_M_oldMark_6 rfl ?_
  refine s_bipush C e_M_oldMark_7 (v := (20 : Int32)) bp_20 ?_
  refine s_callVv_1 C (c_M_begins C.inj _ _) wv_M_begins g_635 ⟨by decide, by decide⟩ fc_7 rfl zm_lt_0 (zm_0 _ _ _) rfl (Nat.le_of_ble_eq_true rfl) e_M_oldMark_9 (fun v3 σ4 => ?_)
  refine s_iload_n C e_M_oldMark_12 rfl ?_
  refine s_aload_n C e_M_oldMark_13 rfl ?_
  refine s_iload_n C e_M_oldMark_14 rfl ?_
  refine s_callV_1 C (c_M_oldSize C.inj _ _) wv_M_oldSize g_643 ⟨by decide, by decide⟩ fc_7 rfl zm_lt_0 (zm_0 _ _ _) rfl (Nat.le_of_ble_eq_true rfl) e_M_oldMark_15 (fun v5 σ6 => ?_)
  refine s_isub C e_M_oldMark_18 ?_
  exact s_iret C e_M_oldMark_19
theorem c_M_oldMark {l : Launch} {D : va_G} {k : Nat → ClassId} {q : Nat → Nat} (hq : Inj ZM q)  (σ : St) (x1 : Int32) : Ct l ZM D k q yX7_oldMark cX7_oldMark 2 (some .int) 2 44 [.ref (q 0), .int x1] σ (m_M_oldMark σ x1) :=
  Ct_of hq lcM (by decide) (Nat.le_of_ble_eq_true rfl) (fun _ _ _ _ _ _ _ _ _ _ C => w_M_oldMark C σ x1)
set_option maxRecDepth 100000 in
theorem w_M_ask_B39 {X : CX} (C : Cx X ZM RX7 cX7_ask 4 (some .int) 3 67)   (σ : St) (x1 : Int32) (x2 : Int32) (s0 : Int32) : Sm X ZM 4 (some .int) σ [(0, .ref (cq X 0)), (1, .int x1), (2, .int x2)] 39 [.int s0] (m_M_ask_B39 σ x1 x2 s0) := by
  unfold m_M_ask_B39
  refine s_istore_n C e_M_ask_39 (by decide) ?_
  refine s_iload_n C e_M_ask_40 rfl ?_
  refine s_if_ne (tgt := 62) C e_M_ask_41 rfl ?_ ?_
  · refine s_iload_n C e_M_ask_44 rfl ?_
    refine s_if_eq (tgt := 56) C e_M_ask_45 rfl ?_ ?_
    · refine s_aload_n C e_M_ask_56 rfl ?_
      refine s_iload_n C e_M_ask_57 rfl ?_
      refine s_callV_1 C (c_M_agentSize C.inj _ _) wv_M_agentSize g_651 ⟨by decide, by decide⟩ fc_7 rfl zm_lt_0 (zm_0 _ _ _) rfl (Nat.le_of_ble_eq_true rfl) e_M_ask_58 (fun v5 σ6 => ?_)
      exact s_iret C e_M_ask_61
    · refine s_aload_n C e_M_ask_48 rfl ?_
      refine s_iload_n C e_M_ask_49 rfl ?_
      refine s_callV_1 C (c_M_oldSize C.inj _ _) wv_M_oldSize g_643 ⟨by decide, by decide⟩ fc_7 rfl zm_lt_0 (zm_0 _ _ _) rfl (Nat.le_of_ble_eq_true rfl) e_M_ask_50 (fun v7 σ8 => ?_)
      refine s_goto (tgt := 61) C e_M_ask_53 rfl ?_
      exact s_iret C e_M_ask_61
  · refine s_iload_n C e_M_ask_62 rfl ?_
    refine s_if_eq (tgt := 74) C e_M_ask_63 rfl ?_ ?_
    · refine s_aload_n C e_M_ask_74 rfl ?_
      refine s_iload_n C e_M_ask_75 rfl ?_
      refine s_callV_1 C (c_M_agentMark C.inj _ _) wv_M_agentMark g_639 ⟨by decide, by decide⟩ fc_7 rfl zm_lt_0 (zm_0 _ _ _) rfl (Nat.le_of_ble_eq_true rfl) e_M_ask_76 (fun v1 σ2 => ?_)
      exact s_iret C e_M_ask_79
    · refine s_aload_n C e_M_ask_66 rfl ?_
      refine s_iload_n C e_M_ask_67 rfl ?_
      refine s_callV_1 C (c_M_oldMark C.inj _ _) wv_M_oldMark g_647 ⟨by decide, by decide⟩ fc_7 rfl zm_lt_0 (zm_0 _ _ _) rfl (Nat.le_of_ble_eq_true rfl) e_M_ask_68 (fun v3 σ4 => ?_)
      refine s_goto (tgt := 79) C e_M_ask_71 rfl ?_
      exact s_iret C e_M_ask_79
set_option maxRecDepth 100000 in
theorem w_M_ask {X : CX} (C : Cx X ZM RX7 cX7_ask 4 (some .int) 3 67)  (σ : St) (x1 : Int32) (x2 : Int32) : Sm X ZM 4 (some .int) σ [(0, .ref (cq X 0)), (1, .int x1), (2, .int x2)] 0 [] (m_M_ask σ x1 x2) := by
  unfold m_M_ask
  refine s_aload_n C e_M_ask_0 rfl ?_
  refine s_iload_n C e_M_ask_1 rfl ?_
  refine s_callV_1 C (c_M_isPin C.inj _ _) wv_M_isPin g_583 ⟨by decide, by decide⟩ fc_7 rfl zm_lt_0 (zm_0 _ _ _) rfl (Nat.le_of_ble_eq_true rfl) e_M_ask_2 (fun v1 σ2 => ?_)
  refine s_if_eq (tgt := 17) C e_M_ask_5 rfl ?_ ?_
  · refine s_ldc C e_M_ask_17 g_453 ?_
    exact s_iret C e_M_ask_19
  · refine s_iload_n C e_M_ask_8 rfl ?_
    refine s_iconst C e_M_ask_9 (v := (0 : Int32)) ic_0 ?_
    refine s_iconst C e_M_ask_10 (v := (1 : Int32)) ic_1 ?_
    refine s_callS_3 C (c_M_in C.inj _ _ _ _) wv_M_in g_447 ⟨by decide, by decide⟩ rfl (Nat.le_of_ble_eq_true rfl) e_M_ask_11 (fun v3 σ4 => ?_)
    refine s_if_ne (tgt := 20) C e_M_ask_14 rfl ?_ ?_
    · refine s_ldc C e_M_ask_17 g_453 ?_
      exact s_iret C e_M_ask_19
    · refine s_aload_n C e_M_ask_20 rfl ?_
      refine s_iconst C e_M_ask_21 (v := (0 : Int32)) ic_0 ?_
      refine s_put C fc_7 zm_lt_0 (zm_0 _ _ _) 24 (by decide) (zmp_24 _ _ _ _) (Nat.le_of_ble_eq_true rfl) e_M_ask_22 g_633 rfl rfl (fun σ5 => ?_)
      refine s_aload_n C e_M_ask_25 rfl ?_
      refine s_iload_n C e_M_ask_26 rfl ?_
      refine s_callV_1 C (c_M_kindIn C.inj _ _) wv_M_kindIn g_629 ⟨by decide, by decide⟩ fc_7 rfl zm_lt_0 (zm_0 _ _ _) rfl (Nat.le_of_ble_eq_true rfl) e_M_ask_27 (fun v6 σ7 => ?_)
      refine s_iconst C e_M_ask_30 (v := (4 : Int32)) ic_4 ?_
      refine s_icmp_lt (tgt := 38) C e_M_ask_31 rfl ?_ ?_
      · refine s_iconst C e_M_ask_38 (v := (0 : Int32)) ic_0 ?_
        exact s_cut (w_M_ask_B39 C _ _ _ _) ⟨rfl, rfl, rfl, trivial⟩
      · refine s_iconst C e_M_ask_34 (v := (1 : Int32)) ic_1 ?_
        refine s_goto (tgt := 39) C e_M_ask_35 rfl ?_
        exact s_cut (w_M_ask_B39 C _ _ _ _) ⟨rfl, rfl, rfl, trivial⟩
theorem c_M_ask {l : Launch} {D : va_G} {k : Nat → ClassId} {q : Nat → Nat} (hq : Inj ZM q)  (σ : St) (x1 : Int32) (x2 : Int32) : Ct l ZM D k q yX7_ask cX7_ask 4 (some .int) 3 67 [.ref (q 0), .int x1, .int x2] σ (m_M_ask σ x1 x2) :=
  Ct_of hq lcM (by decide) (Nat.le_of_ble_eq_true rfl) (fun _ _ _ _ _ _ _ _ _ _ C => w_M_ask C σ x1 x2)
set_option maxRecDepth 100000 in
theorem w_M_trace {X : CX} (C : Cx X ZM RX7 cX7_trace 2 (some .int) 1 22)  (σ : St) (x1 : Int32) : Sm X ZM 2 (some .int) σ [(0, .ref (cq X 0)), (1, .int x1)] 0 [] (m_M_trace σ x1) := by
  unfold m_M_trace
  refine s_iload_n C e_M_trace_0 rfl ?_
  refine s_iconst C e_M_trace_1 (v := (0 : Int32)) ic_0 ?_
  refine s_aload_n C e_M_trace_2 rfl ?_
  refine s_get C fc_7 zm_lt_0 (zm_0 _ _ _) 24 (by decide) e_M_trace_3 g_633 rfl ?_
  refine s_iconst C e_M_trace_6 (v := (1 : Int32)) ic_1 ?_
  refine s_isub C e_M_trace_7 ?_
  refine s_callS_3 C (c_M_in C.inj _ _ _ _) wv_M_in g_447 ⟨by decide, by decide⟩ rfl (Nat.le_of_ble_eq_true rfl) e_M_trace_8 (fun v1 σ2 => ?_)
  refine s_if_eq (tgt := 23) C e_M_trace_11 rfl ?_ ?_
  · refine s_ldc C e_M_trace_23 g_452 ?_
    exact s_iret C e_M_trace_25
  · refine s_aload_n C e_M_trace_14 rfl ?_
    refine s_get C fc_7 zm_lt_0 (zm_0 _ _ _) 23 (by decide) e_M_trace_15 g_634 rfl ?_
    refine s_iload_n C e_M_trace_18 rfl ?_
    refine s_iald C (za_lt isA15) (za isA15) e_M_trace_19 ?_
    refine s_goto (tgt := 25) C e_M_trace_20 rfl ?_
    exact s_iret C e_M_trace_25
theorem c_M_trace {l : Launch} {D : va_G} {k : Nat → ClassId} {q : Nat → Nat} (hq : Inj ZM q)  (σ : St) (x1 : Int32) : Ct l ZM D k q yX7_trace cX7_trace 2 (some .int) 1 22 [.ref (q 0), .int x1] σ (m_M_trace σ x1) :=
  Ct_of hq lcM (by decide) (Nat.le_of_ble_eq_true rfl) (fun _ _ _ _ _ _ _ _ _ _ C => w_M_trace C σ x1)
set_option maxRecDepth 100000 in
theorem w_M_count_B78 {X : CX} (C : Cx X ZM RX7 cX7_count 4 (some .int) 2 43)  (r58 : St → Int32 → Int32 → Rt) (hr58 : ∀ (σ : St) (x2 : Int32) (x3 : Int32), Sm X ZM 4 (some .int) σ [(0, .ref (cq X 0)), (2, .int x2), (3, .int x3)] 58 [] (r58 σ x2 x3)) (σ : St) (x3 : Int32) (s0 : Int32) (s1 : Int32) : Sm X ZM 4 (some .int) σ [(0, .ref (cq X 0)), (3, .int x3)] 78 [.int s0, .int s1] (m_M_count_B78 r58 σ x3 s0 s1) := by
  unfold m_M_count_B78
  refine s_iadd C e_M_count_78 ?_
  refine s_nm (fun y1 => ?_)
  refine s_istore_n C e_M_count_79 (by decide) ?_
  refine s_iinc C e_M_count_80 (v := (1 : Int32)) rfl (by decide) ii_1 ?_
  refine s_goto (tgt := 58) C e_M_count_83 rfl ?_
  exact s_cut (hr58 _ _ _) ⟨rfl, rfl, rfl, trivial⟩
set_option maxRecDepth 100000 in
theorem w_M_count_B58 {X : CX} (C : Cx X ZM RX7 cX7_count 4 (some .int) 2 43)  (r58 : St → Int32 → Int32 → Rt) (hr58 : ∀ (σ : St) (x2 : Int32) (x3 : Int32), Sm X ZM 4 (some .int) σ [(0, .ref (cq X 0)), (2, .int x2), (3, .int x3)] 58 [] (r58 σ x2 x3)) (σ : St) (x2 : Int32) (x3 : Int32) : Sm X ZM 4 (some .int) σ [(0, .ref (cq X 0)), (2, .int x2), (3, .int x3)] 58 [] (m_M_count_B58 r58 σ x2 x3) := by
  unfold m_M_count_B58
  refine s_iload_n C e_M_count_58 rfl ?_
  refine s_bipush C e_M_count_59 (v := (8 : Int32)) bp_8 ?_
  refine s_icmp_ge (tgt := 86) C e_M_count_61 rfl ?_ ?_
  · refine s_iload_n C e_M_count_86 rfl ?_
    exact s_iret C e_M_count_87
  · refine s_iload_n C e_M_count_64 rfl ?_
    refine s_aload_n C e_M_count_65 rfl ?_
    refine s_iload_n C e_M_count_66 rfl ?_
    refine s_callV_1 C (c_M_isMissing C.inj _ _) wv_M_isMissing g_470 ⟨by decide, by decide⟩ fc_7 rfl zm_lt_0 (zm_0 _ _ _) rfl (Nat.le_of_ble_eq_true rfl) e_M_count_67 (fun v1 σ2 => ?_)
    refine s_if_eq (tgt := 77) C e_M_count_70 rfl ?_ ?_
    · refine s_iconst C e_M_count_77 (v := (1 : Int32)) ic_1 ?_
      exact s_cut (w_M_count_B78 C r58 hr58 _ _ _ _) ⟨rfl, rfl, trivial⟩
    · refine s_iconst C e_M_count_73 (v := (0 : Int32)) ic_0 ?_
      refine s_goto (tgt := 78) C e_M_count_74 rfl ?_
      exact s_cut (w_M_count_B78 C r58 hr58 _ _ _ _) ⟨rfl, rfl, trivial⟩
theorem w_M_count_L58 {X : CX} (C : Cx X ZM RX7 cX7_count 4 (some .int) 2 43)   : ∀ (n : Nat) (σ : St) (x2 : Int32) (x3 : Int32), Sm X ZM 4 (some .int) σ [(0, .ref (cq X 0)), (2, .int x2), (3, .int x3)] 58 [] (m_M_count_L58 n σ x2 x3)
  | 0, _, _, _ => s_none
  | n + 1, σ, x2, x3 => w_M_count_B58 C (m_M_count_L58 n) (w_M_count_L58 C n) σ x2 x3
set_option maxRecDepth 100000 in
theorem w_M_count {X : CX} (C : Cx X ZM RX7 cX7_count 4 (some .int) 2 43)  (σ : St) (x1 : Int32) : Sm X ZM 4 (some .int) σ [(0, .ref (cq X 0)), (1, .int x1)] 0 [] (m_M_count σ x1) := by
  unfold m_M_count
  refine s_iconst C e_M_count_0 (v := (0 : Int32)) ic_0 ?_
  refine s_istore_n C e_M_count_1 (by decide) ?_
  refine s_iload_n C e_M_count_2 rfl ?_
  refine s_split (fun h3_0 => ?_) (fun h3_0 => ?_)
  · refine s_tabI (v := (0 : Int32)) (off := 53) (tgt := 56) C h3_0 e_M_count_3 (by decide) (by decide) rfl rfl ?_
    refine s_iconst C e_M_count_56 (v := (0 : Int32)) ic_0 ?_
    refine s_istore_n C e_M_count_57 (by decide) ?_
    exact s_cut (w_M_count_L58 C FU _ _ _) ⟨rfl, rfl, rfl, trivial⟩
  · skip
    refine s_split (fun h3_1 => ?_) (fun h3_1 => ?_)
    · refine s_tabI (v := (1 : Int32)) (off := 85) (tgt := 88) C h3_1 e_M_count_3 (by decide) (by decide) rfl rfl ?_
      refine s_aload_n C e_M_count_88 rfl ?_
      refine s_get C fc_7 zm_lt_0 (zm_0 _ _ _) 13 (by decide) e_M_count_89 g_535 rfl ?_
      refine s_iconst C e_M_count_92 (v := (1 : Int32)) ic_1 ?_
      refine s_iald C (za_lt isA6) (za isA6) e_M_count_93 ?_
      exact s_iret C e_M_count_94
    · skip
      refine s_split (fun h3_2 => ?_) (fun h3_2 => ?_)
      · refine s_tabI (v := (2 : Int32)) (off := 92) (tgt := 95) C h3_2 e_M_count_3 (by decide) (by decide) rfl rfl ?_
        refine s_aload_n C e_M_count_95 rfl ?_
        refine s_get C fc_7 zm_lt_0 (zm_0 _ _ _) 13 (by decide) e_M_count_96 g_535 rfl ?_
        refine s_iconst C e_M_count_99 (v := (2 : Int32)) ic_2 ?_
        refine s_iald C (za_lt isA6) (za isA6) e_M_count_100 ?_
        exact s_iret C e_M_count_101
      · skip
        refine s_split (fun h3_3 => ?_) (fun h3_3 => ?_)
        · refine s_tabI (v := (3 : Int32)) (off := 99) (tgt := 102) C h3_3 e_M_count_3 (by decide) (by decide) rfl rfl ?_
          refine s_aload_n C e_M_count_102 rfl ?_
          refine s_get C fc_7 zm_lt_0 (zm_0 _ _ _) 13 (by decide) e_M_count_103 g_535 rfl ?_
          refine s_iconst C e_M_count_106 (v := (3 : Int32)) ic_3 ?_
          refine s_iald C (za_lt isA6) (za isA6) e_M_count_107 ?_
          exact s_iret C e_M_count_108
        · skip
          refine s_split (fun h3_4 => ?_) (fun h3_4 => ?_)
          · refine s_tabI (v := (4 : Int32)) (off := 106) (tgt := 109) C h3_4 e_M_count_3 (by decide) (by decide) rfl rfl ?_
            refine s_aload_n C e_M_count_109 rfl ?_
            refine s_get C fc_7 zm_lt_0 (zm_0 _ _ _) 13 (by decide) e_M_count_110 g_535 rfl ?_
            refine s_iconst C e_M_count_113 (v := (4 : Int32)) ic_4 ?_
            refine s_iald C (za_lt isA6) (za isA6) e_M_count_114 ?_
            exact s_iret C e_M_count_115
          · skip
            refine s_split (fun h3_5 => ?_) (fun h3_5 => ?_)
            · refine s_tabI (v := (5 : Int32)) (off := 113) (tgt := 116) C h3_5 e_M_count_3 (by decide) (by decide) rfl rfl ?_
              refine s_aload_n C e_M_count_116 rfl ?_
              refine s_get C fc_7 zm_lt_0 (zm_0 _ _ _) 13 (by decide) e_M_count_117 g_535 rfl ?_
              refine s_iconst C e_M_count_120 (v := (0 : Int32)) ic_0 ?_
              refine s_iald C (za_lt isA6) (za isA6) e_M_count_121 ?_
              exact s_iret C e_M_count_122
            · skip
              refine s_split (fun h3_6 => ?_) (fun h3_6 => ?_)
              · refine s_tabI (v := (6 : Int32)) (off := 120) (tgt := 123) C h3_6 e_M_count_3 (by decide) (by decide) rfl rfl ?_
                refine s_aload_n C e_M_count_123 rfl ?_
                refine s_get C fc_7 zm_lt_0 (zm_0 _ _ _) 13 (by decide) e_M_count_124 g_535 rfl ?_
                refine s_iconst C e_M_count_127 (v := (5 : Int32)) ic_5 ?_
                refine s_iald C (za_lt isA6) (za isA6) e_M_count_128 ?_
                exact s_iret C e_M_count_129
              · skip
                refine s_split (fun h3_7 => ?_) (fun h3_7 => ?_)
                · refine s_tabI (v := (7 : Int32)) (off := 127) (tgt := 130) C h3_7 e_M_count_3 (by decide) (by decide) rfl rfl ?_
                  refine s_aload_n C e_M_count_130 rfl ?_
                  refine s_get C fc_7 zm_lt_0 (zm_0 _ _ _) 13 (by decide) e_M_count_131 g_535 rfl ?_
                  refine s_callS_1 C (c_M_inTray C.inj isA6 _) wv_M_inTray g_621 ⟨by decide, by decide⟩ rfl (Nat.le_of_ble_eq_true rfl) e_M_count_134 (fun v1 σ2 => ?_)
                  exact s_iret C e_M_count_137
                · skip
                  refine s_split (fun h3_8 => ?_) (fun h3_8 => ?_)
                  · refine s_tabI (v := (8 : Int32)) (off := 135) (tgt := 138) C h3_8 e_M_count_3 (by decide) (by decide) rfl rfl ?_
                    refine s_aload_n C e_M_count_138 rfl ?_
                    refine s_get C fc_7 zm_lt_0 (zm_0 _ _ _) 17 (by decide) e_M_count_139 g_536 rfl ?_
                    exact s_iret C e_M_count_142
                  · skip
                    refine s_split (fun h3_9 => ?_) (fun h3_9 => ?_)
                    · refine s_tabI (v := (9 : Int32)) (off := 140) (tgt := 143) C h3_9 e_M_count_3 (by decide) (by decide) rfl rfl ?_
                      refine s_aload_n C e_M_count_143 rfl ?_
                      refine s_get C fc_7 zm_lt_0 (zm_0 _ _ _) 6 (by decide) e_M_count_144 g_479 rfl ?_
                      exact s_iret C e_M_count_147
                    · skip
                      have hx : x1.toInt < 0 ∨ 9 < x1.toInt := by
                        have q0 := ne_i (z := 0) rfl h3_0
                        have q1 := ne_i (z := 1) rfl h3_1
                        have q2 := ne_i (z := 2) rfl h3_2
                        have q3 := ne_i (z := 3) rfl h3_3
                        have q4 := ne_i (z := 4) rfl h3_4
                        have q5 := ne_i (z := 5) rfl h3_5
                        have q6 := ne_i (z := 6) rfl h3_6
                        have q7 := ne_i (z := 7) rfl h3_7
                        have q8 := ne_i (z := 8) rfl h3_8
                        have q9 := ne_i (z := 9) rfl h3_9
                        omega
                      refine s_tabO (tgt := 148) C e_M_count_3 hx rfl ?_
                      refine s_ldc C e_M_count_148 g_453 ?_
                      exact s_iret C e_M_count_150
theorem c_M_count {l : Launch} {D : va_G} {k : Nat → ClassId} {q : Nat → Nat} (hq : Inj ZM q)  (σ : St) (x1 : Int32) : Ct l ZM D k q yX7_count cX7_count 4 (some .int) 2 43 [.ref (q 0), .int x1] σ (m_M_count σ x1) :=
  Ct_of hq lcM (by decide) (Nat.le_of_ble_eq_true rfl) (fun _ _ _ _ _ _ _ _ _ _ C => w_M_count C σ x1)
set_option maxRecDepth 100000 in
theorem w_M_status {X : CX} (C : Cx X ZM RX7 cX7_status 1 (some .int) 0 0)  (σ : St)  : Sm X ZM 1 (some .int) σ [(0, .ref (cq X 0))] 0 [] (m_M_status σ) := by
  unfold m_M_status
  refine s_aload_n C e_M_status_0 rfl ?_
  refine s_get C fc_7 zm_lt_0 (zm_0 _ _ _) 4 (by decide) e_M_status_1 g_445 rfl ?_
  exact s_iret C e_M_status_4
theorem c_M_status {l : Launch} {D : va_G} {k : Nat → ClassId} {q : Nat → Nat} (hq : Inj ZM q)  (σ : St)  : Ct l ZM D k q yX7_status cX7_status 1 (some .int) 0 0 [.ref (q 0)] σ (m_M_status σ) :=
  Ct_of hq lcM (by decide) (Nat.le_of_ble_eq_true rfl) (fun _ _ _ _ _ _ _ _ _ _ C => w_M_status C σ)
