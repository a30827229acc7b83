def w_X6_fine (N : Nat) (σ : kS) (x1 : Int32) (Q : Int32 → kS → Prop) : Prop :=
  ∀ σ_1 : kS, σ_1 = st2 σ 0 8 0 → (Q x1 σ_1)
set_option maxHeartbeats 4000000 in
set_option maxRecDepth 100000 in
theorem s_X6_fine {X : kX} {g : kG} {N : Nat} {Q : Int32 → kS → Prop} (hc : kOk X g RX6 cX6_fine 2 (some .int) 0) (hZ : kRi X g cX6_fine Q) {σ : kS} {x1 : Int32} (h : w_X6_fine N σ x1 Q) : kP X g 2 0 [(0, kz g 0), (1, .int x1)] [] σ := by
  unfold w_X6_fine at h
  refine r_aload_n hc 0 dX6_fine_0 rfl ?_
  refine r_iconst (v := 0) hc dX6_fine_1 rfl ?_
  refine pf_X6_8 hc lf_X6_299 dX6_fine_2 ?_
  refine r_nmS (fun σ_1 eσ_1 => ?_)
  have h := h σ_1 eσ_1
  refine r_iload_n hc 1 dX6_fine_5 rfl ?_
  exact r_iret (ls0 := []) hZ dX6_fine_6 h
theorem m_X6_fine {l : Launch} {g : kG} {N : Nat} {σ : kS} {x1 : Int32} {Q : Int32 → kS → Prop} (h : w_X6_fine N σ x1 Q) : kMi l g yX6_fine cX6_fine 2 (some .int) 0 [kz g 0, .int x1] σ Q :=
  k_met_i (by decide +kernel) rfl (Nat.le_of_ble_eq_true rfl) (fun X hl hc hZ => s_X6_fine hc hZ h)
def w_X6_found (N : Nat) (σ : kS) (x1 : Int32) (Q : Int32 → kS → Prop) : Prop :=
  ∀ σ_1 : kS, σ_1 = st2 σ 0 8 x1 → (Q ((-1000010) - x1) σ_1)
set_option maxHeartbeats 4000000 in
set_option maxRecDepth 100000 in
theorem s_X6_found {X : kX} {g : kG} {N : Nat} {Q : Int32 → kS → Prop} (hc : kOk X g RX6 cX6_found 2 (some .int) 0) (hZ : kRi X g cX6_found Q) {σ : kS} {x1 : Int32} (h : w_X6_found N σ x1 Q) : kP X g 2 0 [(0, kz g 0), (1, .int x1)] [] σ := by
  unfold w_X6_found at h
  refine r_aload_n hc 0 dX6_found_0 rfl ?_
  refine r_iload_n hc 1 dX6_found_1 rfl ?_
  refine pf_X6_8 hc lf_X6_299 dX6_found_2 ?_
  refine r_nmS (fun σ_1 eσ_1 => ?_)
  have h := h σ_1 eσ_1
  refine r_ldc_w hc lk_X6_302 dX6_found_5 ?_
  refine r_iload_n hc 1 dX6_found_8 rfl ?_
  refine r_isub hc dX6_found_9 ?_
  exact r_iret (ls0 := []) hZ dX6_found_10 h
theorem m_X6_found {l : Launch} {g : kG} {N : Nat} {σ : kS} {x1 : Int32} {Q : Int32 → kS → Prop} (h : w_X6_found N σ x1 Q) : kMi l g yX6_found cX6_found 2 (some .int) 0 [kz g 0, .int x1] σ Q :=
  k_met_i (by decide +kernel) rfl (Nat.le_of_ble_eq_true rfl) (fun X hl hc hZ => s_X6_found hc hZ h)
def w_X6_isRow (N : Nat) (σ : kS) (x0 : Int32) (Q : Int32 → kS → Prop) : Prop :=
  if x0 < 0 then (Q 0 σ) else (if 8 ≤ x0 then (Q 0 σ) else (Q 1 σ))
set_option maxHeartbeats 4000000 in
set_option maxRecDepth 100000 in
theorem s_X6_isRow {X : kX} {g : kG} {N : Nat} {Q : Int32 → kS → Prop} (hc : kOk X g RX6 cX6_isRow 1 (some .boolean) 0) (hZ : kRz X g cX6_isRow Q) {σ : kS} {x0 : Int32} (h : w_X6_isRow N σ x0 Q) : kP X g 1 0 [(0, .int x0)] [] σ := by
  unfold w_X6_isRow at h
  refine r_iload_n hc 0 dX6_isRow_0 rfl ?_
  refine r_if_lt hc 14 dX6_isRow_1 (by decide) (fun q => ?_) (fun q => ?_)
  · have h := kif_t h q
    refine r_iconst (v := 0) hc dX6_isRow_14 rfl ?_
    exact r_zret (ls0 := []) hZ dX6_isRow_15 (Or.inl rfl) h
  · have h := kif_f h q
    refine r_iload_n hc 0 dX6_isRow_4 rfl ?_
    refine r_bipush (v := 8) hc dX6_isRow_5 rfl ?_
    refine r_ic_ge hc 14 dX6_isRow_7 (by decide) (fun q => ?_) (fun q => ?_)
    · have h := kif_t h q
      refine r_iconst (v := 0) hc dX6_isRow_14 rfl ?_
      exact r_zret (ls0 := []) hZ dX6_isRow_15 (Or.inl rfl) h
    · have h := kif_f h q
      refine r_iconst (v := 1) hc dX6_isRow_10 rfl ?_
      refine r_goto hc 15 dX6_isRow_11 (by decide) ?_
      exact r_zret (ls0 := []) hZ dX6_isRow_15 (Or.inr rfl) h
theorem m_X6_isRow {l : Launch} {g : kG} {N : Nat} {σ : kS} {x0 : Int32} {Q : Int32 → kS → Prop} (h : w_X6_isRow N σ x0 Q) : kMi l g yX6_isRow cX6_isRow 1 (some .boolean) 0 [.int x0] σ Q :=
  k_met_z (by decide +kernel) rfl (Nat.le_of_ble_eq_true rfl) (fun X hl hc hZ => s_X6_isRow hc hZ h)
def w_X6_row (N : Nat) (σ : kS) (x1 : Int32) (x2 : Int32) (x3 : Int32) (Q : Int32 → kS → Prop) : Prop :=
  w_X6_isRow N σ x1 (fun (r_2 : Int32) (σ_1 : kS) => if r_2 = 0 then (Q (-1000001) σ_1) else (w_X4_isLane N σ_1 x2 (fun (r_4 : Int32) (σ_3 : kS) => if r_4 = 0 then (Q (-1000001) σ_3) else (if x3 ≤ 40 then (if 0 ≤ x3 then (vp_in x1 8 ∧ (w_X4_begin N σ_3 (2 + 2 * x1.toNatClampNeg) x2 x3 (fun (σ_6 : kS) => w_X6_fine N σ_6 x3 (fun (r_9 : Int32) (σ_8 : kS) => Q r_9 σ_8)))) else (w_X6_found N σ_3 4 (fun (r_11 : Int32) (σ_10 : kS) => Q r_11 σ_10))) else (Q (-1000001) σ_3)))))
set_option maxHeartbeats 4000000 in
set_option maxRecDepth 100000 in
theorem s_X6_row {X : kX} {g : kG} {N : Nat} {Q : Int32 → kS → Prop} (hc : kOk X g RX6 cX6_row 4 (some .int) 2) (hZ : kRi X g cX6_row Q) {σ : kS} {x1 : Int32} {x2 : Int32} {x3 : Int32} (h : w_X6_row N σ x1 x2 x3 Q) : kP X g 4 0 [(0, kz g 0), (1, .int x1), (2, .int x2), (3, .int x3)] [] σ := by
  unfold w_X6_row at h
  refine r_iload_n hc 1 dX6_row_0 rfl ?_
  refine r_callSi (d := 0) hc (m_X6_isRow h) cw_X6_isRow wt_X6_isRow lm_X6_60 (by decide) (by decide) rfl rfl (Nat.le_of_ble_eq_true rfl) dX6_row_1 (fun r_2 σ_1 h => ?_)
  refine r_if_eq hc 20 dX6_row_4 (by decide) (fun q => ?_) (fun q => ?_)
  · have h := kif_t h q
    refine r_ldc hc lk_X6_67 dX6_row_20 ?_
    exact r_iret (ls0 := []) hZ dX6_row_22 h
  · have h := kif_f h q
    refine r_iload_n hc 2 dX6_row_7 rfl ?_
    refine r_callSi (d := 0) hc (m_X4_isLane h) cw_X4_isLane wt_X4_isLane lm_X6_64 (by decide) (by decide) rfl rfl (Nat.le_of_ble_eq_true rfl) dX6_row_8 (fun r_4 σ_3 h => ?_)
    refine r_if_eq hc 20 dX6_row_11 (by decide) (fun q => ?_) (fun q => ?_)
    · have h := kif_t h q
      refine r_ldc hc lk_X6_67 dX6_row_20 ?_
      exact r_iret (ls0 := []) hZ dX6_row_22 h
    · have h := kif_f h q
      refine r_iload_n hc 3 dX6_row_14 rfl ?_
      refine r_bipush (v := 40) hc dX6_row_15 rfl ?_
      refine r_ic_le hc 23 dX6_row_17 (by decide) (fun q => ?_) (fun q => ?_)
      · have h := kif_t h q
        refine r_iload_n hc 3 dX6_row_23 rfl ?_
        refine r_if_ge hc 33 dX6_row_24 (by decide) (fun q => ?_) (fun q => ?_)
        · have h := kif_t h q
          refine r_aload_n hc 0 dX6_row_33 rfl ?_
          refine gf_X6_0 hc lf_X6_11 dX6_row_34 ?_
          refine r_iload_n hc 1 dX6_row_37 rfl ?_
          obtain ⟨hi_5, h⟩ := h
          refine r_rows hc hi_5 dX6_row_38 ?_
          refine r_iload_n hc 2 dX6_row_39 rfl ?_
          refine r_iload_n hc 3 dX6_row_40 rfl ?_
          refine r_callVv (d := 1) hc (m_X4_begin (kRow_at hi_5) h) cw_X4_begin wi_X4_begin ws_X4_begin lm_X6_72 (by decide) (by decide) (rv_X4 (kRow_at hi_5)) rfl rfl (Nat.le_of_ble_eq_true rfl) dX6_row_41 (fun σ_6 h => ?_)
          refine r_aload_n hc 0 dX6_row_44 rfl ?_
          refine r_iload_n hc 3 dX6_row_45 rfl ?_
          refine r_callVi (d := 0) hc (m_X6_fine h) cw_X6_fine wi_X6_fine ws_X6_fine lm_X6_76 (by decide) (by decide) rv_X6 rfl rfl (Nat.le_of_ble_eq_true rfl) dX6_row_46 (fun r_9 σ_8 h => ?_)
          exact r_iret (ls0 := []) hZ dX6_row_49 h
        · have h := kif_f h q
          refine r_aload_n hc 0 dX6_row_27 rfl ?_
          refine r_iconst (v := 4) hc dX6_row_28 rfl ?_
          refine r_callVi (d := 0) hc (m_X6_found h) cw_X6_found wi_X6_found ws_X6_found lm_X6_68 (by decide) (by decide) rv_X6 rfl rfl (Nat.le_of_ble_eq_true rfl) dX6_row_29 (fun r_11 σ_10 h => ?_)
          exact r_iret (ls0 := []) hZ dX6_row_32 h
      · have h := kif_f h q
        refine r_ldc hc lk_X6_67 dX6_row_20 ?_
        exact r_iret (ls0 := []) hZ dX6_row_22 h
theorem m_X6_row {l : Launch} {g : kG} {N : Nat} {σ : kS} {x1 : Int32} {x2 : Int32} {x3 : Int32} {Q : Int32 → kS → Prop} (h : w_X6_row N σ x1 x2 x3 Q) : kMi l g yX6_row cX6_row 4 (some .int) 2 [kz g 0, .int x1, .int x2, .int x3] σ Q :=
  k_met_i (by decide +kernel) rfl (Nat.le_of_ble_eq_true rfl) (fun X hl hc hZ => s_X6_row hc hZ h)
def w_X6_set (N : Nat) (σ : kS) (x1 : Int32) (x2 : Int32) (x3 : Int32) (Q : Int32 → kS → Prop) : Prop :=
  w_X6_isRow N σ x1 (fun (r_2 : Int32) (σ_1 : kS) => if r_2 = 0 then (Q (-1000001) σ_1) else (vp_in x1 8 ∧ (w_X4_isMissing N σ_1 (2 + 2 * x1.toNatClampNeg) (fun (r_5 : Int32) (σ_4 : kS) => if r_5 = 0 then (vp_in x1 8 ∧ (w_X4_hasPlaces N σ_4 (2 + 2 * x1.toNatClampNeg) x2 1 (fun (r_8 : Int32) (σ_7 : kS) => if r_8 = 0 then (w_X6_found N σ_7 2 (fun (r_10 : Int32) (σ_9 : kS) => Q r_10 σ_9)) else (vp_in x1 8 ∧ (w_X4_put N σ_7 (2 + 2 * x1.toNatClampNeg) x2 x3 (fun (r_13 : Int32) (σ_12 : kS) => w_X6_fine N σ_12 r_13 (fun (r_15 : Int32) (σ_14 : kS) => Q r_15 σ_14))))))) else (w_X6_found N σ_4 1 (fun (r_17 : Int32) (σ_16 : kS) => Q r_17 σ_16))))))
set_option maxHeartbeats 4000000 in
set_option maxRecDepth 100000 in
theorem s_X6_set {X : kX} {g : kG} {N : Nat} {Q : Int32 → kS → Prop} (hc : kOk X g RX6 cX6_set 4 (some .int) 2) (hZ : kRi X g cX6_set Q) {σ : kS} {x1 : Int32} {x2 : Int32} {x3 : Int32} (h : w_X6_set N σ x1 x2 x3 Q) : kP X g 4 0 [(0, kz g 0), (1, .int x1), (2, .int x2), (3, .int x3)] [] σ := by
  unfold w_X6_set at h
  refine r_iload_n hc 1 dX6_set_0 rfl ?_
  refine r_callSi (d := 0) hc (m_X6_isRow h) cw_X6_isRow wt_X6_isRow lm_X6_60 (by decide) (by decide) rfl rfl (Nat.le_of_ble_eq_true rfl) dX6_set_1 (fun r_2 σ_1 h => ?_)
  refine r_if_ne hc 10 dX6_set_4 (by decide) (fun q => ?_) (fun q => ?_)
  · have h := kif_t h q
    refine r_ldc hc lk_X6_67 dX6_set_7 ?_
    exact r_iret (ls0 := []) hZ dX6_set_9 h
  · have h := kif_f h q
    refine r_aload_n hc 0 dX6_set_10 rfl ?_
    refine gf_X6_0 hc lf_X6_11 dX6_set_11 ?_
    refine r_iload_n hc 1 dX6_set_14 rfl ?_
    obtain ⟨hi_3, h⟩ := h
    refine r_rows hc hi_3 dX6_set_15 ?_
    refine r_callVi (d := 0) hc (m_X4_isMissing (kRow_at hi_3) h) cw_X4_isMissing wi_X4_isMissing ws_X4_isMissing lm_X6_79 (by decide) (by decide) (rv_X4 (kRow_at hi_3)) rfl rfl (Nat.le_of_ble_eq_true rfl) dX6_set_16 (fun r_5 σ_4 h => ?_)
    refine r_if_eq hc 28 dX6_set_19 (by decide) (fun q => ?_) (fun q => ?_)
    · have h := kif_t h q
      refine r_aload_n hc 0 dX6_set_28 rfl ?_
      refine gf_X6_0 hc lf_X6_11 dX6_set_29 ?_
      refine r_iload_n hc 1 dX6_set_32 rfl ?_
      obtain ⟨hi_6, h⟩ := h
      refine r_rows hc hi_6 dX6_set_33 ?_
      refine r_iload_n hc 2 dX6_set_34 rfl ?_
      refine r_iconst (v := 1) hc dX6_set_35 rfl ?_
      refine r_callVi (d := 0) hc (m_X4_hasPlaces (kRow_at hi_6) h) cw_X4_hasPlaces wi_X4_hasPlaces ws_X4_hasPlaces lm_X6_83 (by decide) (by decide) (rv_X4 (kRow_at hi_6)) rfl rfl (Nat.le_of_ble_eq_true rfl) dX6_set_36 (fun r_8 σ_7 h => ?_)
      refine r_if_ne hc 48 dX6_set_39 (by decide) (fun q => ?_) (fun q => ?_)
      · have h := kif_t h q
        refine r_aload_n hc 0 dX6_set_42 rfl ?_
        refine r_iconst (v := 2) hc dX6_set_43 rfl ?_
        refine r_callVi (d := 0) hc (m_X6_found h) cw_X6_found wi_X6_found ws_X6_found lm_X6_68 (by decide) (by decide) rv_X6 rfl rfl (Nat.le_of_ble_eq_true rfl) dX6_set_44 (fun r_10 σ_9 h => ?_)
        exact r_iret (ls0 := []) hZ dX6_set_47 h
      · have h := kif_f h q
        refine r_aload_n hc 0 dX6_set_48 rfl ?_
        refine r_aload_n hc 0 dX6_set_49 rfl ?_
        refine gf_X6_0 hc lf_X6_11 dX6_set_50 ?_
        refine r_iload_n hc 1 dX6_set_53 rfl ?_
        obtain ⟨hi_11, h⟩ := h
        refine r_rows hc hi_11 dX6_set_54 ?_
        refine r_iload_n hc 2 dX6_set_55 rfl ?_
        refine r_iload_n hc 3 dX6_set_56 rfl ?_
        refine r_callVi (d := 1) hc (m_X4_put (kRow_at hi_11) h) cw_X4_put wi_X4_put ws_X4_put lm_X6_87 (by decide) (by decide) (rv_X4 (kRow_at hi_11)) rfl rfl (Nat.le_of_ble_eq_true rfl) dX6_set_57 (fun r_13 σ_12 h => ?_)
        refine r_callVi (d := 0) hc (m_X6_fine h) cw_X6_fine wi_X6_fine ws_X6_fine lm_X6_76 (by decide) (by decide) rv_X6 rfl rfl (Nat.le_of_ble_eq_true rfl) dX6_set_60 (fun r_15 σ_14 h => ?_)
        exact r_iret (ls0 := []) hZ dX6_set_63 h
    · have h := kif_f h q
      refine r_aload_n hc 0 dX6_set_22 rfl ?_
      refine r_iconst (v := 1) hc dX6_set_23 rfl ?_
      refine r_callVi (d := 0) hc (m_X6_found h) cw_X6_found wi_X6_found ws_X6_found lm_X6_68 (by decide) (by decide) rv_X6 rfl rfl (Nat.le_of_ble_eq_true rfl) dX6_set_24 (fun r_17 σ_16 h => ?_)
      exact r_iret (ls0 := []) hZ dX6_set_27 h
theorem m_X6_set {l : Launch} {g : kG} {N : Nat} {σ : kS} {x1 : Int32} {x2 : Int32} {x3 : Int32} {Q : Int32 → kS → Prop} (h : w_X6_set N σ x1 x2 x3 Q) : kMi l g yX6_set cX6_set 4 (some .int) 2 [kz g 0, .int x1, .int x2, .int x3] σ Q :=
  k_met_i (by decide +kernel) rfl (Nat.le_of_ble_eq_true rfl) (fun X hl hc hZ => s_X6_set hc hZ h)
def w_X6_copy (N : Nat) (σ : kS) (x1 : Int32) (x2 : Int32) (x3 : Int32) (x4 : Int32) (x5 : Int32) (Q : Int32 → kS → Prop) : Prop :=
  w_X6_isRow N σ x1 (fun (r_2 : Int32) (σ_1 : kS) => if r_2 = 0 then (Q (-1000001) σ_1) else (w_X6_isRow N σ_1 x3 (fun (r_4 : Int32) (σ_3 : kS) => if r_4 = 0 then (Q (-1000001) σ_3) else (vp_in x1 8 ∧ (w_X4_isMissing N σ_3 (2 + 2 * x1.toNatClampNeg) (fun (r_7 : Int32) (σ_6 : kS) => if r_7 = 0 then (vp_in x3 8 ∧ (w_X4_isMissing N σ_6 (2 + 2 * x3.toNatClampNeg) (fun (r_10 : Int32) (σ_9 : kS) => if r_10 = 0 then (vp_in x1 8 ∧ (vp_in x3 8 ∧ (if (σ_9 (2 + 2 * x1.toNatClampNeg) 1) = (σ_9 (2 + 2 * x3.toNatClampNeg) 1) then (vp_in x1 8 ∧ (w_X4_hasPlaces N σ_9 (2 + 2 * x1.toNatClampNeg) x2 x5 (fun (r_15 : Int32) (σ_14 : kS) => if r_15 = 0 then (w_X6_found N σ_14 2 (fun (r_17 : Int32) (σ_16 : kS) => Q r_17 σ_16)) else (vp_in x3 8 ∧ (w_X4_hasPlaces N σ_14 (2 + 2 * x3.toNatClampNeg) x4 x5 (fun (r_20 : Int32) (σ_19 : kS) => if r_20 = 0 then (w_X6_found N σ_19 2 (fun (r_22 : Int32) (σ_21 : kS) => Q r_22 σ_21)) else (vp_in x1 8 ∧ (vp_in x3 8 ∧ ((¬ x2 < 0 ∧ ¬ x4 < 0 ∧ ¬ x5 < 0 ∧ x2.toNatClampNeg + x5.toNatClampNeg ≤ 40 ∧ x4.toNatClampNeg + x5.toNatClampNeg ≤ 40) ∧ (∀ σ_30 : kS, σ_30 = va_up σ_19 (2 + 2 * x3.toNatClampNeg + 1) (va_cpy (σ_19 (2 + 2 * x1.toNatClampNeg + 1)) (σ_19 (2 + 2 * x3.toNatClampNeg + 1)) (x2.toNatClampNeg) (x4.toNatClampNeg) (x5.toNatClampNeg)) → (w_X6_fine N σ_30 x5 (fun (r_32 : Int32) (σ_31 : kS) => Q r_32 σ_31)))))))))))) else (w_X6_found N σ_9 5 (fun (r_34 : Int32) (σ_33 : kS) => Q r_34 σ_33))))) else (w_X6_found N σ_9 1 (fun (r_36 : Int32) (σ_35 : kS) => Q r_36 σ_35))))) else (w_X6_found N σ_6 1 (fun (r_38 : Int32) (σ_37 : kS) => Q r_38 σ_37))))))))
set_option maxHeartbeats 4000000 in
set_option maxRecDepth 100000 in
theorem s_X6_copy {X : kX} {g : kG} {N : Nat} {Q : Int32 → kS → Prop} (hc : kOk X g RX6 cX6_copy 6 (some .int) 1) (hZ : kRi X g cX6_copy Q) {σ : kS} {x1 : Int32} {x2 : Int32} {x3 : Int32} {x4 : Int32} {x5 : Int32} (h : w_X6_copy N σ x1 x2 x3 x4 x5 Q) : kP X g 6 0 [(0, kz g 0), (1, .int x1), (2, .int x2), (3, .int x3), (4, .int x4), (5, .int x5)] [] σ := by
  unfold w_X6_copy at h
  refine r_iload_n hc 1 dX6_copy_0 rfl ?_
  refine r_callSi (d := 0) hc (m_X6_isRow h) cw_X6_isRow wt_X6_isRow lm_X6_60 (by decide) (by decide) rfl rfl (Nat.le_of_ble_eq_true rfl) dX6_copy_1 (fun r_2 σ_1 h => ?_)
  refine r_if_eq hc 14 dX6_copy_4 (by decide) (fun q => ?_) (fun q => ?_)
  · have h := kif_t h q
    refine r_ldc hc lk_X6_67 dX6_copy_14 ?_
    exact r_iret (ls0 := []) hZ dX6_copy_16 h
  · have h := kif_f h q
    refine r_iload_n hc 3 dX6_copy_7 rfl ?_
    refine r_callSi (d := 0) hc (m_X6_isRow h) cw_X6_isRow wt_X6_isRow lm_X6_60 (by decide) (by decide) rfl rfl (Nat.le_of_ble_eq_true rfl) dX6_copy_8 (fun r_4 σ_3 h => ?_)
    refine r_if_ne hc 17 dX6_copy_11 (by decide) (fun q => ?_) (fun q => ?_)
    · have h := kif_t h q
      refine r_ldc hc lk_X6_67 dX6_copy_14 ?_
      exact r_iret (ls0 := []) hZ dX6_copy_16 h
    · have h := kif_f h q
      refine r_aload_n hc 0 dX6_copy_17 rfl ?_
      refine gf_X6_0 hc lf_X6_11 dX6_copy_18 ?_
      refine r_iload_n hc 1 dX6_copy_21 rfl ?_
      obtain ⟨hi_5, h⟩ := h
      refine r_rows hc hi_5 dX6_copy_22 ?_
      refine r_callVi (d := 0) hc (m_X4_isMissing (kRow_at hi_5) h) cw_X4_isMissing wi_X4_isMissing ws_X4_isMissing lm_X6_79 (by decide) (by decide) (rv_X4 (kRow_at hi_5)) rfl rfl (Nat.le_of_ble_eq_true rfl) dX6_copy_23 (fun r_7 σ_6 h => ?_)
      refine r_if_ne hc 41 dX6_copy_26 (by decide) (fun q => ?_) (fun q => ?_)
      · have h := kif_t h q
        refine r_aload_n hc 0 dX6_copy_29 rfl ?_
        refine gf_X6_0 hc lf_X6_11 dX6_copy_30 ?_
        refine r_iload_n hc 3 dX6_copy_33 rfl ?_
        obtain ⟨hi_8, h⟩ := h
        refine r_rows hc hi_8 dX6_copy_34 ?_
        refine r_callVi (d := 0) hc (m_X4_isMissing (kRow_at hi_8) h) cw_X4_isMissing wi_X4_isMissing ws_X4_isMissing lm_X6_79 (by decide) (by decide) (rv_X4 (kRow_at hi_8)) rfl rfl (Nat.le_of_ble_eq_true rfl) dX6_copy_35 (fun r_10 σ_9 h => ?_)
        refine r_if_eq hc 47 dX6_copy_38 (by decide) (fun q => ?_) (fun q => ?_)
        · have h := kif_t h q
          refine r_aload_n hc 0 dX6_copy_47 rfl ?_
          refine gf_X6_0 hc lf_X6_11 dX6_copy_48 ?_
          refine r_iload_n hc 1 dX6_copy_51 rfl ?_
          obtain ⟨hi_11, h⟩ := h
          refine r_rows hc hi_11 dX6_copy_52 ?_
          refine gf_X4_1 hc (kRow_at hi_11) lf_X6_91 dX6_copy_53 ?_
          refine r_aload_n hc 0 dX6_copy_56 rfl ?_
          refine gf_X6_0 hc lf_X6_11 dX6_copy_57 ?_
          refine r_iload_n hc 3 dX6_copy_60 rfl ?_
          obtain ⟨hi_12, h⟩ := h
          refine r_rows hc hi_12 dX6_copy_61 ?_
          refine gf_X4_1 hc (kRow_at hi_12) lf_X6_91 dX6_copy_62 ?_
          refine r_ic_eq hc 74 dX6_copy_65 (by decide) (fun q => ?_) (fun q => ?_)
          · have h := kif_t h q
            refine r_aload_n hc 0 dX6_copy_74 rfl ?_
            refine gf_X6_0 hc lf_X6_11 dX6_copy_75 ?_
            refine r_iload_n hc 1 dX6_copy_78 rfl ?_
            obtain ⟨hi_13, h⟩ := h
            refine r_rows hc hi_13 dX6_copy_79 ?_
            refine r_iload_n hc 2 dX6_copy_80 rfl ?_
            refine r_iload hc 5 dX6_copy_81 rfl ?_
            refine r_callVi (d := 0) hc (m_X4_hasPlaces (kRow_at hi_13) h) cw_X4_hasPlaces wi_X4_hasPlaces ws_X4_hasPlaces lm_X6_83 (by decide) (by decide) (rv_X4 (kRow_at hi_13)) rfl rfl (Nat.le_of_ble_eq_true rfl) dX6_copy_83 (fun r_15 σ_14 h => ?_)
            refine r_if_eq hc 105 dX6_copy_86 (by decide) (fun q => ?_) (fun q => ?_)
            · have h := kif_t h q
              refine r_aload_n hc 0 dX6_copy_105 rfl ?_
              refine r_iconst (v := 2) hc dX6_copy_106 rfl ?_
              refine r_callVi (d := 0) hc (m_X6_found h) cw_X6_found wi_X6_found ws_X6_found lm_X6_68 (by decide) (by decide) rv_X6 rfl rfl (Nat.le_of_ble_eq_true rfl) dX6_copy_107 (fun r_17 σ_16 h => ?_)
              exact r_iret (ls0 := []) hZ dX6_copy_110 h
            · have h := kif_f h q
              refine r_aload_n hc 0 dX6_copy_89 rfl ?_
              refine gf_X6_0 hc lf_X6_11 dX6_copy_90 ?_
              refine r_iload_n hc 3 dX6_copy_93 rfl ?_
              obtain ⟨hi_18, h⟩ := h
              refine r_rows hc hi_18 dX6_copy_94 ?_
              refine r_iload hc 4 dX6_copy_95 rfl ?_
              refine r_iload hc 5 dX6_copy_97 rfl ?_
              refine r_callVi (d := 0) hc (m_X4_hasPlaces (kRow_at hi_18) h) cw_X4_hasPlaces wi_X4_hasPlaces ws_X4_hasPlaces lm_X6_83 (by decide) (by decide) (rv_X4 (kRow_at hi_18)) rfl rfl (Nat.le_of_ble_eq_true rfl) dX6_copy_99 (fun r_20 σ_19 h => ?_)
              refine r_if_ne hc 111 dX6_copy_102 (by decide) (fun q => ?_) (fun q => ?_)
              · have h := kif_t h q
                refine r_aload_n hc 0 dX6_copy_105 rfl ?_
                refine r_iconst (v := 2) hc dX6_copy_106 rfl ?_
                refine r_callVi (d := 0) hc (m_X6_found h) cw_X6_found wi_X6_found ws_X6_found lm_X6_68 (by decide) (by decide) rv_X6 rfl rfl (Nat.le_of_ble_eq_true rfl) dX6_copy_107 (fun r_22 σ_21 h => ?_)
                exact r_iret (ls0 := []) hZ dX6_copy_110 h
              · have h := kif_f h q
                refine r_aload_n hc 0 dX6_copy_111 rfl ?_
                refine gf_X6_0 hc lf_X6_11 dX6_copy_112 ?_
                refine r_iload_n hc 1 dX6_copy_115 rfl ?_
                obtain ⟨hi_23, h⟩ := h
                refine r_rows hc hi_23 dX6_copy_116 ?_
                refine gf_X4_0 hc (kRow_at hi_23) lf_X6_95 dX6_copy_117 ?_
                refine r_iload_n hc 2 dX6_copy_120 rfl ?_
                refine r_aload_n hc 0 dX6_copy_121 rfl ?_
                refine gf_X6_0 hc lf_X6_11 dX6_copy_122 ?_
                refine r_iload_n hc 3 dX6_copy_125 rfl ?_
                obtain ⟨hi_24, h⟩ := h
                refine r_rows hc hi_24 dX6_copy_126 ?_
                refine gf_X4_0 hc (kRow_at hi_24) lf_X6_95 dX6_copy_127 ?_
                refine r_iload hc 4 dX6_copy_130 rfl ?_
                refine r_iload hc 5 dX6_copy_132 rfl ?_
                obtain ⟨⟨hc_25, hc_26, hc_27, hc_28, hc_29⟩, h⟩ := h
                refine r_copy hc (kia_Row (kRow_at hi_23)) (kia_Row (kRow_at hi_24)) lm_X6_99 (by decide) hc_25 hc_26 hc_27 hc_28 hc_29 (Nat.le_of_ble_eq_true rfl) dX6_copy_134 ?_
                refine r_nmS (fun σ_30 eσ_30 => ?_)
                have h := h σ_30 eσ_30
                refine r_aload_n hc 0 dX6_copy_137 rfl ?_
                refine r_iload hc 5 dX6_copy_138 rfl ?_
                refine r_callVi (d := 0) hc (m_X6_fine h) cw_X6_fine wi_X6_fine ws_X6_fine lm_X6_76 (by decide) (by decide) rv_X6 rfl rfl (Nat.le_of_ble_eq_true rfl) dX6_copy_140 (fun r_32 σ_31 h => ?_)
                exact r_iret (ls0 := []) hZ dX6_copy_143 h
          · have h := kif_f h q
            refine r_aload_n hc 0 dX6_copy_68 rfl ?_
            refine r_iconst (v := 5) hc dX6_copy_69 rfl ?_
            refine r_callVi (d := 0) hc (m_X6_found h) cw_X6_found wi_X6_found ws_X6_found lm_X6_68 (by decide) (by decide) rv_X6 rfl rfl (Nat.le_of_ble_eq_true rfl) dX6_copy_70 (fun r_34 σ_33 h => ?_)
            exact r_iret (ls0 := []) hZ dX6_copy_73 h
        · have h := kif_f h q
          refine r_aload_n hc 0 dX6_copy_41 rfl ?_
          refine r_iconst (v := 1) hc dX6_copy_42 rfl ?_
          refine r_callVi (d := 0) hc (m_X6_found h) cw_X6_found wi_X6_found ws_X6_found lm_X6_68 (by decide) (by decide) rv_X6 rfl rfl (Nat.le_of_ble_eq_true rfl) dX6_copy_43 (fun r_36 σ_35 h => ?_)
          exact r_iret (ls0 := []) hZ dX6_copy_46 h
      · have h := kif_f h q
        refine r_aload_n hc 0 dX6_copy_41 rfl ?_
        refine r_iconst (v := 1) hc dX6_copy_42 rfl ?_
        refine r_callVi (d := 0) hc (m_X6_found h) cw_X6_found wi_X6_found ws_X6_found lm_X6_68 (by decide) (by decide) rv_X6 rfl rfl (Nat.le_of_ble_eq_true rfl) dX6_copy_43 (fun r_38 σ_37 h => ?_)
        exact r_iret (ls0 := []) hZ dX6_copy_46 h
theorem m_X6_copy {l : Launch} {g : kG} {N : Nat} {σ : kS} {x1 : Int32} {x2 : Int32} {x3 : Int32} {x4 : Int32} {x5 : Int32} {Q : Int32 → kS → Prop} (h : w_X6_copy N σ x1 x2 x3 x4 x5 Q) : kMi l g yX6_copy cX6_copy 6 (some .int) 1 [kz g 0, .int x1, .int x2, .int x3, .int x4, .int x5] σ Q :=
  k_met_i (by decide +kernel) rfl (Nat.le_of_ble_eq_true rfl) (fun X hl hc hZ => s_X6_copy hc hZ h)
def w_X6_drop (N : Nat) (σ : kS) (x1 : Int32) (Q : Int32 → kS → Prop) : Prop :=
  w_X6_isRow N σ x1 (fun (r_2 : Int32) (σ_1 : kS) => if r_2 = 0 then (Q (-1000001) σ_1) else (vp_in x1 8 ∧ (w_X4_isMissing N σ_1 (2 + 2 * x1.toNatClampNeg) (fun (r_5 : Int32) (σ_4 : kS) => if r_5 = 0 then (vp_in x1 8 ∧ (∀ x2_7 : Int32, x2_7 = σ_4 (2 + 2 * x1.toNatClampNeg) 2 → (vp_in x1 8 ∧ (w_X4_lose N σ_4 (2 + 2 * x1.toNatClampNeg) (fun (σ_9 : kS) => w_X6_fine N σ_9 x2_7 (fun (r_12 : Int32) (σ_11 : kS) => Q r_12 σ_11)))))) else (w_X6_found N σ_4 1 (fun (r_14 : Int32) (σ_13 : kS) => Q r_14 σ_13))))))
set_option maxHeartbeats 4000000 in
set_option maxRecDepth 100000 in
theorem s_X6_drop {X : kX} {g : kG} {N : Nat} {Q : Int32 → kS → Prop} (hc : kOk X g RX6 cX6_drop 3 (some .int) 1) (hZ : kRi X g cX6_drop Q) {σ : kS} {x1 : Int32} (h : w_X6_drop N σ x1 Q) : kP X g 3 0 [(0, kz g 0), (1, .int x1)] [] σ := by
  unfold w_X6_drop at h
  refine r_iload_n hc 1 dX6_drop_0 rfl ?_
  refine r_callSi (d := 0) hc (m_X6_isRow h) cw_X6_isRow wt_X6_isRow lm_X6_60 (by decide) (by decide) rfl rfl (Nat.le_of_ble_eq_true rfl) dX6_drop_1 (fun r_2 σ_1 h => ?_)
  refine r_if_ne hc 10 dX6_drop_4 (by decide) (fun q => ?_) (fun q => ?_)
  · have h := kif_t h q
    refine r_ldc hc lk_X6_67 dX6_drop_7 ?_
    exact r_iret (ls0 := []) hZ dX6_drop_9 h
  · have h := kif_f h q
    refine r_aload_n hc 0 dX6_drop_10 rfl ?_
    refine gf_X6_0 hc lf_X6_11 dX6_drop_11 ?_
    refine r_iload_n hc 1 dX6_drop_14 rfl ?_
    obtain ⟨hi_3, h⟩ := h
    refine r_rows hc hi_3 dX6_drop_15 ?_
    refine r_callVi (d := 0) hc (m_X4_isMissing (kRow_at hi_3) h) cw_X4_isMissing wi_X4_isMissing ws_X4_isMissing lm_X6_79 (by decide) (by decide) (rv_X4 (kRow_at hi_3)) rfl rfl (Nat.le_of_ble_eq_true rfl) dX6_drop_16 (fun r_5 σ_4 h => ?_)
    refine r_if_eq hc 28 dX6_drop_19 (by decide) (fun q => ?_) (fun q => ?_)
    · have h := kif_t h q
      refine r_aload_n hc 0 dX6_drop_28 rfl ?_
      refine gf_X6_0 hc lf_X6_11 dX6_drop_29 ?_
      refine r_iload_n hc 1 dX6_drop_32 rfl ?_
      obtain ⟨hi_6, h⟩ := h
      refine r_rows hc hi_6 dX6_drop_33 ?_
      refine gf_X4_2 hc (kRow_at hi_6) lf_X6_105 dX6_drop_34 ?_
      refine r_nmI (fun x2_7 ex2_7 => ?_)
      have h := h x2_7 ex2_7
      refine r_istore_n hc [(2, .int x2_7), (0, kz g 0), (1, .int x1)] dX6_drop_37 (by decide) rfl ?_
      refine r_aload_n hc 1 dX6_drop_38 rfl ?_
      refine gf_X6_0 hc lf_X6_11 dX6_drop_39 ?_
      refine r_iload_n hc 2 dX6_drop_42 rfl ?_
      obtain ⟨hi_8, h⟩ := h
      refine r_rows hc hi_8 dX6_drop_43 ?_
      refine r_callVv (d := 0) hc (m_X4_lose (kRow_at hi_8) h) cw_X4_lose wi_X4_lose ws_X4_lose lm_X6_108 (by decide) (by decide) (rv_X4 (kRow_at hi_8)) rfl rfl (Nat.le_of_ble_eq_true rfl) dX6_drop_44 (fun σ_9 h => ?_)
      refine r_aload_n hc 1 dX6_drop_47 rfl ?_
      refine r_iload_n hc 0 dX6_drop_48 rfl ?_
      refine r_callVi (d := 0) hc (m_X6_fine h) cw_X6_fine wi_X6_fine ws_X6_fine lm_X6_76 (by decide) (by decide) rv_X6 rfl rfl (Nat.le_of_ble_eq_true rfl) dX6_drop_49 (fun r_12 σ_11 h => ?_)
      exact r_iret (ls0 := []) hZ dX6_drop_52 h
    · have h := kif_f h q
      refine r_aload_n hc 0 dX6_drop_22 rfl ?_
      refine r_iconst (v := 1) hc dX6_drop_23 rfl ?_
      refine r_callVi (d := 0) hc (m_X6_found h) cw_X6_found wi_X6_found ws_X6_found lm_X6_68 (by decide) (by decide) rv_X6 rfl rfl (Nat.le_of_ble_eq_true rfl) dX6_drop_24 (fun r_14 σ_13 h => ?_)
      exact r_iret (ls0 := []) hZ dX6_drop_27 h
theorem m_X6_drop {l : Launch} {g : kG} {N : Nat} {σ : kS} {x1 : Int32} {Q : Int32 → kS → Prop} (h : w_X6_drop N σ x1 Q) : kMi l g yX6_drop cX6_drop 3 (some .int) 1 [kz g 0, .int x1] σ Q :=
  k_met_i (by decide +kernel) rfl (Nat.le_of_ble_eq_true rfl) (fun X hl hc hZ => s_X6_drop hc hZ h)
def w_X6_feed (N : Nat) (σ : kS) (x1 : Int32) (Q : Int32 → kS → Prop) : Prop :=
  if x1 < 0 then (Q (-1000001) σ) else (if x1 ≤ 255 then (w_X5_isFull N σ (fun (r_2 : Int32) (σ_1 : kS) => if r_2 = 0 then (w_X5_append N σ_1 x1 (fun (r_4 : Int32) (σ_3 : kS) => Q r_4 σ_3)) else (Q (-1000003) σ_1))) else (Q (-1000001) σ))
set_option maxHeartbeats 4000000 in
set_option maxRecDepth 100000 in
theorem s_X6_feed {X : kX} {g : kG} {N : Nat} {Q : Int32 → kS → Prop} (hc : kOk X g RX6 cX6_feed 2 (some .int) 1) (hZ : kRi X g cX6_feed Q) {σ : kS} {x1 : Int32} (h : w_X6_feed N σ x1 Q) : kP X g 2 0 [(0, kz g 0), (1, .int x1)] [] σ := by
  unfold w_X6_feed at h
  refine r_iload_n hc 1 dX6_feed_0 rfl ?_
  refine r_if_lt hc 11 dX6_feed_1 (by decide) (fun q => ?_) (fun q => ?_)
  · have h := kif_t h q
    refine r_ldc hc lk_X6_67 dX6_feed_11 ?_
    exact r_iret (ls0 := []) hZ dX6_feed_13 h
  · have h := kif_f h q
    refine r_iload_n hc 1 dX6_feed_4 rfl ?_
    refine r_sipush (v := 255) hc dX6_feed_5 rfl ?_
    refine r_ic_le hc 14 dX6_feed_8 (by decide) (fun q => ?_) (fun q => ?_)
    · have h := kif_t h q
      refine r_aload_n hc 0 dX6_feed_14 rfl ?_
      refine gf_X6_1 hc lf_X6_26 dX6_feed_15 ?_
      refine r_callVi (d := 0) hc (m_X5_isFull h) cw_X5_isFull wi_X5_isFull ws_X5_isFull lm_X6_111 (by decide) (by decide) rv_X5 rfl rfl (Nat.le_of_ble_eq_true rfl) dX6_feed_18 (fun r_2 σ_1 h => ?_)
      refine r_if_eq hc 27 dX6_feed_21 (by decide) (fun q => ?_) (fun q => ?_)
      · have h := kif_t h q
        refine r_aload_n hc 0 dX6_feed_27 rfl ?_
        refine gf_X6_1 hc lf_X6_26 dX6_feed_28 ?_
        refine r_iload_n hc 1 dX6_feed_31 rfl ?_
        refine r_callVi (d := 0) hc (m_X5_append h) cw_X5_append wi_X5_append ws_X5_append lm_X6_115 (by decide) (by decide) rv_X5 rfl rfl (Nat.le_of_ble_eq_true rfl) dX6_feed_32 (fun r_4 σ_3 h => ?_)
        exact r_iret (ls0 := []) hZ dX6_feed_35 h
      · have h := kif_f h q
        refine r_ldc hc lk_X6_114 dX6_feed_24 ?_
        exact r_iret (ls0 := []) hZ dX6_feed_26 h
    · have h := kif_f h q
      refine r_ldc hc lk_X6_67 dX6_feed_11 ?_
      exact r_iret (ls0 := []) hZ dX6_feed_13 h
theorem m_X6_feed {l : Launch} {g : kG} {N : Nat} {σ : kS} {x1 : Int32} {Q : Int32 → kS → Prop} (h : w_X6_feed N σ x1 Q) : kMi l g yX6_feed cX6_feed 2 (some .int) 1 [kz g 0, .int x1] σ Q :=
  k_met_i (by decide +kernel) rfl (Nat.le_of_ble_eq_true rfl) (fun X hl hc hZ => s_X6_feed hc hZ h)
def w_X6_hall (N : Nat) (σ : kS) (Q : Int32 → kS → Prop) : Prop :=
  w_X5_readInto N σ 39 (fun (r_2 : Int32) (σ_1 : kS) => w_X5_clear N σ_1 (fun (σ_3 : kS) => if r_2 = 0 then (Q ((-1000100) - (σ_3 31 4)) σ_3) else (w_X3_become N σ_3 33 39 (fun (σ_5 : kS) => w_X0_clear N σ_5 (fun (σ_7 : kS) => Q (σ_7 33 10) σ_7)))))
set_option maxHeartbeats 4000000 in
set_option maxRecDepth 100000 in
theorem s_X6_hall {X : kX} {g : kG} {N : Nat} {Q : Int32 → kS → Prop} (hc : kOk X g RX6 cX6_hall 2 (some .int) 6) (hZ : kRi X g cX6_hall Q) {σ : kS} (h : w_X6_hall N σ Q) : kP X g 2 0 [(0, kz g 0)] [] σ := by
  unfold w_X6_hall at h
  refine r_aload_n hc 0 dX6_hall_0 rfl ?_
  refine gf_X6_1 hc lf_X6_26 dX6_hall_1 ?_
  refine r_aload_n hc 0 dX6_hall_4 rfl ?_
  refine gf_X6_3 hc lf_X6_34 dX6_hall_5 ?_
  refine r_callVi (d := 5) hc (m_X5_readInto kH_39 h) cw_X5_readInto wi_X5_readInto ws_X5_readInto lm_X6_118 (by decide) (by decide) rv_X5 rfl rfl (Nat.le_of_ble_eq_true rfl) dX6_hall_8 (fun r_2 σ_1 h => ?_)
  refine r_istore_n hc [(1, .int r_2), (0, kz g 0)] dX6_hall_11 (by decide) rfl ?_
  refine r_aload_n hc 1 dX6_hall_12 rfl ?_
  refine gf_X6_1 hc lf_X6_26 dX6_hall_13 ?_
  refine r_callVv (d := 0) hc (m_X5_clear h) cw_X5_clear wi_X5_clear ws_X5_clear lm_X6_122 (by decide) (by decide) rv_X5 rfl rfl (Nat.le_of_ble_eq_true rfl) dX6_hall_16 (fun σ_3 h => ?_)
  refine r_iload_n hc 0 dX6_hall_19 rfl ?_
  refine r_if_ne hc 34 dX6_hall_20 (by decide) (fun q => ?_) (fun q => ?_)
  · have h := kif_t h q
    refine r_ldc hc lk_X6_125 dX6_hall_23 ?_
    refine r_aload_n hc 1 dX6_hall_25 rfl ?_
    refine gf_X6_1 hc lf_X6_26 dX6_hall_26 ?_
    refine gf_X5_4 hc lf_X6_126 dX6_hall_29 ?_
    refine r_isub hc dX6_hall_32 ?_
    exact r_iret (ls0 := []) hZ dX6_hall_33 h
  · have h := kif_f h q
    refine r_aload_n hc 1 dX6_hall_34 rfl ?_
    refine gf_X6_2 hc lf_X6_30 dX6_hall_35 ?_
    refine r_aload_n hc 1 dX6_hall_38 rfl ?_
    refine gf_X6_3 hc lf_X6_34 dX6_hall_39 ?_
    refine r_callVv (d := 1) hc (m_X3_become kH_33 kH_39 h) cw_X3_become wi_X3_become ws_X3_become lm_X6_129 (by decide) (by decide) (rv_X3 kH_33) rfl rfl (Nat.le_of_ble_eq_true rfl) dX6_hall_42 (fun σ_5 h => ?_)
    refine r_aload_n hc 1 dX6_hall_45 rfl ?_
    refine gf_X6_5 hc lf_X6_40 dX6_hall_46 ?_
    refine r_callVv (d := 0) hc (m_X0_clear h) cw_X0_clear wi_X0_clear ws_X0_clear lm_X6_132 (by decide) (by decide) rv_X0 rfl rfl (Nat.le_of_ble_eq_true rfl) dX6_hall_49 (fun σ_7 h => ?_)
    refine r_aload_n hc 1 dX6_hall_52 rfl ?_
    refine gf_X6_2 hc lf_X6_30 dX6_hall_53 ?_
    refine gf_X3_10 hc kH_33 lf_X6_133 dX6_hall_56 ?_
    exact r_iret (ls0 := []) hZ dX6_hall_59 h
theorem m_X6_hall {l : Launch} {g : kG} {N : Nat} {σ : kS} {Q : Int32 → kS → Prop} (h : w_X6_hall N σ Q) : kMi l g yX6_hall cX6_hall 2 (some .int) 6 [kz g 0] σ Q :=
  k_met_i (by decide +kernel) rfl (Nat.le_of_ble_eq_true rfl) (fun X hl hc hZ => s_X6_hall hc hZ h)
def w_X6_fault (N : Nat) (σ : kS) (Q : Int32 → kS → Prop) : Prop :=
  Q (σ 31 5) σ
set_option maxHeartbeats 4000000 in
set_option maxRecDepth 100000 in
theorem s_X6_fault {X : kX} {g : kG} {N : Nat} {Q : Int32 → kS → Prop} (hc : kOk X g RX6 cX6_fault 1 (some .int) 0) (hZ : kRi X g cX6_fault Q) {σ : kS} (h : w_X6_fault N σ Q) : kP X g 1 0 [(0, kz g 0)] [] σ := by
  unfold w_X6_fault at h
  refine r_aload_n hc 0 dX6_fault_0 rfl ?_
  refine gf_X6_1 hc lf_X6_26 dX6_fault_1 ?_
  refine gf_X5_5 hc lf_X6_136 dX6_fault_4 ?_
  exact r_iret (ls0 := []) hZ dX6_fault_7 h
theorem m_X6_fault {l : Launch} {g : kG} {N : Nat} {σ : kS} {Q : Int32 → kS → Prop} (h : w_X6_fault N σ Q) : kMi l g yX6_fault cX6_fault 1 (some .int) 0 [kz g 0] σ Q :=
  k_met_i (by decide +kernel) rfl (Nat.le_of_ble_eq_true rfl) (fun X hl hc hZ => s_X6_fault hc hZ h)
def w_X6_undo (N : Nat) (σ : kS) (Q : Int32 → kS → Prop) : Prop :=
  if (σ 45 4) = 0 then (Q (-1000002) σ) else (w_X0_takeBack N σ 33 (fun (σ_1 : kS) => Q (σ_1 45 4) σ_1))
set_option maxHeartbeats 4000000 in
set_option maxRecDepth 100000 in
theorem s_X6_undo {X : kX} {g : kG} {N : Nat} {Q : Int32 → kS → Prop} (hc : kOk X g RX6 cX6_undo 1 (some .int) 1) (hZ : kRi X g cX6_undo Q) {σ : kS} (h : w_X6_undo N σ Q) : kP X g 1 0 [(0, kz g 0)] [] σ := by
  unfold w_X6_undo at h
  refine r_aload_n hc 0 dX6_undo_0 rfl ?_
  refine gf_X6_5 hc lf_X6_40 dX6_undo_1 ?_
  refine gf_X0_4 hc lf_X6_139 dX6_undo_4 ?_
  refine r_if_ne hc 13 dX6_undo_7 (by decide) (fun q => ?_) (fun q => ?_)
  · have h := kif_t h q
    refine r_ldc hc lk_X6_142 dX6_undo_10 ?_
    exact r_iret (ls0 := []) hZ dX6_undo_12 h
  · have h := kif_f h q
    refine r_aload_n hc 0 dX6_undo_13 rfl ?_
    refine gf_X6_5 hc lf_X6_40 dX6_undo_14 ?_
    refine r_aload_n hc 0 dX6_undo_17 rfl ?_
    refine gf_X6_2 hc lf_X6_30 dX6_undo_18 ?_
    refine r_callVv (d := 0) hc (m_X0_takeBack kH_33 h) cw_X0_takeBack wi_X0_takeBack ws_X0_takeBack lm_X6_143 (by decide) (by decide) rv_X0 rfl rfl (Nat.le_of_ble_eq_true rfl) dX6_undo_21 (fun σ_1 h => ?_)
    refine r_aload_n hc 0 dX6_undo_24 rfl ?_
    refine gf_X6_5 hc lf_X6_40 dX6_undo_25 ?_
    refine gf_X0_4 hc lf_X6_139 dX6_undo_28 ?_
    exact r_iret (ls0 := []) hZ dX6_undo_31 h
theorem m_X6_undo {l : Launch} {g : kG} {N : Nat} {σ : kS} {Q : Int32 → kS → Prop} (h : w_X6_undo N σ Q) : kMi l g yX6_undo cX6_undo 1 (some .int) 1 [kz g 0] σ Q :=
  k_met_i (by decide +kernel) rfl (Nat.le_of_ble_eq_true rfl) (fun X hl hc hZ => s_X6_undo hc hZ h)
def b_X6_nights_47 (N : Nat) (Q : Int32 → kS → Prop) (x1 : Int32) (K : Int32 → kS → Prop) (x2 : Int32) (σ : kS) : Prop :=
  if x1 ≤ x2 then (Q (σ 33 7) σ) else (w_X0_keep N σ 0 0 (σ 33 7) (fun (σ_3 : kS) => ∀ σ_5 : kS, σ_5 = st2 σ_3 33 8 ((σ_3 33 8) + 1) → (w_X3_shiftBehind N σ_5 33 1 (fun (r_7 : Int32) (σ_6 : kS) => ∀ σ_8 : kS, σ_8 = st2 σ_6 33 7 r_7 → (∀ x2_9 : Int32, x2_9 = x2 + 1 → (K x2_9 σ_8))))))
def l_X6_nights_47 (N : Nat) (Q : Int32 → kS → Prop) (x1 : Int32) : Nat → Int32 → kS → Prop
  | 0 => fun _ _ => False
  | n + 1 => b_X6_nights_47 N Q x1 (l_X6_nights_47 N Q x1 n)
set_option maxHeartbeats 4000000 in
set_option maxRecDepth 100000 in
theorem sb_X6_nights_47 {X : kX} {g : kG} {N : Nat} {Q : Int32 → kS → Prop} (hc : kOk X g RX6 cX6_nights 3 (some .int) 2) (hZ : kRi X g cX6_nights Q) {x1 : Int32} {K : Int32 → kS → Prop} (hK : ∀ (x2 : Int32) (τ : kS), K x2 τ → kP X g 3 47 [(0, kz g 0), (1, .int x1), (2, .int x2)] [] τ) {x2 : Int32} {σ : kS} (h : b_X6_nights_47 N Q x1 K x2 σ) : kP X g 3 47 [(0, kz g 0), (1, .int x1), (2, .int x2)] [] σ := by
  unfold b_X6_nights_47 at h
  refine r_iload_n hc 2 dX6_nights_47 rfl ?_
  refine r_iload_n hc 1 dX6_nights_48 rfl ?_
  refine r_ic_ge hc 102 dX6_nights_49 (by decide) (fun q => ?_) (fun q => ?_)
  · have h := kif_t h q
    refine r_aload_n hc 0 dX6_nights_102 rfl ?_
    refine gf_X6_2 hc lf_X6_30 dX6_nights_103 ?_
    refine gf_X3_7 hc kH_33 lf_X6_152 dX6_nights_106 ?_
    exact r_iret (ls0 := []) hZ dX6_nights_109 h
  · have h := kif_f h q
    refine r_aload_n hc 0 dX6_nights_52 rfl ?_
    refine gf_X6_5 hc lf_X6_40 dX6_nights_53 ?_
    refine r_iconst (v := 0) hc dX6_nights_56 rfl ?_
    refine r_iconst (v := 0) hc dX6_nights_57 rfl ?_
    refine r_aload_n hc 0 dX6_nights_58 rfl ?_
    refine gf_X6_2 hc lf_X6_30 dX6_nights_59 ?_
    refine gf_X3_7 hc kH_33 lf_X6_152 dX6_nights_62 ?_
    refine r_callVv (d := 1) hc (m_X0_keep h) cw_X0_keep wi_X0_keep ws_X0_keep lm_X6_155 (by decide) (by decide) rv_X0 rfl rfl (Nat.le_of_ble_eq_true rfl) dX6_nights_65 (fun σ_3 h => ?_)
    refine r_aload_n hc 0 dX6_nights_68 rfl ?_
    refine gf_X6_2 hc lf_X6_30 dX6_nights_69 ?_
    refine r_dup hc dX6_nights_72 rfl ?_
    refine gf_X3_8 hc kH_33 lf_X6_149 dX6_nights_73 ?_
    refine r_iconst (v := 1) hc dX6_nights_76 rfl ?_
    refine r_iadd hc dX6_nights_77 ?_
    refine pf_X3_8 hc kH_33 lf_X6_149 dX6_nights_78 ?_
    refine r_nmS (fun σ_5 eσ_5 => ?_)
    have h := h σ_5 eσ_5
    refine r_aload_n hc 0 dX6_nights_81 rfl ?_
    refine gf_X6_2 hc lf_X6_30 dX6_nights_82 ?_
    refine r_aload_n hc 0 dX6_nights_85 rfl ?_
    refine gf_X6_2 hc lf_X6_30 dX6_nights_86 ?_
    refine r_iconst (v := 1) hc dX6_nights_89 rfl ?_
    refine r_callVi (d := 1) hc (m_X3_shiftBehind kH_33 h) cw_X3_shiftBehind wi_X3_shiftBehind ws_X3_shiftBehind lm_X6_159 (by decide) (by decide) (rv_X3 kH_33) rfl rfl (Nat.le_of_ble_eq_true rfl) dX6_nights_90 (fun r_7 σ_6 h => ?_)
    refine pf_X3_7 hc kH_33 lf_X6_152 dX6_nights_93 ?_
    refine r_nmS (fun σ_8 eσ_8 => ?_)
    have h := h σ_8 eσ_8
    obtain ⟨x2_9, ex2_9⟩ : ∃ v : Int32, v = x2 + 1 := ⟨_, rfl⟩
    have h := h x2_9 ex2_9
    refine r_iinc (v := x2_9) hc 2 [(2, .int x2_9), (0, kz g 0), (1, .int x1)] dX6_nights_96 rfl (by rw [ex2_9]; rfl) (by decide) rfl ?_
    refine r_goto hc 47 dX6_nights_99 (by decide) ?_
    refine r_sub [1, 2, 0] rfl ?_
    exact hK _ _ h
theorem sl_X6_nights_47 {X : kX} {g : kG} {N : Nat} {Q : Int32 → kS → Prop} (hc : kOk X g RX6 cX6_nights 3 (some .int) 2) (hZ : kRi X g cX6_nights Q) {x1 : Int32} : ∀ (n : Nat) (x2 : Int32) (σ : kS), l_X6_nights_47 N Q x1 n x2 σ → kP X g 3 47 [(0, kz g 0), (1, .int x1), (2, .int x2)] [] σ := by
  intro n
  induction n with
  | zero => intro x2 σ h; exact h.elim
  | succ n ih => intro x2 σ h; exact sb_X6_nights_47 hc hZ ih h
def w_X6_nights (N : Nat) (σ : kS) (x1 : Int32) (Q : Int32 → kS → Prop) : Prop :=
  w_X3_isTold N σ 33 (fun (r_2 : Int32) (σ_1 : kS) => if r_2 = 0 then (Q (-1000002) σ_1) else (if x1 < 1 then (Q (-1000001) σ_1) else (if x1 ≤ 24 then (if ((σ_1 33 8) + x1) ≤ 999 then (l_X6_nights_47 N Q x1  N 0 σ_1) else (Q (-1000003) σ_1)) else (Q (-1000001) σ_1))))
set_option maxHeartbeats 4000000 in
set_option maxRecDepth 100000 in
theorem s_X6_nights {X : kX} {g : kG} {N : Nat} {Q : Int32 → kS → Prop} (hc : kOk X g RX6 cX6_nights 3 (some .int) 2) (hZ : kRi X g cX6_nights Q) {σ : kS} {x1 : Int32} (h : w_X6_nights N σ x1 Q) : kP X g 3 0 [(0, kz g 0), (1, .int x1)] [] σ := by
  unfold w_X6_nights at h
  refine r_aload_n hc 0 dX6_nights_0 rfl ?_
  refine gf_X6_2 hc lf_X6_30 dX6_nights_1 ?_
  refine r_callVi (d := 0) hc (m_X3_isTold kH_33 h) cw_X3_isTold wi_X3_isTold ws_X3_isTold lm_X6_146 (by decide) (by decide) (rv_X3 kH_33) rfl rfl (Nat.le_of_ble_eq_true rfl) dX6_nights_4 (fun r_2 σ_1 h => ?_)
  refine r_if_ne hc 13 dX6_nights_7 (by decide) (fun q => ?_) (fun q => ?_)
  · have h := kif_t h q
    refine r_ldc hc lk_X6_142 dX6_nights_10 ?_
    exact r_iret (ls0 := []) hZ dX6_nights_12 h
  · have h := kif_f h q
    refine r_iload_n hc 1 dX6_nights_13 rfl ?_
    refine r_iconst (v := 1) hc dX6_nights_14 rfl ?_
    refine r_ic_lt hc 24 dX6_nights_15 (by decide) (fun q => ?_) (fun q => ?_)
    · have h := kif_t h q
      refine r_ldc hc lk_X6_67 dX6_nights_24 ?_
      exact r_iret (ls0 := []) hZ dX6_nights_26 h
    · have h := kif_f h q
      refine r_iload_n hc 1 dX6_nights_18 rfl ?_
      refine r_bipush (v := 24) hc dX6_nights_19 rfl ?_
      refine r_ic_le hc 27 dX6_nights_21 (by decide) (fun q => ?_) (fun q => ?_)
      · have h := kif_t h q
        refine r_aload_n hc 0 dX6_nights_27 rfl ?_
        refine gf_X6_2 hc lf_X6_30 dX6_nights_28 ?_
        refine gf_X3_8 hc kH_33 lf_X6_149 dX6_nights_31 ?_
        refine r_iload_n hc 1 dX6_nights_34 rfl ?_
        refine r_iadd hc dX6_nights_35 ?_
        refine r_sipush (v := 999) hc dX6_nights_36 rfl ?_
        refine r_ic_le hc 45 dX6_nights_39 (by decide) (fun q => ?_) (fun q => ?_)
        · have h := kif_t h q
          refine r_iconst (v := 0) hc dX6_nights_45 rfl ?_
          refine r_istore_n hc [(2, .int 0), (0, kz g 0), (1, .int x1)] dX6_nights_46 (by decide) rfl ?_
          refine r_sub [1, 2, 0] rfl ?_
          refine sl_X6_nights_47 hc hZ _ _ _ h
        · have h := kif_f h q
          refine r_ldc hc lk_X6_114 dX6_nights_42 ?_
          exact r_iret (ls0 := []) hZ dX6_nights_44 h
      · have h := kif_f h q
        refine r_ldc hc lk_X6_67 dX6_nights_24 ?_
        exact r_iret (ls0 := []) hZ dX6_nights_26 h
theorem m_X6_nights {l : Launch} {g : kG} {N : Nat} {σ : kS} {x1 : Int32} {Q : Int32 → kS → Prop} (h : w_X6_nights N σ x1 Q) : kMi l g yX6_nights cX6_nights 3 (some .int) 2 [kz g 0, .int x1] σ Q :=
  k_met_i (by decide +kernel) rfl (Nat.le_of_ble_eq_true rfl) (fun X hl hc hZ => s_X6_nights hc hZ h)
def w_X6_thunder (N : Nat) (σ : kS) (x1 : Int32) (Q : Int32 → kS → Prop) : Prop :=
  w_X3_isTold N σ 33 (fun (r_2 : Int32) (σ_1 : kS) => if r_2 = 0 then (Q (-1000002) σ_1) else (if x1 < 1 then (Q (-1000001) σ_1) else (if x1 ≤ 11 then (w_X0_keep N σ_1 1 0 (σ_1 33 7) (fun (σ_3 : kS) => w_X3_around N σ_3 33 ((σ_3 33 7) + x1) (fun (r_6 : Int32) (σ_5 : kS) => ∀ σ_7 : kS, σ_7 = st2 σ_5 33 7 r_6 → (Q (σ_7 33 7) σ_7)))) else (Q (-1000001) σ_1))))
set_option maxHeartbeats 4000000 in
set_option maxRecDepth 100000 in
theorem s_X6_thunder {X : kX} {g : kG} {N : Nat} {Q : Int32 → kS → Prop} (hc : kOk X g RX6 cX6_thunder 2 (some .int) 2) (hZ : kRi X g cX6_thunder Q) {σ : kS} {x1 : Int32} (h : w_X6_thunder N σ x1 Q) : kP X g 2 0 [(0, kz g 0), (1, .int x1)] [] σ := by
  unfold w_X6_thunder at h
  refine r_aload_n hc 0 dX6_thunder_0 rfl ?_
  refine gf_X6_2 hc lf_X6_30 dX6_thunder_1 ?_
  refine r_callVi (d := 0) hc (m_X3_isTold kH_33 h) cw_X3_isTold wi_X3_isTold ws_X3_isTold lm_X6_146 (by decide) (by decide) (rv_X3 kH_33) rfl rfl (Nat.le_of_ble_eq_true rfl) dX6_thunder_4 (fun r_2 σ_1 h => ?_)
  refine r_if_ne hc 13 dX6_thunder_7 (by decide) (fun q => ?_) (fun q => ?_)
  · have h := kif_t h q
    refine r_ldc hc lk_X6_142 dX6_thunder_10 ?_
    exact r_iret (ls0 := []) hZ dX6_thunder_12 h
  · have h := kif_f h q
    refine r_iload_n hc 1 dX6_thunder_13 rfl ?_
    refine r_iconst (v := 1) hc dX6_thunder_14 rfl ?_
    refine r_ic_lt hc 24 dX6_thunder_15 (by decide) (fun q => ?_) (fun q => ?_)
    · have h := kif_t h q
      refine r_ldc hc lk_X6_67 dX6_thunder_24 ?_
      exact r_iret (ls0 := []) hZ dX6_thunder_26 h
    · have h := kif_f h q
      refine r_iload_n hc 1 dX6_thunder_18 rfl ?_
      refine r_bipush (v := 11) hc dX6_thunder_19 rfl ?_
      refine r_ic_le hc 27 dX6_thunder_21 (by decide) (fun q => ?_) (fun q => ?_)
      · have h := kif_t h q
        refine r_aload_n hc 0 dX6_thunder_27 rfl ?_
        refine gf_X6_5 hc lf_X6_40 dX6_thunder_28 ?_
        refine r_iconst (v := 1) hc dX6_thunder_31 rfl ?_
        refine r_iconst (v := 0) hc dX6_thunder_32 rfl ?_
        refine r_aload_n hc 0 dX6_thunder_33 rfl ?_
        refine gf_X6_2 hc lf_X6_30 dX6_thunder_34 ?_
        refine gf_X3_7 hc kH_33 lf_X6_152 dX6_thunder_37 ?_
        refine r_callVv (d := 1) hc (m_X0_keep h) cw_X0_keep wi_X0_keep ws_X0_keep lm_X6_155 (by decide) (by decide) rv_X0 rfl rfl (Nat.le_of_ble_eq_true rfl) dX6_thunder_40 (fun σ_3 h => ?_)
        refine r_aload_n hc 0 dX6_thunder_43 rfl ?_
        refine gf_X6_2 hc lf_X6_30 dX6_thunder_44 ?_
        refine r_aload_n hc 0 dX6_thunder_47 rfl ?_
        refine gf_X6_2 hc lf_X6_30 dX6_thunder_48 ?_
        refine r_aload_n hc 0 dX6_thunder_51 rfl ?_
        refine gf_X6_2 hc lf_X6_30 dX6_thunder_52 ?_
        refine gf_X3_7 hc kH_33 lf_X6_152 dX6_thunder_55 ?_
        refine r_iload_n hc 1 dX6_thunder_58 rfl ?_
        refine r_iadd hc dX6_thunder_59 ?_
        refine r_callVi (d := 0) hc (m_X3_around kH_33 h) cw_X3_around wi_X3_around ws_X3_around lm_X6_162 (by decide) (by decide) (rv_X3 kH_33) rfl rfl (Nat.le_of_ble_eq_true rfl) dX6_thunder_60 (fun r_6 σ_5 h => ?_)
        refine pf_X3_7 hc kH_33 lf_X6_152 dX6_thunder_63 ?_
        refine r_nmS (fun σ_7 eσ_7 => ?_)
        have h := h σ_7 eσ_7
        refine r_aload_n hc 0 dX6_thunder_66 rfl ?_
        refine gf_X6_2 hc lf_X6_30 dX6_thunder_67 ?_
        refine gf_X3_7 hc kH_33 lf_X6_152 dX6_thunder_70 ?_
        exact r_iret (ls0 := []) hZ dX6_thunder_73 h
      · have h := kif_f h q
        refine r_ldc hc lk_X6_67 dX6_thunder_24 ?_
        exact r_iret (ls0 := []) hZ dX6_thunder_26 h
theorem m_X6_thunder {l : Launch} {g : kG} {N : Nat} {σ : kS} {x1 : Int32} {Q : Int32 → kS → Prop} (h : w_X6_thunder N σ x1 Q) : kMi l g yX6_thunder cX6_thunder 2 (some .int) 2 [kz g 0, .int x1] σ Q :=
  k_met_i (by decide +kernel) rfl (Nat.le_of_ble_eq_true rfl) (fun X hl hc hZ => s_X6_thunder hc hZ h)
def w_X6_tune (N : Nat) (σ : kS) (Q : Int32 → kS → Prop) : Prop :=
  w_X3_isTold N σ 33 (fun (r_2 : Int32) (σ_1 : kS) => if r_2 = 0 then (Q (-1000002) σ_1) else (∀ x1_3 : Int32, x1_3 = σ_1 33 7 → (w_X0_keep N σ_1 1 0 x1_3 (fun (σ_4 : kS) => ∀ σ_6 : kS, σ_6 = st2 σ_4 33 7 0 → (Q x1_3 σ_6)))))
set_option maxHeartbeats 4000000 in
set_option maxRecDepth 100000 in
theorem s_X6_tune {X : kX} {g : kG} {N : Nat} {Q : Int32 → kS → Prop} (hc : kOk X g RX6 cX6_tune 2 (some .int) 2) (hZ : kRi X g cX6_tune Q) {σ : kS} (h : w_X6_tune N σ Q) : kP X g 2 0 [(0, kz g 0)] [] σ := by
  unfold w_X6_tune at h
  refine r_aload_n hc 0 dX6_tune_0 rfl ?_
  refine gf_X6_2 hc lf_X6_30 dX6_tune_1 ?_
  refine r_callVi (d := 0) hc (m_X3_isTold kH_33 h) cw_X3_isTold wi_X3_isTold ws_X3_isTold lm_X6_146 (by decide) (by decide) (rv_X3 kH_33) rfl rfl (Nat.le_of_ble_eq_true rfl) dX6_tune_4 (fun r_2 σ_1 h => ?_)
  refine r_if_ne hc 13 dX6_tune_7 (by decide) (fun q => ?_) (fun q => ?_)
  · have h := kif_t h q
    refine r_ldc hc lk_X6_142 dX6_tune_10 ?_
    exact r_iret (ls0 := []) hZ dX6_tune_12 h
  · have h := kif_f h q
    refine r_aload_n hc 0 dX6_tune_13 rfl ?_
    refine gf_X6_2 hc lf_X6_30 dX6_tune_14 ?_
    refine gf_X3_7 hc kH_33 lf_X6_152 dX6_tune_17 ?_
    refine r_nmI (fun x1_3 ex1_3 => ?_)
    have h := h x1_3 ex1_3
    refine r_istore_n hc [(1, .int x1_3), (0, kz g 0)] dX6_tune_20 (by decide) rfl ?_
    refine r_aload_n hc 1 dX6_tune_21 rfl ?_
    refine gf_X6_5 hc lf_X6_40 dX6_tune_22 ?_
    refine r_iconst (v := 1) hc dX6_tune_25 rfl ?_
    refine r_iconst (v := 0) hc dX6_tune_26 rfl ?_
    refine r_iload_n hc 0 dX6_tune_27 rfl ?_
    refine r_callVv (d := 1) hc (m_X0_keep h) cw_X0_keep wi_X0_keep ws_X0_keep lm_X6_155 (by decide) (by decide) rv_X0 rfl rfl (Nat.le_of_ble_eq_true rfl) dX6_tune_28 (fun σ_4 h => ?_)
    refine r_aload_n hc 1 dX6_tune_31 rfl ?_
    refine gf_X6_2 hc lf_X6_30 dX6_tune_32 ?_
    refine r_iconst (v := 0) hc dX6_tune_35 rfl ?_
    refine pf_X3_7 hc kH_33 lf_X6_152 dX6_tune_36 ?_
    refine r_nmS (fun σ_6 eσ_6 => ?_)
    have h := h σ_6 eσ_6
    refine r_iload_n hc 0 dX6_tune_39 rfl ?_
    exact r_iret (ls0 := []) hZ dX6_tune_40 h
theorem m_X6_tune {l : Launch} {g : kG} {N : Nat} {σ : kS} {Q : Int32 → kS → Prop} (h : w_X6_tune N σ Q) : kMi l g yX6_tune cX6_tune 2 (some .int) 2 [kz g 0] σ Q :=
  k_met_i (by decide +kernel) rfl (Nat.le_of_ble_eq_true rfl) (fun X hl hc hZ => s_X6_tune hc hZ h)
def w_X6_learn (N : Nat) (σ : kS) (x1 : Int32) (Q : Int32 → kS → Prop) : Prop :=
  w_X3_hasPupil N σ 33 x1 (fun (r_2 : Int32) (σ_1 : kS) => if r_2 = 0 then (Q (-1000001) σ_1) else (vp_in x1 5 ∧ (∀ x2_4 : Int32, x2_4 = σ_1 37 x1.toNatClampNeg → (w_X0_keep N σ_1 2 x1 x2_4 (fun (σ_5 : kS) => vp_in x1 5 ∧ (∀ σ_8 : kS, σ_8 = st2 σ_5 37 (x1.toNatClampNeg) (σ_5 33 7) → (Q x2_4 σ_8)))))))
set_option maxHeartbeats 4000000 in
set_option maxRecDepth 100000 in
theorem s_X6_learn {X : kX} {g : kG} {N : Nat} {Q : Int32 → kS → Prop} (hc : kOk X g RX6 cX6_learn 3 (some .int) 2) (hZ : kRi X g cX6_learn Q) {σ : kS} {x1 : Int32} (h : w_X6_learn N σ x1 Q) : kP X g 3 0 [(0, kz g 0), (1, .int x1)] [] σ := by
  unfold w_X6_learn at h
  refine r_aload_n hc 0 dX6_learn_0 rfl ?_
  refine gf_X6_2 hc lf_X6_30 dX6_learn_1 ?_
  refine r_iload_n hc 1 dX6_learn_4 rfl ?_
  refine r_callVi (d := 0) hc (m_X3_hasPupil kH_33 h) cw_X3_hasPupil wi_X3_hasPupil ws_X3_hasPupil lm_X6_165 (by decide) (by decide) (rv_X3 kH_33) rfl rfl (Nat.le_of_ble_eq_true rfl) dX6_learn_5 (fun r_2 σ_1 h => ?_)
  refine r_if_ne hc 14 dX6_learn_8 (by decide) (fun q => ?_) (fun q => ?_)
  · have h := kif_t h q
    refine r_ldc hc lk_X6_67 dX6_learn_11 ?_
    exact r_iret (ls0 := []) hZ dX6_learn_13 h
  · have h := kif_f h q
    refine r_aload_n hc 0 dX6_learn_14 rfl ?_
    refine gf_X6_2 hc lf_X6_30 dX6_learn_15 ?_
    refine gf_X3_3 hc kH_33 lf_X6_168 dX6_learn_18 ?_
    refine r_iload_n hc 1 dX6_learn_21 rfl ?_
    obtain ⟨hi_3, h⟩ := h
    refine r_iald hc kia_37 hi_3 dX6_learn_22 ?_
    refine r_nmI (fun x2_4 ex2_4 => ?_)
    have h := h x2_4 ex2_4
    refine r_istore_n hc [(2, .int x2_4), (0, kz g 0), (1, .int x1)] dX6_learn_23 (by decide) rfl ?_
    refine r_aload_n hc 1 dX6_learn_24 rfl ?_
    refine gf_X6_5 hc lf_X6_40 dX6_learn_25 ?_
    refine r_iconst (v := 2) hc dX6_learn_28 rfl ?_
    refine r_iload_n hc 2 dX6_learn_29 rfl ?_
    refine r_iload_n hc 0 dX6_learn_30 rfl ?_
    refine r_callVv (d := 1) hc (m_X0_keep h) cw_X0_keep wi_X0_keep ws_X0_keep lm_X6_155 (by decide) (by decide) rv_X0 rfl rfl (Nat.le_of_ble_eq_true rfl) dX6_learn_31 (fun σ_5 h => ?_)
    refine r_aload_n hc 1 dX6_learn_34 rfl ?_
    refine gf_X6_2 hc lf_X6_30 dX6_learn_35 ?_
    refine gf_X3_3 hc kH_33 lf_X6_168 dX6_learn_38 ?_
    refine r_iload_n hc 2 dX6_learn_41 rfl ?_
    refine r_aload_n hc 1 dX6_learn_42 rfl ?_
    refine gf_X6_2 hc lf_X6_30 dX6_learn_43 ?_
    refine gf_X3_7 hc kH_33 lf_X6_152 dX6_learn_46 ?_
    obtain ⟨hi_7, h⟩ := h
    refine r_iast hc kia_37 hi_7 dX6_learn_49 ?_
    refine r_nmS (fun σ_8 eσ_8 => ?_)
    have h := h σ_8 eσ_8
    refine r_iload_n hc 0 dX6_learn_50 rfl ?_
    exact r_iret (ls0 := []) hZ dX6_learn_51 h
theorem m_X6_learn {l : Launch} {g : kG} {N : Nat} {σ : kS} {x1 : Int32} {Q : Int32 → kS → Prop} (h : w_X6_learn N σ x1 Q) : kMi l g yX6_learn cX6_learn 3 (some .int) 2 [kz g 0, .int x1] σ Q :=
  k_met_i (by decide +kernel) rfl (Nat.le_of_ble_eq_true rfl) (fun X hl hc hZ => s_X6_learn hc hZ h)
def w_X6_piece (N : Nat) (σ : kS) (x1 : Int32) (x2 : Int32) (Q : Int32 → kS → Prop) : Prop :=
  w_X3_hasPiece N σ 33 x1 (fun (r_2 : Int32) (σ_1 : kS) => if r_2 = 0 then (Q (-1000001) σ_1) else (if (-1) ≤ x2 then (if x2 = (-1) then (vp_in x1 4 ∧ (Q (σ_1 34 x1.toNatClampNeg) σ_1)) else (vp_in x1 4 ∧ (if (σ_1 34 x1.toNatClampNeg) ≤ x2 then (Q (-1000000) σ_1) else (w_X3_stringOf N σ_1 33 x1 x2 (fun (r_6 : Int32) (σ_5 : kS) => Q r_6 σ_5))))) else (Q (-1000001) σ_1)))
set_option maxHeartbeats 4000000 in
set_option maxRecDepth 100000 in
theorem s_X6_piece {X : kX} {g : kG} {N : Nat} {Q : Int32 → kS → Prop} (hc : kOk X g RX6 cX6_piece 3 (some .int) 1) (hZ : kRi X g cX6_piece Q) {σ : kS} {x1 : Int32} {x2 : Int32} (h : w_X6_piece N σ x1 x2 Q) : kP X g 3 0 [(0, kz g 0), (1, .int x1), (2, .int x2)] [] σ := by
  unfold w_X6_piece at h
  refine r_aload_n hc 0 dX6_piece_0 rfl ?_
  refine gf_X6_2 hc lf_X6_30 dX6_piece_1 ?_
  refine r_iload_n hc 1 dX6_piece_4 rfl ?_
  refine r_callVi (d := 0) hc (m_X3_hasPiece kH_33 h) cw_X3_hasPiece wi_X3_hasPiece ws_X3_hasPiece lm_X6_171 (by decide) (by decide) (rv_X3 kH_33) rfl rfl (Nat.le_of_ble_eq_true rfl) dX6_piece_5 (fun r_2 σ_1 h => ?_)
  refine r_if_eq hc 16 dX6_piece_8 (by decide) (fun q => ?_) (fun q => ?_)
  · have h := kif_t h q
    refine r_ldc hc lk_X6_67 dX6_piece_16 ?_
    exact r_iret (ls0 := []) hZ dX6_piece_18 h
  · have h := kif_f h q
    refine r_iload_n hc 2 dX6_piece_11 rfl ?_
    refine r_iconst (v := (-1)) hc dX6_piece_12 rfl ?_
    refine r_ic_ge hc 19 dX6_piece_13 (by decide) (fun q => ?_) (fun q => ?_)
    · have h := kif_t h q
      refine r_iload_n hc 2 dX6_piece_19 rfl ?_
      refine r_iconst (v := (-1)) hc dX6_piece_20 rfl ?_
      refine r_ic_ne hc 34 dX6_piece_21 (by decide) (fun q => ?_) (fun q => ?_)
      · have h := kif_t h q
        refine r_aload_n hc 0 dX6_piece_24 rfl ?_
        refine gf_X6_2 hc lf_X6_30 dX6_piece_25 ?_
        refine gf_X3_0 hc kH_33 lf_X6_174 dX6_piece_28 ?_
        refine r_iload_n hc 1 dX6_piece_31 rfl ?_
        obtain ⟨hi_3, h⟩ := h
        refine r_iald hc kia_34 hi_3 dX6_piece_32 ?_
        exact r_iret (ls0 := []) hZ dX6_piece_33 h
      · have h := kif_f h q
        refine r_iload_n hc 2 dX6_piece_34 rfl ?_
        refine r_aload_n hc 0 dX6_piece_35 rfl ?_
        refine gf_X6_2 hc lf_X6_30 dX6_piece_36 ?_
        refine gf_X3_0 hc kH_33 lf_X6_174 dX6_piece_39 ?_
        refine r_iload_n hc 1 dX6_piece_42 rfl ?_
        obtain ⟨hi_4, h⟩ := h
        refine r_iald hc kia_34 hi_4 dX6_piece_43 ?_
        refine r_ic_ge hc 59 dX6_piece_44 (by decide) (fun q => ?_) (fun q => ?_)
        · have h := kif_t h q
          refine r_ldc hc lk_X6_180 dX6_piece_59 ?_
          exact r_iret (ls0 := []) hZ dX6_piece_61 h
        · have h := kif_f h q
          refine r_aload_n hc 0 dX6_piece_47 rfl ?_
          refine gf_X6_2 hc lf_X6_30 dX6_piece_48 ?_
          refine r_iload_n hc 1 dX6_piece_51 rfl ?_
          refine r_iload_n hc 2 dX6_piece_52 rfl ?_
          refine r_callVi (d := 0) hc (m_X3_stringOf kH_33 h) cw_X3_stringOf wi_X3_stringOf ws_X3_stringOf lm_X6_177 (by decide) (by decide) (rv_X3 kH_33) rfl rfl (Nat.le_of_ble_eq_true rfl) dX6_piece_53 (fun r_6 σ_5 h => ?_)
          refine r_goto hc 61 dX6_piece_56 (by decide) ?_
          exact r_iret (ls0 := []) hZ dX6_piece_61 h
    · have h := kif_f h q
      refine r_ldc hc lk_X6_67 dX6_piece_16 ?_
      exact r_iret (ls0 := []) hZ dX6_piece_18 h
theorem m_X6_piece {l : Launch} {g : kG} {N : Nat} {σ : kS} {x1 : Int32} {x2 : Int32} {Q : Int32 → kS → Prop} (h : w_X6_piece N σ x1 x2 Q) : kMi l g yX6_piece cX6_piece 3 (some .int) 1 [kz g 0, .int x1, .int x2] σ Q :=
  k_met_i (by decide +kernel) rfl (Nat.le_of_ble_eq_true rfl) (fun X hl hc hZ => s_X6_piece hc hZ h)
def w_X6_pupil (N : Nat) (σ : kS) (x1 : Int32) (x2 : Int32) (Q : Int32 → kS → Prop) : Prop :=
  w_X3_hasPupil N σ 33 x1 (fun (r_2 : Int32) (σ_1 : kS) => if r_2 = 0 then (Q (-1000001) σ_1) else (if x2 = 0 then (vp_in x1 5 ∧ (Q (σ_1 37 x1.toNatClampNeg) σ_1)) else (if x2 = 1 then (vp_in x1 5 ∧ (Q (σ_1 38 x1.toNatClampNeg) σ_1)) else (if x2 = 2 then (w_X3_biasOf N σ_1 33 x1 (fun (r_8 : Int32) (σ_7 : kS) => Q r_8 σ_7)) else (if x2 = 3 then (w_X3_biasOf N σ_1 33 x1 (fun (r_11 : Int32) (σ_10 : kS) => if r_11 = (σ_10 33 7) then (Q 1 σ_10) else (Q 0 σ_10))) else (Q (-1000001) σ_1))))))
set_option maxHeartbeats 4000000 in
set_option maxRecDepth 100000 in
theorem s_X6_pupil {X : kX} {g : kG} {N : Nat} {Q : Int32 → kS → Prop} (hc : kOk X g RX6 cX6_pupil 3 (some .int) 3) (hZ : kRi X g cX6_pupil Q) {σ : kS} {x1 : Int32} {x2 : Int32} (h : w_X6_pupil N σ x1 x2 Q) : kP X g 3 0 [(0, kz g 0), (1, .int x1), (2, .int x2)] [] σ := by
  unfold w_X6_pupil at h
  refine r_aload_n hc 0 dX6_pupil_0 rfl ?_
  refine gf_X6_2 hc lf_X6_30 dX6_pupil_1 ?_
  refine r_iload_n hc 1 dX6_pupil_4 rfl ?_
  refine r_callVi (d := 0) hc (m_X3_hasPupil kH_33 h) cw_X3_hasPupil wi_X3_hasPupil ws_X3_hasPupil lm_X6_165 (by decide) (by decide) (rv_X3 kH_33) rfl rfl (Nat.le_of_ble_eq_true rfl) dX6_pupil_5 (fun r_2 σ_1 h => ?_)
  refine r_if_ne hc 14 dX6_pupil_8 (by decide) (fun q => ?_) (fun q => ?_)
  · have h := kif_t h q
    refine r_ldc hc lk_X6_67 dX6_pupil_11 ?_
    exact r_iret (ls0 := []) hZ dX6_pupil_13 h
  · have h := kif_f h q
    refine r_iload_n hc 2 dX6_pupil_14 rfl ?_
    by_cases q_4 : x2 = 0
    · have h := kif_t h q_4
      refine r_tabIn hc 44 dX6_pupil_15 (by rw [q_4]; decide) (by rw [q_4]; decide) (by rw [q_4] <;> rfl) (by decide) ?_
      refine r_aload_n hc 0 dX6_pupil_44 rfl ?_
      refine gf_X6_2 hc lf_X6_30 dX6_pupil_45 ?_
      refine gf_X3_3 hc kH_33 lf_X6_168 dX6_pupil_48 ?_
      refine r_iload_n hc 1 dX6_pupil_51 rfl ?_
      obtain ⟨hi_3, h⟩ := h
      refine r_iald hc kia_37 hi_3 dX6_pupil_52 ?_
      exact r_iret (ls0 := []) hZ dX6_pupil_53 h
    have h := kif_f h q_4
    have zq_4 : x2.toInt ≠ 0 := ktne q_4
    by_cases q_6 : x2 = 1
    · have h := kif_t h q_6
      refine r_tabIn hc 54 dX6_pupil_15 (by rw [q_6]; decide) (by rw [q_6]; decide) (by rw [q_6] <;> rfl) (by decide) ?_
      refine r_aload_n hc 0 dX6_pupil_54 rfl ?_
      refine gf_X6_2 hc lf_X6_30 dX6_pupil_55 ?_
      refine gf_X3_4 hc kH_33 lf_X6_181 dX6_pupil_58 ?_
      refine r_iload_n hc 1 dX6_pupil_61 rfl ?_
      obtain ⟨hi_5, h⟩ := h
      refine r_iald hc kia_38 hi_5 dX6_pupil_62 ?_
      exact r_iret (ls0 := []) hZ dX6_pupil_63 h
    have h := kif_f h q_6
    have zq_6 : x2.toInt ≠ 1 := ktne q_6
    by_cases q_9 : x2 = 2
    · have h := kif_t h q_9
      refine r_tabIn hc 64 dX6_pupil_15 (by rw [q_9]; decide) (by rw [q_9]; decide) (by rw [q_9] <;> rfl) (by decide) ?_
      refine r_aload_n hc 0 dX6_pupil_64 rfl ?_
      refine gf_X6_2 hc lf_X6_30 dX6_pupil_65 ?_
      refine r_iload_n hc 1 dX6_pupil_68 rfl ?_
      refine r_callVi (d := 2) hc (m_X3_biasOf kH_33 h) cw_X3_biasOf wi_X3_biasOf ws_X3_biasOf lm_X6_184 (by decide) (by decide) (rv_X3 kH_33) rfl rfl (Nat.le_of_ble_eq_true rfl) dX6_pupil_69 (fun r_8 σ_7 h => ?_)
      exact r_iret (ls0 := []) hZ dX6_pupil_72 h
    have h := kif_f h q_9
    have zq_9 : x2.toInt ≠ 2 := ktne q_9
    by_cases q_12 : x2 = 3
    · have h := kif_t h q_12
      refine r_tabIn hc 73 dX6_pupil_15 (by rw [q_12]; decide) (by rw [q_12]; decide) (by rw [q_12] <;> rfl) (by decide) ?_
      refine r_aload_n hc 0 dX6_pupil_73 rfl ?_
      refine gf_X6_2 hc lf_X6_30 dX6_pupil_74 ?_
      refine r_iload_n hc 1 dX6_pupil_77 rfl ?_
      refine r_callVi (d := 2) hc (m_X3_biasOf kH_33 h) cw_X3_biasOf wi_X3_biasOf ws_X3_biasOf lm_X6_184 (by decide) (by decide) (rv_X3 kH_33) rfl rfl (Nat.le_of_ble_eq_true rfl) dX6_pupil_78 (fun r_11 σ_10 h => ?_)
      refine r_aload_n hc 0 dX6_pupil_81 rfl ?_
      refine gf_X6_2 hc lf_X6_30 dX6_pupil_82 ?_
      refine gf_X3_7 hc kH_33 lf_X6_152 dX6_pupil_85 ?_
      refine r_ic_ne hc 95 dX6_pupil_88 (by decide) (fun q => ?_) (fun q => ?_)
      · have h := kif_t h q
        refine r_iconst (v := 1) hc dX6_pupil_91 rfl ?_
        refine r_goto hc 96 dX6_pupil_92 (by decide) ?_
        exact r_iret (ls0 := []) hZ dX6_pupil_96 h
      · have h := kif_f h q
        refine r_iconst (v := 0) hc dX6_pupil_95 rfl ?_
        exact r_iret (ls0 := []) hZ dX6_pupil_96 h
    have h := kif_f h q_12
    have zq_12 : x2.toInt ≠ 3 := ktne q_12
    refine r_tabOut hc 97 dX6_pupil_15 (by omega) (by decide) ?_
    refine r_ldc hc lk_X6_67 dX6_pupil_97 ?_
    exact r_iret (ls0 := []) hZ dX6_pupil_99 h
theorem m_X6_pupil {l : Launch} {g : kG} {N : Nat} {σ : kS} {x1 : Int32} {x2 : Int32} {Q : Int32 → kS → Prop} (h : w_X6_pupil N σ x1 x2 Q) : kMi l g yX6_pupil cX6_pupil 3 (some .int) 3 [kz g 0, .int x1, .int x2] σ Q :=
  k_met_i (by decide +kernel) rfl (Nat.le_of_ble_eq_true rfl) (fun X hl hc hZ => s_X6_pupil hc hZ h)
def w_X6_plays (N : Nat) (σ : kS) (x1 : Int32) (x2 : Int32) (x3 : Int32) (Q : Int32 → kS → Prop) : Prop :=
  w_X3_hasPupil N σ 33 x1 (fun (r_2 : Int32) (σ_1 : kS) => if r_2 = 0 then (Q (-1000001) σ_1) else (w_X3_hasPiece N σ_1 33 x2 (fun (r_4 : Int32) (σ_3 : kS) => if r_4 = 0 then (Q (-1000001) σ_3) else (if x3 = 0 then (w_X3_reaches N σ_3 33 x1 x2 (fun (r_6 : Int32) (σ_5 : kS) => if r_6 = 0 then (Q 0 σ_5) else (Q 1 σ_5))) else (if x3 = 1 then (w_X3_biasOf N σ_3 33 x1 (fun (r_9 : Int32) (σ_8 : kS) => w_X3_leastKey N σ_8 33 r_9 x2 (fun (r_11 : Int32) (σ_10 : kS) => Q r_11 σ_10))) else (if x3 = 2 then (w_X3_biasOf N σ_3 33 x1 (fun (r_14 : Int32) (σ_13 : kS) => w_X3_greatestKey N σ_13 33 r_14 x2 (fun (r_16 : Int32) (σ_15 : kS) => Q r_16 σ_15))) else (Q (-1000001) σ_3)))))))
set_option maxHeartbeats 4000000 in
set_option maxRecDepth 100000 in
theorem s_X6_plays {X : kX} {g : kG} {N : Nat} {Q : Int32 → kS → Prop} (hc : kOk X g RX6 cX6_plays 4 (some .int) 4) (hZ : kRi X g cX6_plays Q) {σ : kS} {x1 : Int32} {x2 : Int32} {x3 : Int32} (h : w_X6_plays N σ x1 x2 x3 Q) : kP X g 4 0 [(0, kz g 0), (1, .int x1), (2, .int x2), (3, .int x3)] [] σ := by
  unfold w_X6_plays at h
  refine r_aload_n hc 0 dX6_plays_0 rfl ?_
  refine gf_X6_2 hc lf_X6_30 dX6_plays_1 ?_
  refine r_iload_n hc 1 dX6_plays_4 rfl ?_
  refine r_callVi (d := 0) hc (m_X3_hasPupil kH_33 h) cw_X3_hasPupil wi_X3_hasPupil ws_X3_hasPupil lm_X6_165 (by decide) (by decide) (rv_X3 kH_33) rfl rfl (Nat.le_of_ble_eq_true rfl) dX6_plays_5 (fun r_2 σ_1 h => ?_)
  refine r_if_eq hc 22 dX6_plays_8 (by decide) (fun q => ?_) (fun q => ?_)
  · have h := kif_t h q
    refine r_ldc hc lk_X6_67 dX6_plays_22 ?_
    exact r_iret (ls0 := []) hZ dX6_plays_24 h
  · have h := kif_f h q
    refine r_aload_n hc 0 dX6_plays_11 rfl ?_
    refine gf_X6_2 hc lf_X6_30 dX6_plays_12 ?_
    refine r_iload_n hc 2 dX6_plays_15 rfl ?_
    refine r_callVi (d := 0) hc (m_X3_hasPiece kH_33 h) cw_X3_hasPiece wi_X3_hasPiece ws_X3_hasPiece lm_X6_171 (by decide) (by decide) (rv_X3 kH_33) rfl rfl (Nat.le_of_ble_eq_true rfl) dX6_plays_16 (fun r_4 σ_3 h => ?_)
    refine r_if_ne hc 25 dX6_plays_19 (by decide) (fun q => ?_) (fun q => ?_)
    · have h := kif_t h q
      refine r_ldc hc lk_X6_67 dX6_plays_22 ?_
      exact r_iret (ls0 := []) hZ dX6_plays_24 h
    · have h := kif_f h q
      refine r_iload_n hc 3 dX6_plays_25 rfl ?_
      by_cases q_7 : x3 = 0
      · have h := kif_t h q_7
        refine r_tabIn hc 52 dX6_plays_26 (by rw [q_7]; decide) (by rw [q_7]; decide) (by rw [q_7] <;> rfl) (by decide) ?_
        refine r_aload_n hc 0 dX6_plays_52 rfl ?_
        refine gf_X6_2 hc lf_X6_30 dX6_plays_53 ?_
        refine r_iload_n hc 1 dX6_plays_56 rfl ?_
        refine r_iload_n hc 2 dX6_plays_57 rfl ?_
        refine r_callVi (d := 3) hc (m_X3_reaches kH_33 h) cw_X3_reaches wi_X3_reaches ws_X3_reaches lm_X6_187 (by decide) (by decide) (rv_X3 kH_33) rfl rfl (Nat.le_of_ble_eq_true rfl) dX6_plays_58 (fun r_6 σ_5 h => ?_)
        refine r_if_eq hc 68 dX6_plays_61 (by decide) (fun q => ?_) (fun q => ?_)
        · have h := kif_t h q
          refine r_iconst (v := 0) hc dX6_plays_68 rfl ?_
          exact r_iret (ls0 := []) hZ dX6_plays_69 h
        · have h := kif_f h q
          refine r_iconst (v := 1) hc dX6_plays_64 rfl ?_
          refine r_goto hc 69 dX6_plays_65 (by decide) ?_
          exact r_iret (ls0 := []) hZ dX6_plays_69 h
      have h := kif_f h q_7
      have zq_7 : x3.toInt ≠ 0 := ktne q_7
      by_cases q_12 : x3 = 1
      · have h := kif_t h q_12
        refine r_tabIn hc 70 dX6_plays_26 (by rw [q_12]; decide) (by rw [q_12]; decide) (by rw [q_12] <;> rfl) (by decide) ?_
        refine r_aload_n hc 0 dX6_plays_70 rfl ?_
        refine gf_X6_2 hc lf_X6_30 dX6_plays_71 ?_
        refine r_aload_n hc 0 dX6_plays_74 rfl ?_
        refine gf_X6_2 hc lf_X6_30 dX6_plays_75 ?_
        refine r_iload_n hc 1 dX6_plays_78 rfl ?_
        refine r_callVi (d := 2) hc (m_X3_biasOf kH_33 h) cw_X3_biasOf wi_X3_biasOf ws_X3_biasOf lm_X6_184 (by decide) (by decide) (rv_X3 kH_33) rfl rfl (Nat.le_of_ble_eq_true rfl) dX6_plays_79 (fun r_9 σ_8 h => ?_)
        refine r_iload_n hc 2 dX6_plays_82 rfl ?_
        refine r_callVi (d := 1) hc (m_X3_leastKey kH_33 h) cw_X3_leastKey wi_X3_leastKey ws_X3_leastKey lm_X6_190 (by decide) (by decide) (rv_X3 kH_33) rfl rfl (Nat.le_of_ble_eq_true rfl) dX6_plays_83 (fun r_11 σ_10 h => ?_)
        exact r_iret (ls0 := []) hZ dX6_plays_86 h
      have h := kif_f h q_12
      have zq_12 : x3.toInt ≠ 1 := ktne q_12
      by_cases q_17 : x3 = 2
      · have h := kif_t h q_17
        refine r_tabIn hc 87 dX6_plays_26 (by rw [q_17]; decide) (by rw [q_17]; decide) (by rw [q_17] <;> rfl) (by decide) ?_
        refine r_aload_n hc 0 dX6_plays_87 rfl ?_
        refine gf_X6_2 hc lf_X6_30 dX6_plays_88 ?_
        refine r_aload_n hc 0 dX6_plays_91 rfl ?_
        refine gf_X6_2 hc lf_X6_30 dX6_plays_92 ?_
        refine r_iload_n hc 1 dX6_plays_95 rfl ?_
        refine r_callVi (d := 2) hc (m_X3_biasOf kH_33 h) cw_X3_biasOf wi_X3_biasOf ws_X3_biasOf lm_X6_184 (by decide) (by decide) (rv_X3 kH_33) rfl rfl (Nat.le_of_ble_eq_true rfl) dX6_plays_96 (fun r_14 σ_13 h => ?_)
        refine r_iload_n hc 2 dX6_plays_99 rfl ?_
        refine r_callVi (d := 1) hc (m_X3_greatestKey kH_33 h) cw_X3_greatestKey wi_X3_greatestKey ws_X3_greatestKey lm_X6_193 (by decide) (by decide) (rv_X3 kH_33) rfl rfl (Nat.le_of_ble_eq_true rfl) dX6_plays_100 (fun r_16 σ_15 h => ?_)
        exact r_iret (ls0 := []) hZ dX6_plays_103 h
      have h := kif_f h q_17
      have zq_17 : x3.toInt ≠ 2 := ktne q_17
      refine r_tabOut hc 104 dX6_plays_26 (by omega) (by decide) ?_
      refine r_ldc hc lk_X6_67 dX6_plays_104 ?_
      exact r_iret (ls0 := []) hZ dX6_plays_106 h
theorem m_X6_plays {l : Launch} {g : kG} {N : Nat} {σ : kS} {x1 : Int32} {x2 : Int32} {x3 : Int32} {Q : Int32 → kS → Prop} (h : w_X6_plays N σ x1 x2 x3 Q) : kMi l g yX6_plays cX6_plays 4 (some .int) 4 [kz g 0, .int x1, .int x2, .int x3] σ Q :=
  k_met_i (by decide +kernel) rfl (Nat.le_of_ble_eq_true rfl) (fun X hl hc hZ => s_X6_plays hc hZ h)
def w_X6_heard (N : Nat) (σ : kS) (x1 : Int32) (x2 : Int32) (x3 : Int32) (Q : Int32 → kS → Prop) : Prop :=
  w_X3_hasPupil N σ 33 x1 (fun (r_2 : Int32) (σ_1 : kS) => if r_2 = 0 then (Q (-1000001) σ_1) else (w_X3_hasPiece N σ_1 33 x2 (fun (r_4 : Int32) (σ_3 : kS) => if r_4 = 0 then (Q (-1000001) σ_3) else (if x3 < 0 then (Q (-1000001) σ_3) else (vp_in x2 4 ∧ (if x3 < (σ_3 34 x2.toNatClampNeg) then (w_X3_stringOf N σ_3 33 x2 x3 (fun (r_7 : Int32) (σ_6 : kS) => w_X3_biasOf N σ_6 33 x1 (fun (r_9 : Int32) (σ_8 : kS) => w_X3_stringHeard N σ_8 33 r_7 r_9 (fun (r_11 : Int32) (σ_10 : kS) => Q r_11 σ_10)))) else (Q (-1000001) σ_3)))))))
set_option maxHeartbeats 4000000 in
set_option maxRecDepth 100000 in
theorem s_X6_heard {X : kX} {g : kG} {N : Nat} {Q : Int32 → kS → Prop} (hc : kOk X g RX6 cX6_heard 4 (some .int) 3) (hZ : kRi X g cX6_heard Q) {σ : kS} {x1 : Int32} {x2 : Int32} {x3 : Int32} (h : w_X6_heard N σ x1 x2 x3 Q) : kP X g 4 0 [(0, kz g 0), (1, .int x1), (2, .int x2), (3, .int x3)] [] σ := by
  unfold w_X6_heard at h
  refine r_aload_n hc 0 dX6_heard_0 rfl ?_
  refine gf_X6_2 hc lf_X6_30 dX6_heard_1 ?_
  refine r_iload_n hc 1 dX6_heard_4 rfl ?_
  refine r_callVi (d := 0) hc (m_X3_hasPupil kH_33 h) cw_X3_hasPupil wi_X3_hasPupil ws_X3_hasPupil lm_X6_165 (by decide) (by decide) (rv_X3 kH_33) rfl rfl (Nat.le_of_ble_eq_true rfl) dX6_heard_5 (fun r_2 σ_1 h => ?_)
  refine r_if_eq hc 22 dX6_heard_8 (by decide) (fun q => ?_) (fun q => ?_)
  · have h := kif_t h q
    refine r_ldc hc lk_X6_67 dX6_heard_22 ?_
    exact r_iret (ls0 := []) hZ dX6_heard_24 h
  · have h := kif_f h q
    refine r_aload_n hc 0 dX6_heard_11 rfl ?_
    refine gf_X6_2 hc lf_X6_30 dX6_heard_12 ?_
    refine r_iload_n hc 2 dX6_heard_15 rfl ?_
    refine r_callVi (d := 0) hc (m_X3_hasPiece kH_33 h) cw_X3_hasPiece wi_X3_hasPiece ws_X3_hasPiece lm_X6_171 (by decide) (by decide) (rv_X3 kH_33) rfl rfl (Nat.le_of_ble_eq_true rfl) dX6_heard_16 (fun r_4 σ_3 h => ?_)
    refine r_if_ne hc 25 dX6_heard_19 (by decide) (fun q => ?_) (fun q => ?_)
    · have h := kif_t h q
      refine r_ldc hc lk_X6_67 dX6_heard_22 ?_
      exact r_iret (ls0 := []) hZ dX6_heard_24 h
    · have h := kif_f h q
      refine r_iload_n hc 3 dX6_heard_25 rfl ?_
      refine r_if_lt hc 42 dX6_heard_26 (by decide) (fun q => ?_) (fun q => ?_)
      · have h := kif_t h q
        refine r_ldc hc lk_X6_67 dX6_heard_42 ?_
        exact r_iret (ls0 := []) hZ dX6_heard_44 h
      · have h := kif_f h q
        refine r_iload_n hc 3 dX6_heard_29 rfl ?_
        refine r_aload_n hc 0 dX6_heard_30 rfl ?_
        refine gf_X6_2 hc lf_X6_30 dX6_heard_31 ?_
        refine gf_X3_0 hc kH_33 lf_X6_174 dX6_heard_34 ?_
        refine r_iload_n hc 2 dX6_heard_37 rfl ?_
        obtain ⟨hi_5, h⟩ := h
        refine r_iald hc kia_34 hi_5 dX6_heard_38 ?_
        refine r_ic_lt hc 45 dX6_heard_39 (by decide) (fun q => ?_) (fun q => ?_)
        · have h := kif_t h q
          refine r_aload_n hc 0 dX6_heard_45 rfl ?_
          refine gf_X6_2 hc lf_X6_30 dX6_heard_46 ?_
          refine r_aload_n hc 0 dX6_heard_49 rfl ?_
          refine gf_X6_2 hc lf_X6_30 dX6_heard_50 ?_
          refine r_iload_n hc 2 dX6_heard_53 rfl ?_
          refine r_iload_n hc 3 dX6_heard_54 rfl ?_
          refine r_callVi (d := 0) hc (m_X3_stringOf kH_33 h) cw_X3_stringOf wi_X3_stringOf ws_X3_stringOf lm_X6_177 (by decide) (by decide) (rv_X3 kH_33) rfl rfl (Nat.le_of_ble_eq_true rfl) dX6_heard_55 (fun r_7 σ_6 h => ?_)
          refine r_aload_n hc 0 dX6_heard_58 rfl ?_
          refine gf_X6_2 hc lf_X6_30 dX6_heard_59 ?_
          refine r_iload_n hc 1 dX6_heard_62 rfl ?_
          refine r_callVi (d := 2) hc (m_X3_biasOf kH_33 h) cw_X3_biasOf wi_X3_biasOf ws_X3_biasOf lm_X6_184 (by decide) (by decide) (rv_X3 kH_33) rfl rfl (Nat.le_of_ble_eq_true rfl) dX6_heard_63 (fun r_9 σ_8 h => ?_)
          refine r_callVi (d := 1) hc (m_X3_stringHeard kH_33 h) cw_X3_stringHeard wi_X3_stringHeard ws_X3_stringHeard lm_X6_196 (by decide) (by decide) (rv_X3 kH_33) rfl rfl (Nat.le_of_ble_eq_true rfl) dX6_heard_66 (fun r_11 σ_10 h => ?_)
          exact r_iret (ls0 := []) hZ dX6_heard_69 h
        · have h := kif_f h q
          refine r_ldc hc lk_X6_67 dX6_heard_42 ?_
          exact r_iret (ls0 := []) hZ dX6_heard_44 h
theorem m_X6_heard {l : Launch} {g : kG} {N : Nat} {σ : kS} {x1 : Int32} {x2 : Int32} {x3 : Int32} {Q : Int32 → kS → Prop} (h : w_X6_heard N σ x1 x2 x3 Q) : kMi l g yX6_heard cX6_heard 4 (some .int) 3 [kz g 0, .int x1, .int x2, .int x3] σ Q :=
  k_met_i (by decide +kernel) rfl (Nat.le_of_ble_eq_true rfl) (fun X hl hc hZ => s_X6_heard hc hZ h)
def w_X6_strike (N : Nat) (σ : kS) (x1 : Int32) (Q : Int32 → kS → Prop) : Prop :=
  w_X3_isTold N σ 33 (fun (r_2 : Int32) (σ_1 : kS) => if r_2 = 0 then (Q (-1000002) σ_1) else (if x1 < 0 then (Q (-1000001) σ_1) else (if x1 < (σ_1 33 5) then (w_X3_around N σ_1 33 (x1 + (σ_1 33 7)) (fun (r_4 : Int32) (σ_3 : kS) => Q r_4 σ_3)) else (Q (-1000001) σ_1))))
set_option maxHeartbeats 4000000 in
set_option maxRecDepth 100000 in
theorem s_X6_strike {X : kX} {g : kG} {N : Nat} {Q : Int32 → kS → Prop} (hc : kOk X g RX6 cX6_strike 2 (some .int) 1) (hZ : kRi X g cX6_strike Q) {σ : kS} {x1 : Int32} (h : w_X6_strike N σ x1 Q) : kP X g 2 0 [(0, kz g 0), (1, .int x1)] [] σ := by
  unfold w_X6_strike at h
  refine r_aload_n hc 0 dX6_strike_0 rfl ?_
  refine gf_X6_2 hc lf_X6_30 dX6_strike_1 ?_
  refine r_callVi (d := 0) hc (m_X3_isTold kH_33 h) cw_X3_isTold wi_X3_isTold ws_X3_isTold lm_X6_146 (by decide) (by decide) (rv_X3 kH_33) rfl rfl (Nat.le_of_ble_eq_true rfl) dX6_strike_4 (fun r_2 σ_1 h => ?_)
  refine r_if_ne hc 13 dX6_strike_7 (by decide) (fun q => ?_) (fun q => ?_)
  · have h := kif_t h q
    refine r_ldc hc lk_X6_142 dX6_strike_10 ?_
    exact r_iret (ls0 := []) hZ dX6_strike_12 h
  · have h := kif_f h q
    refine r_iload_n hc 1 dX6_strike_13 rfl ?_
    refine r_if_lt hc 28 dX6_strike_14 (by decide) (fun q => ?_) (fun q => ?_)
    · have h := kif_t h q
      refine r_ldc hc lk_X6_67 dX6_strike_28 ?_
      exact r_iret (ls0 := []) hZ dX6_strike_30 h
    · have h := kif_f h q
      refine r_iload_n hc 1 dX6_strike_17 rfl ?_
      refine r_aload_n hc 0 dX6_strike_18 rfl ?_
      refine gf_X6_2 hc lf_X6_30 dX6_strike_19 ?_
      refine gf_X3_5 hc kH_33 lf_X6_199 dX6_strike_22 ?_
      refine r_ic_lt hc 31 dX6_strike_25 (by decide) (fun q => ?_) (fun q => ?_)
      · have h := kif_t h q
        refine r_aload_n hc 0 dX6_strike_31 rfl ?_
        refine gf_X6_2 hc lf_X6_30 dX6_strike_32 ?_
        refine r_iload_n hc 1 dX6_strike_35 rfl ?_
        refine r_aload_n hc 0 dX6_strike_36 rfl ?_
        refine gf_X6_2 hc lf_X6_30 dX6_strike_37 ?_
        refine gf_X3_7 hc kH_33 lf_X6_152 dX6_strike_40 ?_
        refine r_iadd hc dX6_strike_43 ?_
        refine r_callVi (d := 0) hc (m_X3_around kH_33 h) cw_X3_around wi_X3_around ws_X3_around lm_X6_162 (by decide) (by decide) (rv_X3 kH_33) rfl rfl (Nat.le_of_ble_eq_true rfl) dX6_strike_44 (fun r_4 σ_3 h => ?_)
        exact r_iret (ls0 := []) hZ dX6_strike_47 h
      · have h := kif_f h q
        refine r_ldc hc lk_X6_67 dX6_strike_28 ?_
        exact r_iret (ls0 := []) hZ dX6_strike_30 h
theorem m_X6_strike {l : Launch} {g : kG} {N : Nat} {σ : kS} {x1 : Int32} {Q : Int32 → kS → Prop} (h : w_X6_strike N σ x1 Q) : kMi l g yX6_strike cX6_strike 2 (some .int) 1 [kz g 0, .int x1] σ Q :=
  k_met_i (by decide +kernel) rfl (Nat.le_of_ble_eq_true rfl) (fun X hl hc hZ => s_X6_strike hc hZ h)
def w_X6_soon (N : Nat) (σ : kS) (x1 : Int32) (Q : Int32 → kS → Prop) : Prop :=
  w_X3_hasPupil N σ 33 x1 (fun (r_2 : Int32) (σ_1 : kS) => if r_2 = 0 then (Q (-1000001) σ_1) else (w_X3_biasOf N σ_1 33 x1 (fun (r_4 : Int32) (σ_3 : kS) => w_X2_firstNightAt N σ_3 r_4 (fun (r_6 : Int32) (σ_5 : kS) => Q r_6 σ_5))))
set_option maxHeartbeats 4000000 in
set_option maxRecDepth 100000 in
theorem s_X6_soon {X : kX} {g : kG} {N : Nat} {Q : Int32 → kS → Prop} (hc : kOk X g RX6 cX6_soon 2 (some .int) 3) (hZ : kRi X g cX6_soon Q) {σ : kS} {x1 : Int32} (h : w_X6_soon N σ x1 Q) : kP X g 2 0 [(0, kz g 0), (1, .int x1)] [] σ := by
  unfold w_X6_soon at h
  refine r_aload_n hc 0 dX6_soon_0 rfl ?_
  refine gf_X6_2 hc lf_X6_30 dX6_soon_1 ?_
  refine r_iload_n hc 1 dX6_soon_4 rfl ?_
  refine r_callVi (d := 0) hc (m_X3_hasPupil kH_33 h) cw_X3_hasPupil wi_X3_hasPupil ws_X3_hasPupil lm_X6_165 (by decide) (by decide) (rv_X3 kH_33) rfl rfl (Nat.le_of_ble_eq_true rfl) dX6_soon_5 (fun r_2 σ_1 h => ?_)
  refine r_if_ne hc 14 dX6_soon_8 (by decide) (fun q => ?_) (fun q => ?_)
  · have h := kif_t h q
    refine r_ldc hc lk_X6_67 dX6_soon_11 ?_
    exact r_iret (ls0 := []) hZ dX6_soon_13 h
  · have h := kif_f h q
    refine r_aload_n hc 0 dX6_soon_14 rfl ?_
    refine gf_X6_6 hc lf_X6_49 dX6_soon_15 ?_
    refine r_aload_n hc 0 dX6_soon_18 rfl ?_
    refine gf_X6_2 hc lf_X6_30 dX6_soon_19 ?_
    refine r_iload_n hc 1 dX6_soon_22 rfl ?_
    refine r_callVi (d := 2) hc (m_X3_biasOf kH_33 h) cw_X3_biasOf wi_X3_biasOf ws_X3_biasOf lm_X6_184 (by decide) (by decide) (rv_X3 kH_33) rfl rfl (Nat.le_of_ble_eq_true rfl) dX6_soon_23 (fun r_4 σ_3 h => ?_)
    refine r_callVi (d := 2) hc (m_X2_firstNightAt h) cw_X2_firstNightAt wi_X2_firstNightAt ws_X2_firstNightAt lm_X6_202 (by decide) (by decide) rv_X2 rfl rfl (Nat.le_of_ble_eq_true rfl) dX6_soon_26 (fun r_6 σ_5 h => ?_)
    exact r_iret (ls0 := []) hZ dX6_soon_29 h
theorem m_X6_soon {l : Launch} {g : kG} {N : Nat} {σ : kS} {x1 : Int32} {Q : Int32 → kS → Prop} (h : w_X6_soon N σ x1 Q) : kMi l g yX6_soon cX6_soon 2 (some .int) 3 [kz g 0, .int x1] σ Q :=
  k_met_i (by decide +kernel) rfl (Nat.le_of_ble_eq_true rfl) (fun X hl hc hZ => s_X6_soon hc hZ h)
def w_X6_together (N : Nat) (σ : kS) (x1 : Int32) (x2 : Int32) (Q : Int32 → kS → Prop) : Prop :=
  w_X3_hasPupil N σ 33 x1 (fun (r_2 : Int32) (σ_1 : kS) => if r_2 = 0 then (Q (-1000001) σ_1) else (w_X3_hasPupil N σ_1 33 x2 (fun (r_4 : Int32) (σ_3 : kS) => if r_4 = 0 then (Q (-1000001) σ_3) else (if x1 = x2 then (Q (-1000001) σ_3) else (w_X3_biasOf N σ_3 33 x1 (fun (r_6 : Int32) (σ_5 : kS) => w_X3_biasOf N σ_5 33 x2 (fun (r_8 : Int32) (σ_7 : kS) => if r_6 = r_8 then (w_X3_biasOf N σ_7 33 x1 (fun (r_10 : Int32) (σ_9 : kS) => w_X2_firstNightAt N σ_9 r_10 (fun (r_12 : Int32) (σ_11 : kS) => Q r_12 σ_11))) else (Q (-1000000) σ_7))))))))
set_option maxHeartbeats 4000000 in
set_option maxRecDepth 100000 in
theorem s_X6_together {X : kX} {g : kG} {N : Nat} {Q : Int32 → kS → Prop} (hc : kOk X g RX6 cX6_together 3 (some .int) 3) (hZ : kRi X g cX6_together Q) {σ : kS} {x1 : Int32} {x2 : Int32} (h : w_X6_together N σ x1 x2 Q) : kP X g 3 0 [(0, kz g 0), (1, .int x1), (2, .int x2)] [] σ := by
  unfold w_X6_together at h
  refine r_aload_n hc 0 dX6_together_0 rfl ?_
  refine gf_X6_2 hc lf_X6_30 dX6_together_1 ?_
  refine r_iload_n hc 1 dX6_together_4 rfl ?_
  refine r_callVi (d := 0) hc (m_X3_hasPupil kH_33 h) cw_X3_hasPupil wi_X3_hasPupil ws_X3_hasPupil lm_X6_165 (by decide) (by decide) (rv_X3 kH_33) rfl rfl (Nat.le_of_ble_eq_true rfl) dX6_together_5 (fun r_2 σ_1 h => ?_)
  refine r_if_eq hc 27 dX6_together_8 (by decide) (fun q => ?_) (fun q => ?_)
  · have h := kif_t h q
    refine r_ldc hc lk_X6_67 dX6_together_27 ?_
    exact r_iret (ls0 := []) hZ dX6_together_29 h
  · have h := kif_f h q
    refine r_aload_n hc 0 dX6_together_11 rfl ?_
    refine gf_X6_2 hc lf_X6_30 dX6_together_12 ?_
    refine r_iload_n hc 2 dX6_together_15 rfl ?_
    refine r_callVi (d := 0) hc (m_X3_hasPupil kH_33 h) cw_X3_hasPupil wi_X3_hasPupil ws_X3_hasPupil lm_X6_165 (by decide) (by decide) (rv_X3 kH_33) rfl rfl (Nat.le_of_ble_eq_true rfl) dX6_together_16 (fun r_4 σ_3 h => ?_)
    refine r_if_eq hc 27 dX6_together_19 (by decide) (fun q => ?_) (fun q => ?_)
    · have h := kif_t h q
      refine r_ldc hc lk_X6_67 dX6_together_27 ?_
      exact r_iret (ls0 := []) hZ dX6_together_29 h
    · have h := kif_f h q
      refine r_iload_n hc 1 dX6_together_22 rfl ?_
      refine r_iload_n hc 2 dX6_together_23 rfl ?_
      refine r_ic_ne hc 30 dX6_together_24 (by decide) (fun q => ?_) (fun q => ?_)
      · have h := kif_t h q
        refine r_ldc hc lk_X6_67 dX6_together_27 ?_
        exact r_iret (ls0 := []) hZ dX6_together_29 h
      · have h := kif_f h q
        refine r_aload_n hc 0 dX6_together_30 rfl ?_
        refine gf_X6_2 hc lf_X6_30 dX6_together_31 ?_
        refine r_iload_n hc 1 dX6_together_34 rfl ?_
        refine r_callVi (d := 2) hc (m_X3_biasOf kH_33 h) cw_X3_biasOf wi_X3_biasOf ws_X3_biasOf lm_X6_184 (by decide) (by decide) (rv_X3 kH_33) rfl rfl (Nat.le_of_ble_eq_true rfl) dX6_together_35 (fun r_6 σ_5 h => ?_)
        refine r_aload_n hc 0 dX6_together_38 rfl ?_
        refine gf_X6_2 hc lf_X6_30 dX6_together_39 ?_
        refine r_iload_n hc 2 dX6_together_42 rfl ?_
        refine r_callVi (d := 2) hc (m_X3_biasOf kH_33 h) cw_X3_biasOf wi_X3_biasOf ws_X3_biasOf lm_X6_184 (by decide) (by decide) (rv_X3 kH_33) rfl rfl (Nat.le_of_ble_eq_true rfl) dX6_together_43 (fun r_8 σ_7 h => ?_)
        refine r_ic_eq hc 52 dX6_together_46 (by decide) (fun q => ?_) (fun q => ?_)
        · have h := kif_t h q
          refine r_aload_n hc 0 dX6_together_52 rfl ?_
          refine gf_X6_6 hc lf_X6_49 dX6_together_53 ?_
          refine r_aload_n hc 0 dX6_together_56 rfl ?_
          refine gf_X6_2 hc lf_X6_30 dX6_together_57 ?_
          refine r_iload_n hc 1 dX6_together_60 rfl ?_
          refine r_callVi (d := 2) hc (m_X3_biasOf kH_33 h) cw_X3_biasOf wi_X3_biasOf ws_X3_biasOf lm_X6_184 (by decide) (by decide) (rv_X3 kH_33) rfl rfl (Nat.le_of_ble_eq_true rfl) dX6_together_61 (fun r_10 σ_9 h => ?_)
          refine r_callVi (d := 2) hc (m_X2_firstNightAt h) cw_X2_firstNightAt wi_X2_firstNightAt ws_X2_firstNightAt lm_X6_202 (by decide) (by decide) rv_X2 rfl rfl (Nat.le_of_ble_eq_true rfl) dX6_together_64 (fun r_12 σ_11 h => ?_)
          exact r_iret (ls0 := []) hZ dX6_together_67 h
        · have h := kif_f h q
          refine r_ldc hc lk_X6_180 dX6_together_49 ?_
          exact r_iret (ls0 := []) hZ dX6_together_51 h
theorem m_X6_together {l : Launch} {g : kG} {N : Nat} {σ : kS} {x1 : Int32} {x2 : Int32} {Q : Int32 → kS → Prop} (h : w_X6_together N σ x1 x2 Q) : kMi l g yX6_together cX6_together 3 (some .int) 3 [kz g 0, .int x1, .int x2] σ Q :=
  k_met_i (by decide +kernel) rfl (Nat.le_of_ble_eq_true rfl) (fun X hl hc hZ => s_X6_together hc hZ h)
def w_X6_itself (N : Nat) (σ : kS) (Q : Int32 → kS → Prop) : Prop :=
  w_X3_isTold N σ 33 (fun (r_2 : Int32) (σ_1 : kS) => if r_2 = 0 then (Q (-1000002) σ_1) else (w_X2_firstNightAt N σ_1 0 (fun (r_4 : Int32) (σ_3 : kS) => Q r_4 σ_3)))
set_option maxHeartbeats 4000000 in
set_option maxRecDepth 100000 in
theorem s_X6_itself {X : kX} {g : kG} {N : Nat} {Q : Int32 → kS → Prop} (hc : kOk X g RX6 cX6_itself 1 (some .int) 3) (hZ : kRi X g cX6_itself Q) {σ : kS} (h : w_X6_itself N σ Q) : kP X g 1 0 [(0, kz g 0)] [] σ := by
  unfold w_X6_itself at h
  refine r_aload_n hc 0 dX6_itself_0 rfl ?_
  refine gf_X6_2 hc lf_X6_30 dX6_itself_1 ?_
  refine r_callVi (d := 0) hc (m_X3_isTold kH_33 h) cw_X3_isTold wi_X3_isTold ws_X3_isTold lm_X6_146 (by decide) (by decide) (rv_X3 kH_33) rfl rfl (Nat.le_of_ble_eq_true rfl) dX6_itself_4 (fun r_2 σ_1 h => ?_)
  refine r_if_eq hc 21 dX6_itself_7 (by decide) (fun q => ?_) (fun q => ?_)
  · have h := kif_t h q
    refine r_ldc hc lk_X6_142 dX6_itself_21 ?_
    exact r_iret (ls0 := []) hZ dX6_itself_23 h
  · have h := kif_f h q
    refine r_aload_n hc 0 dX6_itself_10 rfl ?_
    refine gf_X6_6 hc lf_X6_49 dX6_itself_11 ?_
    refine r_iconst (v := 0) hc dX6_itself_14 rfl ?_
    refine r_callVi (d := 2) hc (m_X2_firstNightAt h) cw_X2_firstNightAt wi_X2_firstNightAt ws_X2_firstNightAt lm_X6_202 (by decide) (by decide) rv_X2 rfl rfl (Nat.le_of_ble_eq_true rfl) dX6_itself_15 (fun r_4 σ_3 h => ?_)
    refine r_goto hc 23 dX6_itself_18 (by decide) ?_
    exact r_iret (ls0 := []) hZ dX6_itself_23 h
theorem m_X6_itself {l : Launch} {g : kG} {N : Nat} {σ : kS} {Q : Int32 → kS → Prop} (h : w_X6_itself N σ Q) : kMi l g yX6_itself cX6_itself 1 (some .int) 3 [kz g 0] σ Q :=
  k_met_i (by decide +kernel) rfl (Nat.le_of_ble_eq_true rfl) (fun X hl hc hZ => s_X6_itself hc hZ h)
def w_X6_nightsOf (N : Nat) (σ : kS) (x1 : Int32) (x2 : Int32) (Q : Int32 → kS → Prop) : Prop :=
  w_X3_hasPupil N σ 33 x1 (fun (r_2 : Int32) (σ_1 : kS) => if r_2 = 0 then (Q (-1000001) σ_1) else (if x2 < 1 then (Q (-1000001) σ_1) else (if x2 ≤ 24 then (w_X3_biasOf N σ_1 33 x1 (fun (r_4 : Int32) (σ_3 : kS) => w_X2_nightsAt N σ_3 r_4 x2 (fun (r_6 : Int32) (σ_5 : kS) => Q r_6 σ_5))) else (Q (-1000001) σ_1))))
set_option maxHeartbeats 4000000 in
set_option maxRecDepth 100000 in
theorem s_X6_nightsOf {X : kX} {g : kG} {N : Nat} {Q : Int32 → kS → Prop} (hc : kOk X g RX6 cX6_nightsOf 3 (some .int) 3) (hZ : kRi X g cX6_nightsOf Q) {σ : kS} {x1 : Int32} {x2 : Int32} (h : w_X6_nightsOf N σ x1 x2 Q) : kP X g 3 0 [(0, kz g 0), (1, .int x1), (2, .int x2)] [] σ := by
  unfold w_X6_nightsOf at h
  refine r_aload_n hc 0 dX6_nightsOf_0 rfl ?_
  refine gf_X6_2 hc lf_X6_30 dX6_nightsOf_1 ?_
  refine r_iload_n hc 1 dX6_nightsOf_4 rfl ?_
  refine r_callVi (d := 0) hc (m_X3_hasPupil kH_33 h) cw_X3_hasPupil wi_X3_hasPupil ws_X3_hasPupil lm_X6_165 (by decide) (by decide) (rv_X3 kH_33) rfl rfl (Nat.le_of_ble_eq_true rfl) dX6_nightsOf_5 (fun r_2 σ_1 h => ?_)
  refine r_if_eq hc 22 dX6_nightsOf_8 (by decide) (fun q => ?_) (fun q => ?_)
  · have h := kif_t h q
    refine r_ldc hc lk_X6_67 dX6_nightsOf_22 ?_
    exact r_iret (ls0 := []) hZ dX6_nightsOf_24 h
  · have h := kif_f h q
    refine r_iload_n hc 2 dX6_nightsOf_11 rfl ?_
    refine r_iconst (v := 1) hc dX6_nightsOf_12 rfl ?_
    refine r_ic_lt hc 22 dX6_nightsOf_13 (by decide) (fun q => ?_) (fun q => ?_)
    · have h := kif_t h q
      refine r_ldc hc lk_X6_67 dX6_nightsOf_22 ?_
      exact r_iret (ls0 := []) hZ dX6_nightsOf_24 h
    · have h := kif_f h q
      refine r_iload_n hc 2 dX6_nightsOf_16 rfl ?_
      refine r_bipush (v := 24) hc dX6_nightsOf_17 rfl ?_
      refine r_ic_le hc 25 dX6_nightsOf_19 (by decide) (fun q => ?_) (fun q => ?_)
      · have h := kif_t h q
        refine r_aload_n hc 0 dX6_nightsOf_25 rfl ?_
        refine gf_X6_6 hc lf_X6_49 dX6_nightsOf_26 ?_
        refine r_aload_n hc 0 dX6_nightsOf_29 rfl ?_
        refine gf_X6_2 hc lf_X6_30 dX6_nightsOf_30 ?_
        refine r_iload_n hc 1 dX6_nightsOf_33 rfl ?_
        refine r_callVi (d := 2) hc (m_X3_biasOf kH_33 h) cw_X3_biasOf wi_X3_biasOf ws_X3_biasOf lm_X6_184 (by decide) (by decide) (rv_X3 kH_33) rfl rfl (Nat.le_of_ble_eq_true rfl) dX6_nightsOf_34 (fun r_4 σ_3 h => ?_)
        refine r_iload_n hc 2 dX6_nightsOf_37 rfl ?_
        refine r_callVi (d := 2) hc (m_X2_nightsAt h) cw_X2_nightsAt wi_X2_nightsAt ws_X2_nightsAt lm_X6_205 (by decide) (by decide) rv_X2 rfl rfl (Nat.le_of_ble_eq_true rfl) dX6_nightsOf_38 (fun r_6 σ_5 h => ?_)
        exact r_iret (ls0 := []) hZ dX6_nightsOf_41 h
      · have h := kif_f h q
        refine r_ldc hc lk_X6_67 dX6_nightsOf_22 ?_
        exact r_iret (ls0 := []) hZ dX6_nightsOf_24 h
theorem m_X6_nightsOf {l : Launch} {g : kG} {N : Nat} {σ : kS} {x1 : Int32} {x2 : Int32} {Q : Int32 → kS → Prop} (h : w_X6_nightsOf N σ x1 x2 Q) : kMi l g yX6_nightsOf cX6_nightsOf 3 (some .int) 3 [kz g 0, .int x1, .int x2] σ Q :=
  k_met_i (by decide +kernel) rfl (Nat.le_of_ble_eq_true rfl) (fun X hl hc hZ => s_X6_nightsOf hc hZ h)
