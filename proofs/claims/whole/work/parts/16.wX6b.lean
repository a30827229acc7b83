def w_X6_struck (N : Nat) (σ : kS) (x1 : Int32) (x2 : Int32) (x3 : Int32) (x4 : Int32) (Q : Int32 → kS → Prop) : Prop :=
  w_X3_isTold N σ 33 (fun (r_2 : Int32) (σ_1 : kS) => if r_2 = 0 then (Q (-1000002) σ_1) else (w_X6_isRow N σ_1 x1 (fun (r_4 : Int32) (σ_3 : kS) => if r_4 = 0 then (Q (-1000001) σ_3) else (if x3 < 1 then (Q (-1000001) σ_3) else (if 12 < x3 then (Q (-1000001) σ_3) else (if x4 < 0 then (Q (-1000001) σ_3) else (if x4 ≤ 1 then (vp_in x1 8 ∧ (w_X4_isMissing N σ_3 (2 + 2 * x1.toNatClampNeg) (fun (r_7 : Int32) (σ_6 : kS) => if r_7 = 0 then (vp_in x1 8 ∧ (w_X4_hasPlaces N σ_6 (2 + 2 * x1.toNatClampNeg) x2 (2 * x3) (fun (r_10 : Int32) (σ_9 : kS) => if r_10 = 0 then (w_X6_found N σ_9 2 (fun (r_12 : Int32) (σ_11 : kS) => Q r_12 σ_11)) else (vp_in x1 8 ∧ (w_X2_shiftsBy N σ_9 (2 + 2 * x1.toNatClampNeg + 1) x2 x3 x4 (fun (r_15 : Int32) (σ_14 : kS) => w_X6_fine N σ_14 r_15 (fun (r_17 : Int32) (σ_16 : kS) => Q r_17 σ_16))))))) else (w_X6_found N σ_6 1 (fun (r_19 : Int32) (σ_18 : kS) => Q r_19 σ_18))))) else (Q (-1000001) σ_3))))))))
set_option maxHeartbeats 4000000 in
set_option maxRecDepth 100000 in
theorem s_X6_struck {X : kX} {g : kG} {N : Nat} {Q : Int32 → kS → Prop} (hc : kOk X g RX6 cX6_struck 5 (some .int) 3) (hZ : kRi X g cX6_struck Q) {σ : kS} {x1 : Int32} {x2 : Int32} {x3 : Int32} {x4 : Int32} (h : w_X6_struck N σ x1 x2 x3 x4 Q) : kP X g 5 0 [(0, kz g 0), (1, .int x1), (2, .int x2), (3, .int x3), (4, .int x4)] [] σ := by
  unfold w_X6_struck at h
  refine r_aload_n hc 0 dX6_struck_0 rfl ?_
  refine gf_X6_2 hc lf_X6_30 dX6_struck_1 ?_
  refine r_callVi (d := 0) hc (m_X3_isTold kH_33 h) cw_X3_isTold wi_X3_isTold ws_X3_isTold lm_X6_146 (by decide) (by decide) (rv_X3 kH_33) rfl rfl (Nat.le_of_ble_eq_true rfl) dX6_struck_4 (fun r_2 σ_1 h => ?_)
  refine r_if_ne hc 13 dX6_struck_7 (by decide) (fun q => ?_) (fun q => ?_)
  · have h := kif_t h q
    refine r_ldc hc lk_X6_142 dX6_struck_10 ?_
    exact r_iret (ls0 := []) hZ dX6_struck_12 h
  · have h := kif_f h q
    refine r_iload_n hc 1 dX6_struck_13 rfl ?_
    refine r_callSi (d := 0) hc (m_X6_isRow h) cw_X6_isRow wt_X6_isRow lm_X6_60 (by decide) (by decide) rfl rfl (Nat.le_of_ble_eq_true rfl) dX6_struck_14 (fun r_4 σ_3 h => ?_)
    refine r_if_eq hc 42 dX6_struck_17 (by decide) (fun q => ?_) (fun q => ?_)
    · have h := kif_t h q
      refine r_ldc hc lk_X6_67 dX6_struck_42 ?_
      exact r_iret (ls0 := []) hZ dX6_struck_44 h
    · have h := kif_f h q
      refine r_iload_n hc 3 dX6_struck_20 rfl ?_
      refine r_iconst (v := 1) hc dX6_struck_21 rfl ?_
      refine r_ic_lt hc 42 dX6_struck_22 (by decide) (fun q => ?_) (fun q => ?_)
      · have h := kif_t h q
        refine r_ldc hc lk_X6_67 dX6_struck_42 ?_
        exact r_iret (ls0 := []) hZ dX6_struck_44 h
      · have h := kif_f h q
        refine r_iload_n hc 3 dX6_struck_25 rfl ?_
        refine r_bipush (v := 12) hc dX6_struck_26 rfl ?_
        refine r_ic_gt hc 42 dX6_struck_28 (by decide) (fun q => ?_) (fun q => ?_)
        · have h := kif_t h q
          refine r_ldc hc lk_X6_67 dX6_struck_42 ?_
          exact r_iret (ls0 := []) hZ dX6_struck_44 h
        · have h := kif_f h q
          refine r_iload hc 4 dX6_struck_31 rfl ?_
          refine r_if_lt hc 42 dX6_struck_33 (by decide) (fun q => ?_) (fun q => ?_)
          · have h := kif_t h q
            refine r_ldc hc lk_X6_67 dX6_struck_42 ?_
            exact r_iret (ls0 := []) hZ dX6_struck_44 h
          · have h := kif_f h q
            refine r_iload hc 4 dX6_struck_36 rfl ?_
            refine r_iconst (v := 1) hc dX6_struck_38 rfl ?_
            refine r_ic_le hc 45 dX6_struck_39 (by decide) (fun q => ?_) (fun q => ?_)
            · have h := kif_t h q
              refine r_aload_n hc 0 dX6_struck_45 rfl ?_
              refine gf_X6_0 hc lf_X6_11 dX6_struck_46 ?_
              refine r_iload_n hc 1 dX6_struck_49 rfl ?_
              obtain ⟨hi_5, h⟩ := h
              refine r_rows hc hi_5 dX6_struck_50 ?_
              refine r_callVi (d := 0) hc (m_X4_isMissing (kRow_at hi_5) h) cw_X4_isMissing wi_X4_isMissing ws_X4_isMissing lm_X6_79 (by decide) (by decide) (rv_X4 (kRow_at hi_5)) rfl rfl (Nat.le_of_ble_eq_true rfl) dX6_struck_51 (fun r_7 σ_6 h => ?_)
              refine r_if_eq hc 63 dX6_struck_54 (by decide) (fun q => ?_) (fun q => ?_)
              · have h := kif_t h q
                refine r_aload_n hc 0 dX6_struck_63 rfl ?_
                refine gf_X6_0 hc lf_X6_11 dX6_struck_64 ?_
                refine r_iload_n hc 1 dX6_struck_67 rfl ?_
                obtain ⟨hi_8, h⟩ := h
                refine r_rows hc hi_8 dX6_struck_68 ?_
                refine r_iload_n hc 2 dX6_struck_69 rfl ?_
                refine r_iconst (v := 2) hc dX6_struck_70 rfl ?_
                refine r_iload_n hc 3 dX6_struck_71 rfl ?_
                refine r_imul hc dX6_struck_72 ?_
                refine r_callVi (d := 0) hc (m_X4_hasPlaces (kRow_at hi_8) h) cw_X4_hasPlaces wi_X4_hasPlaces ws_X4_hasPlaces lm_X6_83 (by decide) (by decide) (rv_X4 (kRow_at hi_8)) rfl rfl (Nat.le_of_ble_eq_true rfl) dX6_struck_73 (fun r_10 σ_9 h => ?_)
                refine r_if_ne hc 85 dX6_struck_76 (by decide) (fun q => ?_) (fun q => ?_)
                · have h := kif_t h q
                  refine r_aload_n hc 0 dX6_struck_79 rfl ?_
                  refine r_iconst (v := 2) hc dX6_struck_80 rfl ?_
                  refine r_callVi (d := 0) hc (m_X6_found h) cw_X6_found wi_X6_found ws_X6_found lm_X6_68 (by decide) (by decide) rv_X6 rfl rfl (Nat.le_of_ble_eq_true rfl) dX6_struck_81 (fun r_12 σ_11 h => ?_)
                  exact r_iret (ls0 := []) hZ dX6_struck_84 h
                · have h := kif_f h q
                  refine r_aload_n hc 0 dX6_struck_85 rfl ?_
                  refine r_aload_n hc 0 dX6_struck_86 rfl ?_
                  refine gf_X6_6 hc lf_X6_49 dX6_struck_87 ?_
                  refine r_aload_n hc 0 dX6_struck_90 rfl ?_
                  refine gf_X6_0 hc lf_X6_11 dX6_struck_91 ?_
                  refine r_iload_n hc 1 dX6_struck_94 rfl ?_
                  obtain ⟨hi_13, h⟩ := h
                  refine r_rows hc hi_13 dX6_struck_95 ?_
                  refine gf_X4_0 hc (kRow_at hi_13) lf_X6_95 dX6_struck_96 ?_
                  refine r_iload_n hc 2 dX6_struck_99 rfl ?_
                  refine r_iload_n hc 3 dX6_struck_100 rfl ?_
                  refine r_iload hc 4 dX6_struck_101 rfl ?_
                  refine r_callVi (d := 2) hc (m_X2_shiftsBy (kia_Row (kRow_at hi_13)) h) cw_X2_shiftsBy wi_X2_shiftsBy ws_X2_shiftsBy lm_X6_208 (by decide) (by decide) rv_X2 rfl rfl (Nat.le_of_ble_eq_true rfl) dX6_struck_103 (fun r_15 σ_14 h => ?_)
                  refine r_callVi (d := 0) hc (m_X6_fine h) cw_X6_fine wi_X6_fine ws_X6_fine lm_X6_76 (by decide) (by decide) rv_X6 rfl rfl (Nat.le_of_ble_eq_true rfl) dX6_struck_106 (fun r_17 σ_16 h => ?_)
                  exact r_iret (ls0 := []) hZ dX6_struck_109 h
              · have h := kif_f h q
                refine r_aload_n hc 0 dX6_struck_57 rfl ?_
                refine r_iconst (v := 1) hc dX6_struck_58 rfl ?_
                refine r_callVi (d := 0) hc (m_X6_found h) cw_X6_found wi_X6_found ws_X6_found lm_X6_68 (by decide) (by decide) rv_X6 rfl rfl (Nat.le_of_ble_eq_true rfl) dX6_struck_59 (fun r_19 σ_18 h => ?_)
                exact r_iret (ls0 := []) hZ dX6_struck_62 h
            · have h := kif_f h q
              refine r_ldc hc lk_X6_67 dX6_struck_42 ?_
              exact r_iret (ls0 := []) hZ dX6_struck_44 h
theorem m_X6_struck {l : Launch} {g : kG} {N : Nat} {σ : kS} {x1 : Int32} {x2 : Int32} {x3 : Int32} {x4 : Int32} {Q : Int32 → kS → Prop} (h : w_X6_struck N σ x1 x2 x3 x4 Q) : kMi l g yX6_struck cX6_struck 5 (some .int) 3 [kz g 0, .int x1, .int x2, .int x3, .int x4] σ Q :=
  k_met_i (by decide +kernel) rfl (Nat.le_of_ble_eq_true rfl) (fun X hl hc hZ => s_X6_struck hc hZ h)
def w_X6_lessons (N : Nat) (σ : kS) (x1 : Int32) (x2 : Int32) (Q : Int32 → kS → Prop) : Prop :=
  w_X3_isTold N σ 33 (fun (r_2 : Int32) (σ_1 : kS) => if r_2 = 0 then (Q (-1000002) σ_1) else (if x1 < 0 then (Q (-1000001) σ_1) else (if 16777215 < x1 then (Q (-1000001) σ_1) else (if x2 < 0 then (Q (-1000001) σ_1) else (if x2 ≤ 1 then (w_X2_fewestTaught N σ_1 x1 (fun (r_4 : Int32) (σ_3 : kS) => if r_4 = (-1000000) then (Q (-1000000) σ_3) else (if x2 = 0 then (w_J6_bitCount_0f7a4 N σ_3 r_4 (fun (r_6 : Int32) (σ_5 : kS) => Q r_6 σ_5)) else (Q r_4 σ_3)))) else (Q (-1000001) σ_1))))))
set_option maxHeartbeats 4000000 in
set_option maxRecDepth 100000 in
theorem s_X6_lessons {X : kX} {g : kG} {N : Nat} {Q : Int32 → kS → Prop} (hc : kOk X g RX6 cX6_lessons 4 (some .int) 4) (hZ : kRi X g cX6_lessons Q) {σ : kS} {x1 : Int32} {x2 : Int32} (h : w_X6_lessons N σ x1 x2 Q) : kP X g 4 0 [(0, kz g 0), (1, .int x1), (2, .int x2)] [] σ := by
  unfold w_X6_lessons at h
  refine r_aload_n hc 0 dX6_lessons_0 rfl ?_
  refine gf_X6_2 hc lf_X6_30 dX6_lessons_1 ?_
  refine r_callVi (d := 0) hc (m_X3_isTold kH_33 h) cw_X3_isTold wi_X3_isTold ws_X3_isTold lm_X6_146 (by decide) (by decide) (rv_X3 kH_33) rfl rfl (Nat.le_of_ble_eq_true rfl) dX6_lessons_4 (fun r_2 σ_1 h => ?_)
  refine r_if_ne hc 13 dX6_lessons_7 (by decide) (fun q => ?_) (fun q => ?_)
  · have h := kif_t h q
    refine r_ldc hc lk_X6_142 dX6_lessons_10 ?_
    exact r_iret (ls0 := []) hZ dX6_lessons_12 h
  · have h := kif_f h q
    refine r_iload_n hc 1 dX6_lessons_13 rfl ?_
    refine r_if_lt hc 32 dX6_lessons_14 (by decide) (fun q => ?_) (fun q => ?_)
    · have h := kif_t h q
      refine r_ldc hc lk_X6_67 dX6_lessons_32 ?_
      exact r_iret (ls0 := []) hZ dX6_lessons_34 h
    · have h := kif_f h q
      refine r_iload_n hc 1 dX6_lessons_17 rfl ?_
      refine r_ldc hc lk_X6_212 dX6_lessons_18 ?_
      refine r_ic_gt hc 32 dX6_lessons_20 (by decide) (fun q => ?_) (fun q => ?_)
      · have h := kif_t h q
        refine r_ldc hc lk_X6_67 dX6_lessons_32 ?_
        exact r_iret (ls0 := []) hZ dX6_lessons_34 h
      · have h := kif_f h q
        refine r_iload_n hc 2 dX6_lessons_23 rfl ?_
        refine r_if_lt hc 32 dX6_lessons_24 (by decide) (fun q => ?_) (fun q => ?_)
        · have h := kif_t h q
          refine r_ldc hc lk_X6_67 dX6_lessons_32 ?_
          exact r_iret (ls0 := []) hZ dX6_lessons_34 h
        · have h := kif_f h q
          refine r_iload_n hc 2 dX6_lessons_27 rfl ?_
          refine r_iconst (v := 1) hc dX6_lessons_28 rfl ?_
          refine r_ic_le hc 35 dX6_lessons_29 (by decide) (fun q => ?_) (fun q => ?_)
          · have h := kif_t h q
            refine r_aload_n hc 0 dX6_lessons_35 rfl ?_
            refine gf_X6_6 hc lf_X6_49 dX6_lessons_36 ?_
            refine r_iload_n hc 1 dX6_lessons_39 rfl ?_
            refine r_callVi (d := 3) hc (m_X2_fewestTaught h) cw_X2_fewestTaught wi_X2_fewestTaught ws_X2_fewestTaught lm_X6_213 (by decide) (by decide) rv_X2 rfl rfl (Nat.le_of_ble_eq_true rfl) dX6_lessons_40 (fun r_4 σ_3 h => ?_)
            refine r_istore_n hc [(3, .int r_4), (0, kz g 0), (1, .int x1), (2, .int x2)] dX6_lessons_43 (by decide) rfl ?_
            refine r_iload_n hc 0 dX6_lessons_44 rfl ?_
            refine r_ldc hc lk_X6_180 dX6_lessons_45 ?_
            refine r_ic_ne hc 53 dX6_lessons_47 (by decide) (fun q => ?_) (fun q => ?_)
            · have h := kif_t h q
              refine r_ldc hc lk_X6_180 dX6_lessons_50 ?_
              exact r_iret (ls0 := []) hZ dX6_lessons_52 h
            · have h := kif_f h q
              refine r_iload_n hc 3 dX6_lessons_53 rfl ?_
              refine r_if_ne hc 64 dX6_lessons_54 (by decide) (fun q => ?_) (fun q => ?_)
              · have h := kif_t h q
                refine r_iload_n hc 0 dX6_lessons_57 rfl ?_
                refine r_callSi (d := 0) hc (m_J6_bitCount_0f7a4 h) cw_J6_bitCount_0f7a4 wt_J6_bitCount_0f7a4 lm_X6_216 (by decide) (by decide) rfl rfl (Nat.le_of_ble_eq_true rfl) dX6_lessons_58 (fun r_6 σ_5 h => ?_)
                refine r_goto hc 65 dX6_lessons_61 (by decide) ?_
                exact r_iret (ls0 := []) hZ dX6_lessons_65 h
              · have h := kif_f h q
                refine r_iload_n hc 0 dX6_lessons_64 rfl ?_
                exact r_iret (ls0 := []) hZ dX6_lessons_65 h
          · have h := kif_f h q
            refine r_ldc hc lk_X6_67 dX6_lessons_32 ?_
            exact r_iret (ls0 := []) hZ dX6_lessons_34 h
theorem m_X6_lessons {l : Launch} {g : kG} {N : Nat} {σ : kS} {x1 : Int32} {x2 : Int32} {Q : Int32 → kS → Prop} (h : w_X6_lessons N σ x1 x2 Q) : kMi l g yX6_lessons cX6_lessons 4 (some .int) 4 [kz g 0, .int x1, .int x2] σ Q :=
  k_met_i (by decide +kernel) rfl (Nat.le_of_ble_eq_true rfl) (fun X hl hc hZ => s_X6_lessons hc hZ h)
def w_X6_programme (N : Nat) (σ : kS) (x1 : Int32) (x2 : Int32) (Q : Int32 → kS → Prop) : Prop :=
  w_X3_isTold N σ 33 (fun (r_2 : Int32) (σ_1 : kS) => if r_2 = 0 then (Q (-1000002) σ_1) else (if x1 < 1 then (Q (-1000001) σ_1) else (if 6 < x1 then (Q (-1000001) σ_1) else (if x2 < (-1) then (Q (-1000001) σ_1) else (if x2 < 4 then (if x2 = (-1) then (w_X2_programmes N σ_1 x1 (fun (r_4 : Int32) (σ_3 : kS) => Q r_4 σ_3)) else (w_X2_nightOfPiece N σ_1 x1 x2 (fun (r_6 : Int32) (σ_5 : kS) => Q r_6 σ_5))) else (Q (-1000001) σ_1))))))
set_option maxHeartbeats 4000000 in
set_option maxRecDepth 100000 in
theorem s_X6_programme {X : kX} {g : kG} {N : Nat} {Q : Int32 → kS → Prop} (hc : kOk X g RX6 cX6_programme 3 (some .int) 9) (hZ : kRi X g cX6_programme Q) {σ : kS} {x1 : Int32} {x2 : Int32} (h : w_X6_programme N σ x1 x2 Q) : kP X g 3 0 [(0, kz g 0), (1, .int x1), (2, .int x2)] [] σ := by
  unfold w_X6_programme at h
  refine r_aload_n hc 0 dX6_programme_0 rfl ?_
  refine gf_X6_2 hc lf_X6_30 dX6_programme_1 ?_
  refine r_callVi (d := 0) hc (m_X3_isTold kH_33 h) cw_X3_isTold wi_X3_isTold ws_X3_isTold lm_X6_146 (by decide) (by decide) (rv_X3 kH_33) rfl rfl (Nat.le_of_ble_eq_true rfl) dX6_programme_4 (fun r_2 σ_1 h => ?_)
  refine r_if_ne hc 13 dX6_programme_7 (by decide) (fun q => ?_) (fun q => ?_)
  · have h := kif_t h q
    refine r_ldc hc lk_X6_142 dX6_programme_10 ?_
    exact r_iret (ls0 := []) hZ dX6_programme_12 h
  · have h := kif_f h q
    refine r_iload_n hc 1 dX6_programme_13 rfl ?_
    refine r_iconst (v := 1) hc dX6_programme_14 rfl ?_
    refine r_ic_lt hc 34 dX6_programme_15 (by decide) (fun q => ?_) (fun q => ?_)
    · have h := kif_t h q
      refine r_ldc hc lk_X6_67 dX6_programme_34 ?_
      exact r_iret (ls0 := []) hZ dX6_programme_36 h
    · have h := kif_f h q
      refine r_iload_n hc 1 dX6_programme_18 rfl ?_
      refine r_bipush (v := 6) hc dX6_programme_19 rfl ?_
      refine r_ic_gt hc 34 dX6_programme_21 (by decide) (fun q => ?_) (fun q => ?_)
      · have h := kif_t h q
        refine r_ldc hc lk_X6_67 dX6_programme_34 ?_
        exact r_iret (ls0 := []) hZ dX6_programme_36 h
      · have h := kif_f h q
        refine r_iload_n hc 2 dX6_programme_24 rfl ?_
        refine r_iconst (v := (-1)) hc dX6_programme_25 rfl ?_
        refine r_ic_lt hc 34 dX6_programme_26 (by decide) (fun q => ?_) (fun q => ?_)
        · have h := kif_t h q
          refine r_ldc hc lk_X6_67 dX6_programme_34 ?_
          exact r_iret (ls0 := []) hZ dX6_programme_36 h
        · have h := kif_f h q
          refine r_iload_n hc 2 dX6_programme_29 rfl ?_
          refine r_iconst (v := 4) hc dX6_programme_30 rfl ?_
          refine r_ic_lt hc 37 dX6_programme_31 (by decide) (fun q => ?_) (fun q => ?_)
          · have h := kif_t h q
            refine r_iload_n hc 2 dX6_programme_37 rfl ?_
            refine r_iconst (v := (-1)) hc dX6_programme_38 rfl ?_
            refine r_ic_ne hc 53 dX6_programme_39 (by decide) (fun q => ?_) (fun q => ?_)
            · have h := kif_t h q
              refine r_aload_n hc 0 dX6_programme_42 rfl ?_
              refine gf_X6_6 hc lf_X6_49 dX6_programme_43 ?_
              refine r_iload_n hc 1 dX6_programme_46 rfl ?_
              refine r_callVi (d := 7) hc (m_X2_programmes h) cw_X2_programmes wi_X2_programmes ws_X2_programmes lm_X6_221 (by decide) (by decide) rv_X2 rfl rfl (Nat.le_of_ble_eq_true rfl) dX6_programme_47 (fun r_4 σ_3 h => ?_)
              refine r_goto hc 62 dX6_programme_50 (by decide) ?_
              exact r_iret (ls0 := []) hZ dX6_programme_62 h
            · have h := kif_f h q
              refine r_aload_n hc 0 dX6_programme_53 rfl ?_
              refine gf_X6_6 hc lf_X6_49 dX6_programme_54 ?_
              refine r_iload_n hc 1 dX6_programme_57 rfl ?_
              refine r_iload_n hc 2 dX6_programme_58 rfl ?_
              refine r_callVi (d := 8) hc (m_X2_nightOfPiece h) cw_X2_nightOfPiece wi_X2_nightOfPiece ws_X2_nightOfPiece lm_X6_224 (by decide) (by decide) rv_X2 rfl rfl (Nat.le_of_ble_eq_true rfl) dX6_programme_59 (fun r_6 σ_5 h => ?_)
              exact r_iret (ls0 := []) hZ dX6_programme_62 h
          · have h := kif_f h q
            refine r_ldc hc lk_X6_67 dX6_programme_34 ?_
            exact r_iret (ls0 := []) hZ dX6_programme_36 h
theorem m_X6_programme {l : Launch} {g : kG} {N : Nat} {σ : kS} {x1 : Int32} {x2 : Int32} {Q : Int32 → kS → Prop} (h : w_X6_programme N σ x1 x2 Q) : kMi l g yX6_programme cX6_programme 3 (some .int) 9 [kz g 0, .int x1, .int x2] σ Q :=
  k_met_i (by decide +kernel) rfl (Nat.le_of_ble_eq_true rfl) (fun X hl hc hZ => s_X6_programme hc hZ h)
def w_X6_chords (N : Nat) (σ : kS) (x1 : Int32) (Q : Int32 → kS → Prop) : Prop :=
  w_X3_isTold N σ 33 (fun (r_2 : Int32) (σ_1 : kS) => if r_2 = 0 then (Q (-1000002) σ_1) else (if (-1) ≤ x1 then (w_X2_chordCount N σ_1 (fun (r_4 : Int32) (σ_3 : kS) => if x1 = (-1) then (Q r_4 σ_3) else (if r_4 ≤ x1 then (Q (-1000000) σ_3) else (w_X2_chordNumber N σ_3 x1 (fun (r_6 : Int32) (σ_5 : kS) => Q r_6 σ_5))))) else (Q (-1000001) σ_1)))
set_option maxHeartbeats 4000000 in
set_option maxRecDepth 100000 in
theorem s_X6_chords {X : kX} {g : kG} {N : Nat} {Q : Int32 → kS → Prop} (hc : kOk X g RX6 cX6_chords 3 (some .int) 3) (hZ : kRi X g cX6_chords Q) {σ : kS} {x1 : Int32} (h : w_X6_chords N σ x1 Q) : kP X g 3 0 [(0, kz g 0), (1, .int x1)] [] σ := by
  unfold w_X6_chords at h
  refine r_aload_n hc 0 dX6_chords_0 rfl ?_
  refine gf_X6_2 hc lf_X6_30 dX6_chords_1 ?_
  refine r_callVi (d := 0) hc (m_X3_isTold kH_33 h) cw_X3_isTold wi_X3_isTold ws_X3_isTold lm_X6_146 (by decide) (by decide) (rv_X3 kH_33) rfl rfl (Nat.le_of_ble_eq_true rfl) dX6_chords_4 (fun r_2 σ_1 h => ?_)
  refine r_if_ne hc 13 dX6_chords_7 (by decide) (fun q => ?_) (fun q => ?_)
  · have h := kif_t h q
    refine r_ldc hc lk_X6_142 dX6_chords_10 ?_
    exact r_iret (ls0 := []) hZ dX6_chords_12 h
  · have h := kif_f h q
    refine r_iload_n hc 1 dX6_chords_13 rfl ?_
    refine r_iconst (v := (-1)) hc dX6_chords_14 rfl ?_
    refine r_ic_ge hc 21 dX6_chords_15 (by decide) (fun q => ?_) (fun q => ?_)
    · have h := kif_t h q
      refine r_aload_n hc 0 dX6_chords_21 rfl ?_
      refine gf_X6_6 hc lf_X6_49 dX6_chords_22 ?_
      refine r_callVi (d := 2) hc (m_X2_chordCount h) cw_X2_chordCount wi_X2_chordCount ws_X2_chordCount lm_X6_227 (by decide) (by decide) rv_X2 rfl rfl (Nat.le_of_ble_eq_true rfl) dX6_chords_25 (fun r_4 σ_3 h => ?_)
      refine r_istore_n hc [(2, .int r_4), (0, kz g 0), (1, .int x1)] dX6_chords_28 (by decide) rfl ?_
      refine r_iload_n hc 2 dX6_chords_29 rfl ?_
      refine r_iconst (v := (-1)) hc dX6_chords_30 rfl ?_
      refine r_ic_ne hc 36 dX6_chords_31 (by decide) (fun q => ?_) (fun q => ?_)
      · have h := kif_t h q
        refine r_iload_n hc 0 dX6_chords_34 rfl ?_
        exact r_iret (ls0 := []) hZ dX6_chords_35 h
      · have h := kif_f h q
        refine r_iload_n hc 2 dX6_chords_36 rfl ?_
        refine r_iload_n hc 0 dX6_chords_37 rfl ?_
        refine r_ic_ge hc 52 dX6_chords_38 (by decide) (fun q => ?_) (fun q => ?_)
        · have h := kif_t h q
          refine r_ldc hc lk_X6_180 dX6_chords_52 ?_
          exact r_iret (ls0 := []) hZ dX6_chords_54 h
        · have h := kif_f h q
          refine r_aload_n hc 1 dX6_chords_41 rfl ?_
          refine gf_X6_6 hc lf_X6_49 dX6_chords_42 ?_
          refine r_iload_n hc 2 dX6_chords_45 rfl ?_
          refine r_callVi (d := 2) hc (m_X2_chordNumber h) cw_X2_chordNumber wi_X2_chordNumber ws_X2_chordNumber lm_X6_231 (by decide) (by decide) rv_X2 rfl rfl (Nat.le_of_ble_eq_true rfl) dX6_chords_46 (fun r_6 σ_5 h => ?_)
          refine r_goto hc 54 dX6_chords_49 (by decide) ?_
          exact r_iret (ls0 := []) hZ dX6_chords_54 h
    · have h := kif_f h q
      refine r_ldc hc lk_X6_67 dX6_chords_18 ?_
      exact r_iret (ls0 := []) hZ dX6_chords_20 h
theorem m_X6_chords {l : Launch} {g : kG} {N : Nat} {σ : kS} {x1 : Int32} {Q : Int32 → kS → Prop} (h : w_X6_chords N σ x1 Q) : kMi l g yX6_chords cX6_chords 3 (some .int) 3 [kz g 0, .int x1] σ Q :=
  k_met_i (by decide +kernel) rfl (Nat.le_of_ble_eq_true rfl) (fun X hl hc hZ => s_X6_chords hc hZ h)
def w_X6_who (N : Nat) (σ : kS) (x1 : Int32) (x2 : Int32) (x3 : Int32) (x4 : Int32) (Q : Int32 → kS → Prop) : Prop :=
  w_X3_hasPupil N σ 33 x1 (fun (r_2 : Int32) (σ_1 : kS) => if r_2 = 0 then (Q (-1000001) σ_1) else (w_X3_hasPiece N σ_1 33 x2 (fun (r_4 : Int32) (σ_3 : kS) => if r_4 = 0 then (Q (-1000001) σ_3) else (w_X6_isRow N σ_3 x3 (fun (r_6 : Int32) (σ_5 : kS) => if r_6 = 0 then (Q (-1000001) σ_5) else (vp_in x3 8 ∧ (w_X4_isMissing N σ_5 (2 + 2 * x3.toNatClampNeg) (fun (r_9 : Int32) (σ_8 : kS) => if r_9 = 0 then (vp_in x3 8 ∧ (vp_in x2 4 ∧ (w_X4_hasPlaces N σ_8 (2 + 2 * x3.toNatClampNeg) x4 (σ_8 34 x2.toNatClampNeg) (fun (r_13 : Int32) (σ_12 : kS) => if r_13 = 0 then (w_X6_found N σ_12 2 (fun (r_15 : Int32) (σ_14 : kS) => Q r_15 σ_14)) else (vp_in x3 8 ∧ (w_X2_kindsHeard N σ_12 x1 x2 (2 + 2 * x3.toNatClampNeg + 1) x4 (fun (r_18 : Int32) (σ_17 : kS) => w_X6_fine N σ_17 r_18 (fun (r_20 : Int32) (σ_19 : kS) => Q r_20 σ_19)))))))) else (w_X6_found N σ_8 1 (fun (r_22 : Int32) (σ_21 : kS) => Q r_22 σ_21))))))))))
set_option maxHeartbeats 4000000 in
set_option maxRecDepth 100000 in
theorem s_X6_who {X : kX} {g : kG} {N : Nat} {Q : Int32 → kS → Prop} (hc : kOk X g RX6 cX6_who 5 (some .int) 4) (hZ : kRi X g cX6_who Q) {σ : kS} {x1 : Int32} {x2 : Int32} {x3 : Int32} {x4 : Int32} (h : w_X6_who N σ x1 x2 x3 x4 Q) : kP X g 5 0 [(0, kz g 0), (1, .int x1), (2, .int x2), (3, .int x3), (4, .int x4)] [] σ := by
  unfold w_X6_who at h
  refine r_aload_n hc 0 dX6_who_0 rfl ?_
  refine gf_X6_2 hc lf_X6_30 dX6_who_1 ?_
  refine r_iload_n hc 1 dX6_who_4 rfl ?_
  refine r_callVi (d := 0) hc (m_X3_hasPupil kH_33 h) cw_X3_hasPupil wi_X3_hasPupil ws_X3_hasPupil lm_X6_165 (by decide) (by decide) (rv_X3 kH_33) rfl rfl (Nat.le_of_ble_eq_true rfl) dX6_who_5 (fun r_2 σ_1 h => ?_)
  refine r_if_eq hc 29 dX6_who_8 (by decide) (fun q => ?_) (fun q => ?_)
  · have h := kif_t h q
    refine r_ldc hc lk_X6_67 dX6_who_29 ?_
    exact r_iret (ls0 := []) hZ dX6_who_31 h
  · have h := kif_f h q
    refine r_aload_n hc 0 dX6_who_11 rfl ?_
    refine gf_X6_2 hc lf_X6_30 dX6_who_12 ?_
    refine r_iload_n hc 2 dX6_who_15 rfl ?_
    refine r_callVi (d := 0) hc (m_X3_hasPiece kH_33 h) cw_X3_hasPiece wi_X3_hasPiece ws_X3_hasPiece lm_X6_171 (by decide) (by decide) (rv_X3 kH_33) rfl rfl (Nat.le_of_ble_eq_true rfl) dX6_who_16 (fun r_4 σ_3 h => ?_)
    refine r_if_eq hc 29 dX6_who_19 (by decide) (fun q => ?_) (fun q => ?_)
    · have h := kif_t h q
      refine r_ldc hc lk_X6_67 dX6_who_29 ?_
      exact r_iret (ls0 := []) hZ dX6_who_31 h
    · have h := kif_f h q
      refine r_iload_n hc 3 dX6_who_22 rfl ?_
      refine r_callSi (d := 0) hc (m_X6_isRow h) cw_X6_isRow wt_X6_isRow lm_X6_60 (by decide) (by decide) rfl rfl (Nat.le_of_ble_eq_true rfl) dX6_who_23 (fun r_6 σ_5 h => ?_)
      refine r_if_ne hc 32 dX6_who_26 (by decide) (fun q => ?_) (fun q => ?_)
      · have h := kif_t h q
        refine r_ldc hc lk_X6_67 dX6_who_29 ?_
        exact r_iret (ls0 := []) hZ dX6_who_31 h
      · have h := kif_f h q
        refine r_aload_n hc 0 dX6_who_32 rfl ?_
        refine gf_X6_0 hc lf_X6_11 dX6_who_33 ?_
        refine r_iload_n hc 3 dX6_who_36 rfl ?_
        obtain ⟨hi_7, h⟩ := h
        refine r_rows hc hi_7 dX6_who_37 ?_
        refine r_callVi (d := 0) hc (m_X4_isMissing (kRow_at hi_7) h) cw_X4_isMissing wi_X4_isMissing ws_X4_isMissing lm_X6_79 (by decide) (by decide) (rv_X4 (kRow_at hi_7)) rfl rfl (Nat.le_of_ble_eq_true rfl) dX6_who_38 (fun r_9 σ_8 h => ?_)
        refine r_if_eq hc 50 dX6_who_41 (by decide) (fun q => ?_) (fun q => ?_)
        · have h := kif_t h q
          refine r_aload_n hc 0 dX6_who_50 rfl ?_
          refine gf_X6_0 hc lf_X6_11 dX6_who_51 ?_
          refine r_iload_n hc 3 dX6_who_54 rfl ?_
          obtain ⟨hi_10, h⟩ := h
          refine r_rows hc hi_10 dX6_who_55 ?_
          refine r_iload hc 4 dX6_who_56 rfl ?_
          refine r_aload_n hc 0 dX6_who_58 rfl ?_
          refine gf_X6_2 hc lf_X6_30 dX6_who_59 ?_
          refine gf_X3_0 hc kH_33 lf_X6_174 dX6_who_62 ?_
          refine r_iload_n hc 2 dX6_who_65 rfl ?_
          obtain ⟨hi_11, h⟩ := h
          refine r_iald hc kia_34 hi_11 dX6_who_66 ?_
          refine r_callVi (d := 0) hc (m_X4_hasPlaces (kRow_at hi_10) h) cw_X4_hasPlaces wi_X4_hasPlaces ws_X4_hasPlaces lm_X6_83 (by decide) (by decide) (rv_X4 (kRow_at hi_10)) rfl rfl (Nat.le_of_ble_eq_true rfl) dX6_who_67 (fun r_13 σ_12 h => ?_)
          refine r_if_ne hc 79 dX6_who_70 (by decide) (fun q => ?_) (fun q => ?_)
          · have h := kif_t h q
            refine r_aload_n hc 0 dX6_who_73 rfl ?_
            refine r_iconst (v := 2) hc dX6_who_74 rfl ?_
            refine r_callVi (d := 0) hc (m_X6_found h) cw_X6_found wi_X6_found ws_X6_found lm_X6_68 (by decide) (by decide) rv_X6 rfl rfl (Nat.le_of_ble_eq_true rfl) dX6_who_75 (fun r_15 σ_14 h => ?_)
            exact r_iret (ls0 := []) hZ dX6_who_78 h
          · have h := kif_f h q
            refine r_aload_n hc 0 dX6_who_79 rfl ?_
            refine r_aload_n hc 0 dX6_who_80 rfl ?_
            refine gf_X6_6 hc lf_X6_49 dX6_who_81 ?_
            refine r_iload_n hc 1 dX6_who_84 rfl ?_
            refine r_iload_n hc 2 dX6_who_85 rfl ?_
            refine r_aload_n hc 0 dX6_who_86 rfl ?_
            refine gf_X6_0 hc lf_X6_11 dX6_who_87 ?_
            refine r_iload_n hc 3 dX6_who_90 rfl ?_
            obtain ⟨hi_16, h⟩ := h
            refine r_rows hc hi_16 dX6_who_91 ?_
            refine gf_X4_0 hc (kRow_at hi_16) lf_X6_95 dX6_who_92 ?_
            refine r_iload hc 4 dX6_who_95 rfl ?_
            refine r_callVi (d := 3) hc (m_X2_kindsHeard (kia_Row (kRow_at hi_16)) h) cw_X2_kindsHeard wi_X2_kindsHeard ws_X2_kindsHeard lm_X6_234 (by decide) (by decide) rv_X2 rfl rfl (Nat.le_of_ble_eq_true rfl) dX6_who_97 (fun r_18 σ_17 h => ?_)
            refine r_callVi (d := 0) hc (m_X6_fine h) cw_X6_fine wi_X6_fine ws_X6_fine lm_X6_76 (by decide) (by decide) rv_X6 rfl rfl (Nat.le_of_ble_eq_true rfl) dX6_who_100 (fun r_20 σ_19 h => ?_)
            exact r_iret (ls0 := []) hZ dX6_who_103 h
        · have h := kif_f h q
          refine r_aload_n hc 0 dX6_who_44 rfl ?_
          refine r_iconst (v := 1) hc dX6_who_45 rfl ?_
          refine r_callVi (d := 0) hc (m_X6_found h) cw_X6_found wi_X6_found ws_X6_found lm_X6_68 (by decide) (by decide) rv_X6 rfl rfl (Nat.le_of_ble_eq_true rfl) dX6_who_46 (fun r_22 σ_21 h => ?_)
          exact r_iret (ls0 := []) hZ dX6_who_49 h
theorem m_X6_who {l : Launch} {g : kG} {N : Nat} {σ : kS} {x1 : Int32} {x2 : Int32} {x3 : Int32} {x4 : Int32} {Q : Int32 → kS → Prop} (h : w_X6_who N σ x1 x2 x3 x4 Q) : kMi l g yX6_who cX6_who 5 (some .int) 4 [kz g 0, .int x1, .int x2, .int x3, .int x4] σ Q :=
  k_met_i (by decide +kernel) rfl (Nat.le_of_ble_eq_true rfl) (fun X hl hc hZ => s_X6_who hc hZ h)
def w_X6_tunings (N : Nat) (σ : kS) (x1 : Int32) (x2 : Int32) (Q : Int32 → kS → Prop) : Prop :=
  w_X3_isTold N σ 33 (fun (r_2 : Int32) (σ_1 : kS) => if r_2 = 0 then (Q (-1000002) σ_1) else (if x1 < 1 then (Q (-1000001) σ_1) else (if 60 < x1 then (Q (-1000001) σ_1) else (if x2 < 0 then (Q (-1000001) σ_1) else (if x2 ≤ 11 then (w_X2_fewestTunings N σ_1 x1 x2 (fun (r_4 : Int32) (σ_3 : kS) => Q r_4 σ_3)) else (Q (-1000001) σ_1))))))
set_option maxHeartbeats 4000000 in
set_option maxRecDepth 100000 in
theorem s_X6_tunings {X : kX} {g : kG} {N : Nat} {Q : Int32 → kS → Prop} (hc : kOk X g RX6 cX6_tunings 3 (some .int) 2) (hZ : kRi X g cX6_tunings Q) {σ : kS} {x1 : Int32} {x2 : Int32} (h : w_X6_tunings N σ x1 x2 Q) : kP X g 3 0 [(0, kz g 0), (1, .int x1), (2, .int x2)] [] σ := by
  unfold w_X6_tunings at h
  refine r_aload_n hc 0 dX6_tunings_0 rfl ?_
  refine gf_X6_2 hc lf_X6_30 dX6_tunings_1 ?_
  refine r_callVi (d := 0) hc (m_X3_isTold kH_33 h) cw_X3_isTold wi_X3_isTold ws_X3_isTold lm_X6_146 (by decide) (by decide) (rv_X3 kH_33) rfl rfl (Nat.le_of_ble_eq_true rfl) dX6_tunings_4 (fun r_2 σ_1 h => ?_)
  refine r_if_ne hc 13 dX6_tunings_7 (by decide) (fun q => ?_) (fun q => ?_)
  · have h := kif_t h q
    refine r_ldc hc lk_X6_142 dX6_tunings_10 ?_
    exact r_iret (ls0 := []) hZ dX6_tunings_12 h
  · have h := kif_f h q
    refine r_iload_n hc 1 dX6_tunings_13 rfl ?_
    refine r_iconst (v := 1) hc dX6_tunings_14 rfl ?_
    refine r_ic_lt hc 34 dX6_tunings_15 (by decide) (fun q => ?_) (fun q => ?_)
    · have h := kif_t h q
      refine r_ldc hc lk_X6_67 dX6_tunings_34 ?_
      exact r_iret (ls0 := []) hZ dX6_tunings_36 h
    · have h := kif_f h q
      refine r_iload_n hc 1 dX6_tunings_18 rfl ?_
      refine r_bipush (v := 60) hc dX6_tunings_19 rfl ?_
      refine r_ic_gt hc 34 dX6_tunings_21 (by decide) (fun q => ?_) (fun q => ?_)
      · have h := kif_t h q
        refine r_ldc hc lk_X6_67 dX6_tunings_34 ?_
        exact r_iret (ls0 := []) hZ dX6_tunings_36 h
      · have h := kif_f h q
        refine r_iload_n hc 2 dX6_tunings_24 rfl ?_
        refine r_if_lt hc 34 dX6_tunings_25 (by decide) (fun q => ?_) (fun q => ?_)
        · have h := kif_t h q
          refine r_ldc hc lk_X6_67 dX6_tunings_34 ?_
          exact r_iret (ls0 := []) hZ dX6_tunings_36 h
        · have h := kif_f h q
          refine r_iload_n hc 2 dX6_tunings_28 rfl ?_
          refine r_bipush (v := 11) hc dX6_tunings_29 rfl ?_
          refine r_ic_le hc 37 dX6_tunings_31 (by decide) (fun q => ?_) (fun q => ?_)
          · have h := kif_t h q
            refine r_aload_n hc 0 dX6_tunings_37 rfl ?_
            refine gf_X6_6 hc lf_X6_49 dX6_tunings_38 ?_
            refine r_iload_n hc 1 dX6_tunings_41 rfl ?_
            refine r_iload_n hc 2 dX6_tunings_42 rfl ?_
            refine r_callVi (d := 1) hc (m_X2_fewestTunings h) cw_X2_fewestTunings wi_X2_fewestTunings ws_X2_fewestTunings lm_X6_238 (by decide) (by decide) rv_X2 rfl rfl (Nat.le_of_ble_eq_true rfl) dX6_tunings_43 (fun r_4 σ_3 h => ?_)
            exact r_iret (ls0 := []) hZ dX6_tunings_46 h
          · have h := kif_f h q
            refine r_ldc hc lk_X6_67 dX6_tunings_34 ?_
            exact r_iret (ls0 := []) hZ dX6_tunings_36 h
theorem m_X6_tunings {l : Launch} {g : kG} {N : Nat} {σ : kS} {x1 : Int32} {x2 : Int32} {Q : Int32 → kS → Prop} (h : w_X6_tunings N σ x1 x2 Q) : kMi l g yX6_tunings cX6_tunings 3 (some .int) 2 [kz g 0, .int x1, .int x2] σ Q :=
  k_met_i (by decide +kernel) rfl (Nat.le_of_ble_eq_true rfl) (fun X hl hc hZ => s_X6_tunings hc hZ h)
def w_X6_other (N : Nat) (σ : kS) (x1 : Int32) (x2 : Int32) (Q : Int32 → kS → Prop) : Prop :=
  w_X3_isTold N σ 33 (fun (r_2 : Int32) (σ_1 : kS) => if r_2 = 0 then (Q (-1000002) σ_1) else (if x1 < 0 then (Q (-1000001) σ_1) else (if (σ_1 33 5) ≤ x1 then (Q (-1000001) σ_1) else (if x2 < 0 then (Q (-1000001) σ_1) else (if x2 < (σ_1 33 5) then (w_X2_firstNightAlike N σ_1 x1 x2 (fun (r_4 : Int32) (σ_3 : kS) => Q r_4 σ_3)) else (Q (-1000001) σ_1))))))
set_option maxHeartbeats 4000000 in
set_option maxRecDepth 100000 in
theorem s_X6_other {X : kX} {g : kG} {N : Nat} {Q : Int32 → kS → Prop} (hc : kOk X g RX6 cX6_other 3 (some .int) 3) (hZ : kRi X g cX6_other Q) {σ : kS} {x1 : Int32} {x2 : Int32} (h : w_X6_other N σ x1 x2 Q) : kP X g 3 0 [(0, kz g 0), (1, .int x1), (2, .int x2)] [] σ := by
  unfold w_X6_other at h
  refine r_aload_n hc 0 dX6_other_0 rfl ?_
  refine gf_X6_2 hc lf_X6_30 dX6_other_1 ?_
  refine r_callVi (d := 0) hc (m_X3_isTold kH_33 h) cw_X3_isTold wi_X3_isTold ws_X3_isTold lm_X6_146 (by decide) (by decide) (rv_X3 kH_33) rfl rfl (Nat.le_of_ble_eq_true rfl) dX6_other_4 (fun r_2 σ_1 h => ?_)
  refine r_if_ne hc 13 dX6_other_7 (by decide) (fun q => ?_) (fun q => ?_)
  · have h := kif_t h q
    refine r_ldc hc lk_X6_142 dX6_other_10 ?_
    exact r_iret (ls0 := []) hZ dX6_other_12 h
  · have h := kif_f h q
    refine r_iload_n hc 1 dX6_other_13 rfl ?_
    refine r_if_lt hc 43 dX6_other_14 (by decide) (fun q => ?_) (fun q => ?_)
    · have h := kif_t h q
      refine r_ldc hc lk_X6_67 dX6_other_43 ?_
      exact r_iret (ls0 := []) hZ dX6_other_45 h
    · have h := kif_f h q
      refine r_iload_n hc 1 dX6_other_17 rfl ?_
      refine r_aload_n hc 0 dX6_other_18 rfl ?_
      refine gf_X6_2 hc lf_X6_30 dX6_other_19 ?_
      refine gf_X3_5 hc kH_33 lf_X6_199 dX6_other_22 ?_
      refine r_ic_ge hc 43 dX6_other_25 (by decide) (fun q => ?_) (fun q => ?_)
      · have h := kif_t h q
        refine r_ldc hc lk_X6_67 dX6_other_43 ?_
        exact r_iret (ls0 := []) hZ dX6_other_45 h
      · have h := kif_f h q
        refine r_iload_n hc 2 dX6_other_28 rfl ?_
        refine r_if_lt hc 43 dX6_other_29 (by decide) (fun q => ?_) (fun q => ?_)
        · have h := kif_t h q
          refine r_ldc hc lk_X6_67 dX6_other_43 ?_
          exact r_iret (ls0 := []) hZ dX6_other_45 h
        · have h := kif_f h q
          refine r_iload_n hc 2 dX6_other_32 rfl ?_
          refine r_aload_n hc 0 dX6_other_33 rfl ?_
          refine gf_X6_2 hc lf_X6_30 dX6_other_34 ?_
          refine gf_X3_5 hc kH_33 lf_X6_199 dX6_other_37 ?_
          refine r_ic_lt hc 46 dX6_other_40 (by decide) (fun q => ?_) (fun q => ?_)
          · have h := kif_t h q
            refine r_aload_n hc 0 dX6_other_46 rfl ?_
            refine gf_X6_6 hc lf_X6_49 dX6_other_47 ?_
            refine r_iload_n hc 1 dX6_other_50 rfl ?_
            refine r_iload_n hc 2 dX6_other_51 rfl ?_
            refine r_callVi (d := 2) hc (m_X2_firstNightAlike h) cw_X2_firstNightAlike wi_X2_firstNightAlike ws_X2_firstNightAlike lm_X6_241 (by decide) (by decide) rv_X2 rfl rfl (Nat.le_of_ble_eq_true rfl) dX6_other_52 (fun r_4 σ_3 h => ?_)
            exact r_iret (ls0 := []) hZ dX6_other_55 h
          · have h := kif_f h q
            refine r_ldc hc lk_X6_67 dX6_other_43 ?_
            exact r_iret (ls0 := []) hZ dX6_other_45 h
theorem m_X6_other {l : Launch} {g : kG} {N : Nat} {σ : kS} {x1 : Int32} {x2 : Int32} {Q : Int32 → kS → Prop} (h : w_X6_other N σ x1 x2 Q) : kMi l g yX6_other cX6_other 3 (some .int) 3 [kz g 0, .int x1, .int x2] σ Q :=
  k_met_i (by decide +kernel) rfl (Nat.le_of_ble_eq_true rfl) (fun X hl hc hZ => s_X6_other hc hZ h)
def j_X6_thunderOdds_96 (N : Nat) (Q : Int64 → kS → Prop) (x4 : Int32) (x5 : Int64) (x7 : Int64) (x9 : Int64) (σ : kS) : Prop :=
  if x4 = 0 then (¬ x9 = 0 ∧ (Q (x5 / x9) σ)) else (¬ x9 = 0 ∧ (Q (x7 / x9) σ))
set_option maxHeartbeats 4000000 in
set_option maxRecDepth 100000 in
theorem sj_X6_thunderOdds_96 {X : kX} {g : kG} {N : Nat} {Q : Int64 → kS → Prop} (hc : kOk X g RX6 cX6_thunderOdds 11 (some .long) 3) (hZ : kRl X g cX6_thunderOdds Q) {x4 : Int32} {x5 : Int64} {x7 : Int64} {x9 : Int64} {σ : kS} (h : j_X6_thunderOdds_96 N Q x4 x5 x7 x9 σ) : kP X g 11 96 [(4, .int x4), (5, .long x5), (7, .long x7), (9, .long x9)] [] σ := by
  unfold j_X6_thunderOdds_96 at h
  refine r_iload hc 0 dX6_thunderOdds_96 rfl ?_
  refine r_if_ne hc 109 dX6_thunderOdds_98 (by decide) (fun q => ?_) (fun q => ?_)
  · have h := kif_t h q
    refine r_lload hc 1 dX6_thunderOdds_101 rfl ?_
    refine r_lload hc 3 dX6_thunderOdds_103 rfl ?_
    obtain ⟨hn_11, h⟩ := h
    refine r_ldiv hc dX6_thunderOdds_105 hn_11 ?_
    refine r_goto hc 114 dX6_thunderOdds_106 (by decide) ?_
    exact r_lret (ls0 := []) hZ dX6_thunderOdds_114 h
  · have h := kif_f h q
    refine r_lload hc 2 dX6_thunderOdds_109 rfl ?_
    refine r_lload hc 3 dX6_thunderOdds_111 rfl ?_
    obtain ⟨hn_12, h⟩ := h
    refine r_ldiv hc dX6_thunderOdds_113 hn_12 ?_
    exact r_lret (ls0 := []) hZ dX6_thunderOdds_114 h
def w_X6_thunderOdds (N : Nat) (σ : kS) (x1 : Int32) (x2 : Int32) (x3 : Int32) (x4 : Int32) (Q : Int64 → kS → Prop) : Prop :=
  w_X3_hasPupil N σ 33 x1 (fun (r_2 : Int32) (σ_1 : kS) => if r_2 = 0 then (Q (-1000001) σ_1) else (if x2 < 0 then (Q (-1000001) σ_1) else (if x2 ≤ 10 then (if x3 < 0 then (Q (-1000001) σ_1) else (if 6 < x3 then (Q (-1000001) σ_1) else (if x4 < 0 then (Q (-1000001) σ_1) else (if x4 ≤ 1 then (w_X3_biasOf N σ_1 33 x1 (fun (r_4 : Int32) (σ_3 : kS) => w_X2_tenthsRight N σ_3 r_4 x2 x3 (fun (r_6 : Int64) (σ_5 : kS) => w_X2_power N σ_5 10 x3 (fun (r_8 : Int64) (σ_7 : kS) => w_X2_divisorOfBoth N σ_7 r_6 r_8 (fun (r_10 : Int64) (σ_9 : kS) => if 0 ≤ (lg_cmp r_10 1) then (j_X6_thunderOdds_96 N Q x4 r_6 r_8 r_10 σ_9) else (j_X6_thunderOdds_96 N Q x4 r_6 r_8 1 σ_9)))))) else (Q (-1000001) σ_1))))) else (Q (-1000001) σ_1))))
set_option maxHeartbeats 4000000 in
set_option maxRecDepth 100000 in
theorem s_X6_thunderOdds {X : kX} {g : kG} {N : Nat} {Q : Int64 → kS → Prop} (hc : kOk X g RX6 cX6_thunderOdds 11 (some .long) 3) (hZ : kRl X g cX6_thunderOdds Q) {σ : kS} {x1 : Int32} {x2 : Int32} {x3 : Int32} {x4 : Int32} (h : w_X6_thunderOdds N σ x1 x2 x3 x4 Q) : kP X g 11 0 [(0, kz g 0), (1, .int x1), (2, .int x2), (3, .int x3), (4, .int x4)] [] σ := by
  unfold w_X6_thunderOdds at h
  refine r_aload_n hc 0 dX6_thunderOdds_0 rfl ?_
  refine gf_X6_2 hc lf_X6_30 dX6_thunderOdds_1 ?_
  refine r_iload_n hc 1 dX6_thunderOdds_4 rfl ?_
  refine r_callVi (d := 0) hc (m_X3_hasPupil kH_33 h) cw_X3_hasPupil wi_X3_hasPupil ws_X3_hasPupil lm_X6_165 (by decide) (by decide) (rv_X3 kH_33) rfl rfl (Nat.le_of_ble_eq_true rfl) dX6_thunderOdds_5 (fun r_2 σ_1 h => ?_)
  refine r_if_eq hc 21 dX6_thunderOdds_8 (by decide) (fun q => ?_) (fun q => ?_)
  · have h := kif_t h q
    refine r_ldc2_w hc lK_X6_244 dX6_thunderOdds_21 ?_
    exact r_lret (ls0 := []) hZ dX6_thunderOdds_24 h
  · have h := kif_f h q
    refine r_iload_n hc 2 dX6_thunderOdds_11 rfl ?_
    refine r_if_lt hc 21 dX6_thunderOdds_12 (by decide) (fun q => ?_) (fun q => ?_)
    · have h := kif_t h q
      refine r_ldc2_w hc lK_X6_244 dX6_thunderOdds_21 ?_
      exact r_lret (ls0 := []) hZ dX6_thunderOdds_24 h
    · have h := kif_f h q
      refine r_iload_n hc 2 dX6_thunderOdds_15 rfl ?_
      refine r_bipush (v := 10) hc dX6_thunderOdds_16 rfl ?_
      refine r_ic_le hc 25 dX6_thunderOdds_18 (by decide) (fun q => ?_) (fun q => ?_)
      · have h := kif_t h q
        refine r_iload_n hc 3 dX6_thunderOdds_25 rfl ?_
        refine r_if_lt hc 46 dX6_thunderOdds_26 (by decide) (fun q => ?_) (fun q => ?_)
        · have h := kif_t h q
          refine r_ldc2_w hc lK_X6_244 dX6_thunderOdds_46 ?_
          exact r_lret (ls0 := []) hZ dX6_thunderOdds_49 h
        · have h := kif_f h q
          refine r_iload_n hc 3 dX6_thunderOdds_29 rfl ?_
          refine r_bipush (v := 6) hc dX6_thunderOdds_30 rfl ?_
          refine r_ic_gt hc 46 dX6_thunderOdds_32 (by decide) (fun q => ?_) (fun q => ?_)
          · have h := kif_t h q
            refine r_ldc2_w hc lK_X6_244 dX6_thunderOdds_46 ?_
            exact r_lret (ls0 := []) hZ dX6_thunderOdds_49 h
          · have h := kif_f h q
            refine r_iload hc 4 dX6_thunderOdds_35 rfl ?_
            refine r_if_lt hc 46 dX6_thunderOdds_37 (by decide) (fun q => ?_) (fun q => ?_)
            · have h := kif_t h q
              refine r_ldc2_w hc lK_X6_244 dX6_thunderOdds_46 ?_
              exact r_lret (ls0 := []) hZ dX6_thunderOdds_49 h
            · have h := kif_f h q
              refine r_iload hc 4 dX6_thunderOdds_40 rfl ?_
              refine r_iconst (v := 1) hc dX6_thunderOdds_42 rfl ?_
              refine r_ic_le hc 50 dX6_thunderOdds_43 (by decide) (fun q => ?_) (fun q => ?_)
              · have h := kif_t h q
                refine r_aload_n hc 0 dX6_thunderOdds_50 rfl ?_
                refine gf_X6_6 hc lf_X6_49 dX6_thunderOdds_51 ?_
                refine r_aload_n hc 0 dX6_thunderOdds_54 rfl ?_
                refine gf_X6_2 hc lf_X6_30 dX6_thunderOdds_55 ?_
                refine r_iload_n hc 1 dX6_thunderOdds_58 rfl ?_
                refine r_callVi (d := 2) hc (m_X3_biasOf kH_33 h) cw_X3_biasOf wi_X3_biasOf ws_X3_biasOf lm_X6_184 (by decide) (by decide) (rv_X3 kH_33) rfl rfl (Nat.le_of_ble_eq_true rfl) dX6_thunderOdds_59 (fun r_4 σ_3 h => ?_)
                refine r_iload_n hc 2 dX6_thunderOdds_62 rfl ?_
                refine r_iload_n hc 3 dX6_thunderOdds_63 rfl ?_
                refine r_callVl (d := 2) hc (m_X2_tenthsRight h) cw_X2_tenthsRight wi_X2_tenthsRight ws_X2_tenthsRight lm_X6_246 (by decide) (by decide) rv_X2 rfl rfl (Nat.le_of_ble_eq_true rfl) dX6_thunderOdds_64 (fun r_6 σ_5 h => ?_)
                refine r_lstore hc [(5, .long r_6), (0, kz g 0), (1, .int x1), (2, .int x2), (3, .int x3), (4, .int x4)] dX6_thunderOdds_67 (by decide) rfl ?_
                refine r_bipush (v := 10) hc dX6_thunderOdds_69 rfl ?_
                refine r_iload_n hc 4 dX6_thunderOdds_71 rfl ?_
                refine r_callSl (d := 0) hc (m_X2_power h) cw_X2_power wt_X2_power lm_X6_250 (by decide) (by decide) rfl rfl (Nat.le_of_ble_eq_true rfl) dX6_thunderOdds_72 (fun r_8 σ_7 h => ?_)
                refine r_lstore hc [(7, .long r_8), (5, .long r_6), (0, kz g 0), (1, .int x1), (2, .int x2), (3, .int x3), (4, .int x4)] dX6_thunderOdds_75 (by decide) rfl ?_
                refine r_lload hc 1 dX6_thunderOdds_77 rfl ?_
                refine r_lload hc 0 dX6_thunderOdds_79 rfl ?_
                refine r_callSl (d := 0) hc (m_X2_divisorOfBoth h) cw_X2_divisorOfBoth wt_X2_divisorOfBoth lm_X6_254 (by decide) (by decide) rfl rfl (Nat.le_of_ble_eq_true rfl) dX6_thunderOdds_81 (fun r_10 σ_9 h => ?_)
                refine r_lstore hc [(9, .long r_10), (7, .long r_8), (5, .long r_6), (0, kz g 0), (1, .int x1), (2, .int x2), (3, .int x3), (4, .int x4)] dX6_thunderOdds_84 (by decide) rfl ?_
                refine r_lload hc 0 dX6_thunderOdds_86 rfl ?_
                refine r_lconst (v := 1) hc dX6_thunderOdds_88 rfl ?_
                refine r_lcmp hc dX6_thunderOdds_89 ?_
                refine r_if_ge hc 96 dX6_thunderOdds_90 (by decide) (fun q => ?_) (fun q => ?_)
                · have h := kif_t h q
                  refine r_sub [7, 2, 1, 0] rfl ?_
                  exact sj_X6_thunderOdds_96 hc hZ h
                · have h := kif_f h q
                  refine r_lconst (v := 1) hc dX6_thunderOdds_93 rfl ?_
                  refine r_lstore hc [(9, .long 1), (7, .long r_8), (5, .long r_6), (0, kz g 0), (1, .int x1), (2, .int x2), (3, .int x3), (4, .int x4)] dX6_thunderOdds_94 (by decide) rfl ?_
                  refine r_sub [7, 2, 1, 0] rfl ?_
                  exact sj_X6_thunderOdds_96 hc hZ h
              · have h := kif_f h q
                refine r_ldc2_w hc lK_X6_244 dX6_thunderOdds_46 ?_
                exact r_lret (ls0 := []) hZ dX6_thunderOdds_49 h
      · have h := kif_f h q
        refine r_ldc2_w hc lK_X6_244 dX6_thunderOdds_21 ?_
        exact r_lret (ls0 := []) hZ dX6_thunderOdds_24 h
theorem m_X6_thunderOdds {l : Launch} {g : kG} {N : Nat} {σ : kS} {x1 : Int32} {x2 : Int32} {x3 : Int32} {x4 : Int32} {Q : Int64 → kS → Prop} (h : w_X6_thunderOdds N σ x1 x2 x3 x4 Q) : kMl l g yX6_thunderOdds cX6_thunderOdds 11 (some .long) 3 [kz g 0, .int x1, .int x2, .int x3, .int x4] σ Q :=
  k_met_l (by decide +kernel) rfl (Nat.le_of_ble_eq_true rfl) (fun X hl hc hZ => s_X6_thunderOdds hc hZ h)
def w_X6_drawn (N : Nat) (σ : kS) (x1 : Int32) (x2 : Int32) (x3 : Int32) (Q : Int32 → kS → Prop) : Prop :=
  w_X3_isTold N σ 33 (fun (r_2 : Int32) (σ_1 : kS) => if r_2 = 0 then (Q (-1000002) σ_1) else (if x1 < 0 then (Q (-1000001) σ_1) else (if 60 < x1 then (Q (-1000001) σ_1) else (if x2 < 1 then (Q (-1000001) σ_1) else (if 999999 < x2 then (Q (-1000001) σ_1) else (if x3 < 0 then (Q (-1000001) σ_1) else (if x3 ≤ 1 then (if x3 = 1 then (w_X2_nightsByDraws N σ_1 x1 x2 1 (fun (r_4 : Int32) (σ_3 : kS) => Q r_4 σ_3)) else (w_X2_nightsByDraws N σ_1 x1 x2 0 (fun (r_6 : Int32) (σ_5 : kS) => Q r_6 σ_5))) else (Q (-1000001) σ_1))))))))
set_option maxHeartbeats 4000000 in
set_option maxRecDepth 100000 in
theorem s_X6_drawn {X : kX} {g : kG} {N : Nat} {Q : Int32 → kS → Prop} (hc : kOk X g RX6 cX6_drawn 4 (some .int) 5) (hZ : kRi X g cX6_drawn Q) {σ : kS} {x1 : Int32} {x2 : Int32} {x3 : Int32} (h : w_X6_drawn N σ x1 x2 x3 Q) : kP X g 4 0 [(0, kz g 0), (1, .int x1), (2, .int x2), (3, .int x3)] [] σ := by
  unfold w_X6_drawn at h
  refine r_aload_n hc 0 dX6_drawn_0 rfl ?_
  refine gf_X6_2 hc lf_X6_30 dX6_drawn_1 ?_
  refine r_callVi (d := 0) hc (m_X3_isTold kH_33 h) cw_X3_isTold wi_X3_isTold ws_X3_isTold lm_X6_146 (by decide) (by decide) (rv_X3 kH_33) rfl rfl (Nat.le_of_ble_eq_true rfl) dX6_drawn_4 (fun r_2 σ_1 h => ?_)
  refine r_if_ne hc 13 dX6_drawn_7 (by decide) (fun q => ?_) (fun q => ?_)
  · have h := kif_t h q
    refine r_ldc hc lk_X6_142 dX6_drawn_10 ?_
    exact r_iret (ls0 := []) hZ dX6_drawn_12 h
  · have h := kif_f h q
    refine r_iload_n hc 1 dX6_drawn_13 rfl ?_
    refine r_if_lt hc 44 dX6_drawn_14 (by decide) (fun q => ?_) (fun q => ?_)
    · have h := kif_t h q
      refine r_ldc hc lk_X6_67 dX6_drawn_44 ?_
      exact r_iret (ls0 := []) hZ dX6_drawn_46 h
    · have h := kif_f h q
      refine r_iload_n hc 1 dX6_drawn_17 rfl ?_
      refine r_bipush (v := 60) hc dX6_drawn_18 rfl ?_
      refine r_ic_gt hc 44 dX6_drawn_20 (by decide) (fun q => ?_) (fun q => ?_)
      · have h := kif_t h q
        refine r_ldc hc lk_X6_67 dX6_drawn_44 ?_
        exact r_iret (ls0 := []) hZ dX6_drawn_46 h
      · have h := kif_f h q
        refine r_iload_n hc 2 dX6_drawn_23 rfl ?_
        refine r_iconst (v := 1) hc dX6_drawn_24 rfl ?_
        refine r_ic_lt hc 44 dX6_drawn_25 (by decide) (fun q => ?_) (fun q => ?_)
        · have h := kif_t h q
          refine r_ldc hc lk_X6_67 dX6_drawn_44 ?_
          exact r_iret (ls0 := []) hZ dX6_drawn_46 h
        · have h := kif_f h q
          refine r_iload_n hc 2 dX6_drawn_28 rfl ?_
          refine r_ldc_w hc lk_X6_258 dX6_drawn_29 ?_
          refine r_ic_gt hc 44 dX6_drawn_32 (by decide) (fun q => ?_) (fun q => ?_)
          · have h := kif_t h q
            refine r_ldc hc lk_X6_67 dX6_drawn_44 ?_
            exact r_iret (ls0 := []) hZ dX6_drawn_46 h
          · have h := kif_f h q
            refine r_iload_n hc 3 dX6_drawn_35 rfl ?_
            refine r_if_lt hc 44 dX6_drawn_36 (by decide) (fun q => ?_) (fun q => ?_)
            · have h := kif_t h q
              refine r_ldc hc lk_X6_67 dX6_drawn_44 ?_
              exact r_iret (ls0 := []) hZ dX6_drawn_46 h
            · have h := kif_f h q
              refine r_iload_n hc 3 dX6_drawn_39 rfl ?_
              refine r_iconst (v := 1) hc dX6_drawn_40 rfl ?_
              refine r_ic_le hc 47 dX6_drawn_41 (by decide) (fun q => ?_) (fun q => ?_)
              · have h := kif_t h q
                refine r_aload_n hc 0 dX6_drawn_47 rfl ?_
                refine gf_X6_6 hc lf_X6_49 dX6_drawn_48 ?_
                refine r_iload_n hc 1 dX6_drawn_51 rfl ?_
                refine r_iload_n hc 2 dX6_drawn_52 rfl ?_
                refine r_iload_n hc 3 dX6_drawn_53 rfl ?_
                refine r_iconst (v := 1) hc dX6_drawn_54 rfl ?_
                refine r_ic_ne hc 62 dX6_drawn_55 (by decide) (fun q => ?_) (fun q => ?_)
                · have h := kif_t h q
                  refine r_iconst (v := 1) hc dX6_drawn_58 rfl ?_
                  refine r_goto hc 63 dX6_drawn_59 (by decide) ?_
                  refine r_callVi (d := 4) hc (m_X2_nightsByDraws h) cw_X2_nightsByDraws wi_X2_nightsByDraws ws_X2_nightsByDraws lm_X6_259 (by decide) (by decide) rv_X2 rfl rfl (Nat.le_of_ble_eq_true rfl) dX6_drawn_63 (fun r_4 σ_3 h => ?_)
                  exact r_iret (ls0 := []) hZ dX6_drawn_66 h
                · have h := kif_f h q
                  refine r_iconst (v := 0) hc dX6_drawn_62 rfl ?_
                  refine r_callVi (d := 4) hc (m_X2_nightsByDraws h) cw_X2_nightsByDraws wi_X2_nightsByDraws ws_X2_nightsByDraws lm_X6_259 (by decide) (by decide) rv_X2 rfl rfl (Nat.le_of_ble_eq_true rfl) dX6_drawn_63 (fun r_6 σ_5 h => ?_)
                  exact r_iret (ls0 := []) hZ dX6_drawn_66 h
              · have h := kif_f h q
                refine r_ldc hc lk_X6_67 dX6_drawn_44 ?_
                exact r_iret (ls0 := []) hZ dX6_drawn_46 h
theorem m_X6_drawn {l : Launch} {g : kG} {N : Nat} {σ : kS} {x1 : Int32} {x2 : Int32} {x3 : Int32} {Q : Int32 → kS → Prop} (h : w_X6_drawn N σ x1 x2 x3 Q) : kMi l g yX6_drawn cX6_drawn 4 (some .int) 5 [kz g 0, .int x1, .int x2, .int x3] σ Q :=
  k_met_i (by decide +kernel) rfl (Nat.le_of_ble_eq_true rfl) (fun X hl hc hZ => s_X6_drawn hc hZ h)
def w_X6_isImage (N : Nat) (σ : kS) (x0 : Int32) (Q : Int32 → kS → Prop) : Prop :=
  if x0 < 0 then (Q 0 σ) else (if 2 ≤ x0 then (Q 0 σ) else (Q 1 σ))
set_option maxHeartbeats 4000000 in
set_option maxRecDepth 100000 in
theorem s_X6_isImage {X : kX} {g : kG} {N : Nat} {Q : Int32 → kS → Prop} (hc : kOk X g RX6 cX6_isImage 1 (some .boolean) 0) (hZ : kRz X g cX6_isImage Q) {σ : kS} {x0 : Int32} (h : w_X6_isImage N σ x0 Q) : kP X g 1 0 [(0, .int x0)] [] σ := by
  unfold w_X6_isImage at h
  refine r_iload_n hc 0 dX6_isImage_0 rfl ?_
  refine r_if_lt hc 13 dX6_isImage_1 (by decide) (fun q => ?_) (fun q => ?_)
  · have h := kif_t h q
    refine r_iconst (v := 0) hc dX6_isImage_13 rfl ?_
    exact r_zret (ls0 := []) hZ dX6_isImage_14 (Or.inl rfl) h
  · have h := kif_f h q
    refine r_iload_n hc 0 dX6_isImage_4 rfl ?_
    refine r_iconst (v := 2) hc dX6_isImage_5 rfl ?_
    refine r_ic_ge hc 13 dX6_isImage_6 (by decide) (fun q => ?_) (fun q => ?_)
    · have h := kif_t h q
      refine r_iconst (v := 0) hc dX6_isImage_13 rfl ?_
      exact r_zret (ls0 := []) hZ dX6_isImage_14 (Or.inl rfl) h
    · have h := kif_f h q
      refine r_iconst (v := 1) hc dX6_isImage_9 rfl ?_
      refine r_goto hc 14 dX6_isImage_10 (by decide) ?_
      exact r_zret (ls0 := []) hZ dX6_isImage_14 (Or.inr rfl) h
theorem m_X6_isImage {l : Launch} {g : kG} {N : Nat} {σ : kS} {x0 : Int32} {Q : Int32 → kS → Prop} (h : w_X6_isImage N σ x0 Q) : kMi l g yX6_isImage cX6_isImage 1 (some .boolean) 0 [.int x0] σ Q :=
  k_met_z (by decide +kernel) rfl (Nat.le_of_ble_eq_true rfl) (fun X hl hc hZ => s_X6_isImage hc hZ h)
def w_X6_image (N : Nat) (σ : kS) (x1 : Int32) (Q : Int32 → kS → Prop) : Prop :=
  w_X6_isImage N σ x1 (fun (r_2 : Int32) (σ_1 : kS) => if r_2 = 0 then (Q (-1000001) σ_1) else (w_X3_isTold N σ_1 33 (fun (r_4 : Int32) (σ_3 : kS) => if r_4 = 0 then (Q (-1000002) σ_3) else (vp_in x1 2 ∧ (w_X3_become N σ_3 (19 + 6 * x1.toNatClampNeg) 33 (fun (σ_6 : kS) => Q 1 σ_6))))))
set_option maxHeartbeats 4000000 in
set_option maxRecDepth 100000 in
theorem s_X6_image {X : kX} {g : kG} {N : Nat} {Q : Int32 → kS → Prop} (hc : kOk X g RX6 cX6_image 2 (some .int) 2) (hZ : kRi X g cX6_image Q) {σ : kS} {x1 : Int32} (h : w_X6_image N σ x1 Q) : kP X g 2 0 [(0, kz g 0), (1, .int x1)] [] σ := by
  unfold w_X6_image at h
  refine r_iload_n hc 1 dX6_image_0 rfl ?_
  refine r_callSi (d := 0) hc (m_X6_isImage h) cw_X6_isImage wt_X6_isImage lm_X6_263 (by decide) (by decide) rfl rfl (Nat.le_of_ble_eq_true rfl) dX6_image_1 (fun r_2 σ_1 h => ?_)
  refine r_if_ne hc 10 dX6_image_4 (by decide) (fun q => ?_) (fun q => ?_)
  · have h := kif_t h q
    refine r_ldc hc lk_X6_67 dX6_image_7 ?_
    exact r_iret (ls0 := []) hZ dX6_image_9 h
  · have h := kif_f h q
    refine r_aload_n hc 0 dX6_image_10 rfl ?_
    refine gf_X6_2 hc lf_X6_30 dX6_image_11 ?_
    refine r_callVi (d := 0) hc (m_X3_isTold kH_33 h) cw_X3_isTold wi_X3_isTold ws_X3_isTold lm_X6_146 (by decide) (by decide) (rv_X3 kH_33) rfl rfl (Nat.le_of_ble_eq_true rfl) dX6_image_14 (fun r_4 σ_3 h => ?_)
    refine r_if_ne hc 23 dX6_image_17 (by decide) (fun q => ?_) (fun q => ?_)
    · have h := kif_t h q
      refine r_ldc hc lk_X6_142 dX6_image_20 ?_
      exact r_iret (ls0 := []) hZ dX6_image_22 h
    · have h := kif_f h q
      refine r_aload_n hc 0 dX6_image_23 rfl ?_
      refine gf_X6_4 hc lf_X6_18 dX6_image_24 ?_
      refine r_iload_n hc 1 dX6_image_27 rfl ?_
      obtain ⟨hi_5, h⟩ := h
      refine r_halls hc hi_5 dX6_image_28 ?_
      refine r_aload_n hc 0 dX6_image_29 rfl ?_
      refine gf_X6_2 hc lf_X6_30 dX6_image_30 ?_
      refine r_callVv (d := 1) hc (m_X3_become (kHall_at hi_5) kH_33 h) cw_X3_become wi_X3_become ws_X3_become lm_X6_129 (by decide) (by decide) (rv_X3 (kHall_at hi_5)) rfl rfl (Nat.le_of_ble_eq_true rfl) dX6_image_33 (fun σ_6 h => ?_)
      refine r_iconst (v := 1) hc dX6_image_36 rfl ?_
      exact r_iret (ls0 := []) hZ dX6_image_37 h
theorem m_X6_image {l : Launch} {g : kG} {N : Nat} {σ : kS} {x1 : Int32} {Q : Int32 → kS → Prop} (h : w_X6_image N σ x1 Q) : kMi l g yX6_image cX6_image 2 (some .int) 2 [kz g 0, .int x1] σ Q :=
  k_met_i (by decide +kernel) rfl (Nat.le_of_ble_eq_true rfl) (fun X hl hc hZ => s_X6_image hc hZ h)
def w_X6_restore (N : Nat) (σ : kS) (x1 : Int32) (Q : Int32 → kS → Prop) : Prop :=
  w_X6_isImage N σ x1 (fun (r_2 : Int32) (σ_1 : kS) => if r_2 = 0 then (Q (-1000001) σ_1) else (vp_in x1 2 ∧ (w_X3_isTold N σ_1 (19 + 6 * x1.toNatClampNeg) (fun (r_5 : Int32) (σ_4 : kS) => if r_5 = 0 then (Q (-1000002) σ_4) else (vp_in x1 2 ∧ (w_X3_become N σ_4 33 (19 + 6 * x1.toNatClampNeg) (fun (σ_7 : kS) => w_X0_clear N σ_7 (fun (σ_9 : kS) => Q 1 σ_9))))))))
set_option maxHeartbeats 4000000 in
set_option maxRecDepth 100000 in
theorem s_X6_restore {X : kX} {g : kG} {N : Nat} {Q : Int32 → kS → Prop} (hc : kOk X g RX6 cX6_restore 2 (some .int) 2) (hZ : kRi X g cX6_restore Q) {σ : kS} {x1 : Int32} (h : w_X6_restore N σ x1 Q) : kP X g 2 0 [(0, kz g 0), (1, .int x1)] [] σ := by
  unfold w_X6_restore at h
  refine r_iload_n hc 1 dX6_restore_0 rfl ?_
  refine r_callSi (d := 0) hc (m_X6_isImage h) cw_X6_isImage wt_X6_isImage lm_X6_263 (by decide) (by decide) rfl rfl (Nat.le_of_ble_eq_true rfl) dX6_restore_1 (fun r_2 σ_1 h => ?_)
  refine r_if_ne hc 10 dX6_restore_4 (by decide) (fun q => ?_) (fun q => ?_)
  · have h := kif_t h q
    refine r_ldc hc lk_X6_67 dX6_restore_7 ?_
    exact r_iret (ls0 := []) hZ dX6_restore_9 h
  · have h := kif_f h q
    refine r_aload_n hc 0 dX6_restore_10 rfl ?_
    refine gf_X6_4 hc lf_X6_18 dX6_restore_11 ?_
    refine r_iload_n hc 1 dX6_restore_14 rfl ?_
    obtain ⟨hi_3, h⟩ := h
    refine r_halls hc hi_3 dX6_restore_15 ?_
    refine r_callVi (d := 0) hc (m_X3_isTold (kHall_at hi_3) h) cw_X3_isTold wi_X3_isTold ws_X3_isTold lm_X6_146 (by decide) (by decide) (rv_X3 (kHall_at hi_3)) rfl rfl (Nat.le_of_ble_eq_true rfl) dX6_restore_16 (fun r_5 σ_4 h => ?_)
    refine r_if_ne hc 25 dX6_restore_19 (by decide) (fun q => ?_) (fun q => ?_)
    · have h := kif_t h q
      refine r_ldc hc lk_X6_142 dX6_restore_22 ?_
      exact r_iret (ls0 := []) hZ dX6_restore_24 h
    · have h := kif_f h q
      refine r_aload_n hc 0 dX6_restore_25 rfl ?_
      refine gf_X6_2 hc lf_X6_30 dX6_restore_26 ?_
      refine r_aload_n hc 0 dX6_restore_29 rfl ?_
      refine gf_X6_4 hc lf_X6_18 dX6_restore_30 ?_
      refine r_iload_n hc 1 dX6_restore_33 rfl ?_
      obtain ⟨hi_6, h⟩ := h
      refine r_halls hc hi_6 dX6_restore_34 ?_
      refine r_callVv (d := 1) hc (m_X3_become kH_33 (kHall_at hi_6) h) cw_X3_become wi_X3_become ws_X3_become lm_X6_129 (by decide) (by decide) (rv_X3 kH_33) rfl rfl (Nat.le_of_ble_eq_true rfl) dX6_restore_35 (fun σ_7 h => ?_)
      refine r_aload_n hc 0 dX6_restore_38 rfl ?_
      refine gf_X6_5 hc lf_X6_40 dX6_restore_39 ?_
      refine r_callVv (d := 0) hc (m_X0_clear h) cw_X0_clear wi_X0_clear ws_X0_clear lm_X6_132 (by decide) (by decide) rv_X0 rfl rfl (Nat.le_of_ble_eq_true rfl) dX6_restore_42 (fun σ_9 h => ?_)
      refine r_iconst (v := 1) hc dX6_restore_45 rfl ?_
      exact r_iret (ls0 := []) hZ dX6_restore_46 h
theorem m_X6_restore {l : Launch} {g : kG} {N : Nat} {σ : kS} {x1 : Int32} {Q : Int32 → kS → Prop} (h : w_X6_restore N σ x1 Q) : kMi l g yX6_restore cX6_restore 2 (some .int) 2 [kz g 0, .int x1] σ Q :=
  k_met_i (by decide +kernel) rfl (Nat.le_of_ble_eq_true rfl) (fun X hl hc hZ => s_X6_restore hc hZ h)
def w_X6_kind (N : Nat) (σ : kS) (x1 : Int32) (Q : Int32 → kS → Prop) : Prop :=
  w_X3_hasPupil N σ 33 x1 (fun (r_2 : Int32) (σ_1 : kS) => if r_2 = 0 then (Q (-1000001) σ_1) else (vp_in x1 5 ∧ (Q (σ_1 36 x1.toNatClampNeg) σ_1)))
set_option maxHeartbeats 4000000 in
set_option maxRecDepth 100000 in
theorem s_X6_kind {X : kX} {g : kG} {N : Nat} {Q : Int32 → kS → Prop} (hc : kOk X g RX6 cX6_kind 2 (some .int) 1) (hZ : kRi X g cX6_kind Q) {σ : kS} {x1 : Int32} (h : w_X6_kind N σ x1 Q) : kP X g 2 0 [(0, kz g 0), (1, .int x1)] [] σ := by
  unfold w_X6_kind at h
  refine r_aload_n hc 0 dX6_kind_0 rfl ?_
  refine gf_X6_2 hc lf_X6_30 dX6_kind_1 ?_
  refine r_iload_n hc 1 dX6_kind_4 rfl ?_
  refine r_callVi (d := 0) hc (m_X3_hasPupil kH_33 h) cw_X3_hasPupil wi_X3_hasPupil ws_X3_hasPupil lm_X6_165 (by decide) (by decide) (rv_X3 kH_33) rfl rfl (Nat.le_of_ble_eq_true rfl) dX6_kind_5 (fun r_2 σ_1 h => ?_)
  refine r_if_eq hc 23 dX6_kind_8 (by decide) (fun q => ?_) (fun q => ?_)
  · have h := kif_t h q
    refine r_ldc hc lk_X6_67 dX6_kind_23 ?_
    exact r_iret (ls0 := []) hZ dX6_kind_25 h
  · have h := kif_f h q
    refine r_aload_n hc 0 dX6_kind_11 rfl ?_
    refine gf_X6_2 hc lf_X6_30 dX6_kind_12 ?_
    refine gf_X3_2 hc kH_33 lf_X6_266 dX6_kind_15 ?_
    refine r_iload_n hc 1 dX6_kind_18 rfl ?_
    obtain ⟨hi_3, h⟩ := h
    refine r_iald hc kia_36 hi_3 dX6_kind_19 ?_
    refine r_goto hc 25 dX6_kind_20 (by decide) ?_
    exact r_iret (ls0 := []) hZ dX6_kind_25 h
theorem m_X6_kind {l : Launch} {g : kG} {N : Nat} {σ : kS} {x1 : Int32} {Q : Int32 → kS → Prop} (h : w_X6_kind N σ x1 Q) : kMi l g yX6_kind cX6_kind 2 (some .int) 1 [kz g 0, .int x1] σ Q :=
  k_met_i (by decide +kernel) rfl (Nat.le_of_ble_eq_true rfl) (fun X hl hc hZ => s_X6_kind hc hZ h)
def w_X6_as (N : Nat) (σ : kS) (x1 : Int32) (x2 : Int32) (Q : Int32 → kS → Prop) : Prop :=
  w_X3_hasPupil N σ 33 x1 (fun (r_2 : Int32) (σ_1 : kS) => if r_2 = 0 then (Q (-1000001) σ_1) else (if x2 < 0 then (Q (-1000001) σ_1) else (if x2 ≤ 5 then (vp_in x1 5 ∧ (w_X1_isOfKind N σ_1 (σ_1 36 x1.toNatClampNeg) x2 (fun (r_5 : Int32) (σ_4 : kS) => if r_5 = 0 then (w_X6_found N σ_4 3 (fun (r_7 : Int32) (σ_6 : kS) => Q r_7 σ_6)) else (w_X6_fine N σ_4 x1 (fun (r_9 : Int32) (σ_8 : kS) => Q r_9 σ_8))))) else (Q (-1000001) σ_1))))
set_option maxHeartbeats 4000000 in
set_option maxRecDepth 100000 in
theorem s_X6_as {X : kX} {g : kG} {N : Nat} {Q : Int32 → kS → Prop} (hc : kOk X g RX6 cX6_as 3 (some .int) 1) (hZ : kRi X g cX6_as Q) {σ : kS} {x1 : Int32} {x2 : Int32} (h : w_X6_as N σ x1 x2 Q) : kP X g 3 0 [(0, kz g 0), (1, .int x1), (2, .int x2)] [] σ := by
  unfold w_X6_as at h
  refine r_aload_n hc 0 dX6_as_0 rfl ?_
  refine gf_X6_2 hc lf_X6_30 dX6_as_1 ?_
  refine r_iload_n hc 1 dX6_as_4 rfl ?_
  refine r_callVi (d := 0) hc (m_X3_hasPupil kH_33 h) cw_X3_hasPupil wi_X3_hasPupil ws_X3_hasPupil lm_X6_165 (by decide) (by decide) (rv_X3 kH_33) rfl rfl (Nat.le_of_ble_eq_true rfl) dX6_as_5 (fun r_2 σ_1 h => ?_)
  refine r_if_eq hc 20 dX6_as_8 (by decide) (fun q => ?_) (fun q => ?_)
  · have h := kif_t h q
    refine r_ldc hc lk_X6_67 dX6_as_20 ?_
    exact r_iret (ls0 := []) hZ dX6_as_22 h
  · have h := kif_f h q
    refine r_iload_n hc 2 dX6_as_11 rfl ?_
    refine r_if_lt hc 20 dX6_as_12 (by decide) (fun q => ?_) (fun q => ?_)
    · have h := kif_t h q
      refine r_ldc hc lk_X6_67 dX6_as_20 ?_
      exact r_iret (ls0 := []) hZ dX6_as_22 h
    · have h := kif_f h q
      refine r_iload_n hc 2 dX6_as_15 rfl ?_
      refine r_iconst (v := 5) hc dX6_as_16 rfl ?_
      refine r_ic_le hc 23 dX6_as_17 (by decide) (fun q => ?_) (fun q => ?_)
      · have h := kif_t h q
        refine r_aload_n hc 0 dX6_as_23 rfl ?_
        refine gf_X6_2 hc lf_X6_30 dX6_as_24 ?_
        refine gf_X3_2 hc kH_33 lf_X6_266 dX6_as_27 ?_
        refine r_iload_n hc 1 dX6_as_30 rfl ?_
        obtain ⟨hi_3, h⟩ := h
        refine r_iald hc kia_36 hi_3 dX6_as_31 ?_
        refine r_iload_n hc 2 dX6_as_32 rfl ?_
        refine r_callSi (d := 0) hc (m_X1_isOfKind h) cw_X1_isOfKind wt_X1_isOfKind lm_X6_269 (by decide) (by decide) rfl rfl (Nat.le_of_ble_eq_true rfl) dX6_as_33 (fun r_5 σ_4 h => ?_)
        refine r_if_eq hc 47 dX6_as_36 (by decide) (fun q => ?_) (fun q => ?_)
        · have h := kif_t h q
          refine r_aload_n hc 0 dX6_as_47 rfl ?_
          refine r_iconst (v := 3) hc dX6_as_48 rfl ?_
          refine r_callVi (d := 0) hc (m_X6_found h) cw_X6_found wi_X6_found ws_X6_found lm_X6_68 (by decide) (by decide) rv_X6 rfl rfl (Nat.le_of_ble_eq_true rfl) dX6_as_49 (fun r_7 σ_6 h => ?_)
          exact r_iret (ls0 := []) hZ dX6_as_52 h
        · have h := kif_f h q
          refine r_aload_n hc 0 dX6_as_39 rfl ?_
          refine r_iload_n hc 1 dX6_as_40 rfl ?_
          refine r_callVi (d := 0) hc (m_X6_fine h) cw_X6_fine wi_X6_fine ws_X6_fine lm_X6_76 (by decide) (by decide) rv_X6 rfl rfl (Nat.le_of_ble_eq_true rfl) dX6_as_41 (fun r_9 σ_8 h => ?_)
          refine r_goto hc 52 dX6_as_44 (by decide) ?_
          exact r_iret (ls0 := []) hZ dX6_as_52 h
      · have h := kif_f h q
        refine r_ldc hc lk_X6_67 dX6_as_20 ?_
        exact r_iret (ls0 := []) hZ dX6_as_22 h
theorem m_X6_as {l : Launch} {g : kG} {N : Nat} {σ : kS} {x1 : Int32} {x2 : Int32} {Q : Int32 → kS → Prop} (h : w_X6_as N σ x1 x2 Q) : kMi l g yX6_as cX6_as 3 (some .int) 1 [kz g 0, .int x1, .int x2] σ Q :=
  k_met_i (by decide +kernel) rfl (Nat.le_of_ble_eq_true rfl) (fun X hl hc hZ => s_X6_as hc hZ h)
def w_X6_ask (N : Nat) (σ : kS) (x1 : Int32) (x2 : Int32) (Q : Int32 → kS → Prop) : Prop :=
  w_X3_hasPupil N σ 33 x1 (fun (r_2 : Int32) (σ_1 : kS) => if r_2 = 0 then (Q (-1000001) σ_1) else (if x2 < 0 then (Q (-1000001) σ_1) else (if x2 ≤ 1 then (vp_in x1 5 ∧ (vp_in x1 5 ∧ (vp_in x1 5 ∧ (w_X1_begin N σ_1 x1 (σ_1 36 x1.toNatClampNeg) (σ_1 37 x1.toNatClampNeg) (σ_1 38 x1.toNatClampNeg) (fun (σ_6 : kS) => if x2 = 0 then (w_X1_sizeOfOne N σ_6 (fun (r_9 : Int32) (σ_8 : kS) => Q r_9 σ_8)) else (w_X1_markOfOne N σ_6 (fun (r_11 : Int32) (σ_10 : kS) => Q r_11 σ_10))))))) else (Q (-1000001) σ_1))))
set_option maxHeartbeats 4000000 in
set_option maxRecDepth 100000 in
theorem s_X6_ask {X : kX} {g : kG} {N : Nat} {Q : Int32 → kS → Prop} (hc : kOk X g RX6 cX6_ask 3 (some .int) 6) (hZ : kRi X g cX6_ask Q) {σ : kS} {x1 : Int32} {x2 : Int32} (h : w_X6_ask N σ x1 x2 Q) : kP X g 3 0 [(0, kz g 0), (1, .int x1), (2, .int x2)] [] σ := by
  unfold w_X6_ask at h
  refine r_aload_n hc 0 dX6_ask_0 rfl ?_
  refine gf_X6_2 hc lf_X6_30 dX6_ask_1 ?_
  refine r_iload_n hc 1 dX6_ask_4 rfl ?_
  refine r_callVi (d := 0) hc (m_X3_hasPupil kH_33 h) cw_X3_hasPupil wi_X3_hasPupil ws_X3_hasPupil lm_X6_165 (by decide) (by decide) (rv_X3 kH_33) rfl rfl (Nat.le_of_ble_eq_true rfl) dX6_ask_5 (fun r_2 σ_1 h => ?_)
  refine r_if_eq hc 20 dX6_ask_8 (by decide) (fun q => ?_) (fun q => ?_)
  · have h := kif_t h q
    refine r_ldc hc lk_X6_67 dX6_ask_20 ?_
    exact r_iret (ls0 := []) hZ dX6_ask_22 h
  · have h := kif_f h q
    refine r_iload_n hc 2 dX6_ask_11 rfl ?_
    refine r_if_lt hc 20 dX6_ask_12 (by decide) (fun q => ?_) (fun q => ?_)
    · have h := kif_t h q
      refine r_ldc hc lk_X6_67 dX6_ask_20 ?_
      exact r_iret (ls0 := []) hZ dX6_ask_22 h
    · have h := kif_f h q
      refine r_iload_n hc 2 dX6_ask_15 rfl ?_
      refine r_iconst (v := 1) hc dX6_ask_16 rfl ?_
      refine r_ic_le hc 23 dX6_ask_17 (by decide) (fun q => ?_) (fun q => ?_)
      · have h := kif_t h q
        refine r_aload_n hc 0 dX6_ask_23 rfl ?_
        refine gf_X6_7 hc lf_X6_56 dX6_ask_24 ?_
        refine r_iload_n hc 1 dX6_ask_27 rfl ?_
        refine r_aload_n hc 0 dX6_ask_28 rfl ?_
        refine gf_X6_2 hc lf_X6_30 dX6_ask_29 ?_
        refine gf_X3_2 hc kH_33 lf_X6_266 dX6_ask_32 ?_
        refine r_iload_n hc 1 dX6_ask_35 rfl ?_
        obtain ⟨hi_3, h⟩ := h
        refine r_iald hc kia_36 hi_3 dX6_ask_36 ?_
        refine r_aload_n hc 0 dX6_ask_37 rfl ?_
        refine gf_X6_2 hc lf_X6_30 dX6_ask_38 ?_
        refine gf_X3_3 hc kH_33 lf_X6_168 dX6_ask_41 ?_
        refine r_iload_n hc 1 dX6_ask_44 rfl ?_
        obtain ⟨hi_4, h⟩ := h
        refine r_iald hc kia_37 hi_4 dX6_ask_45 ?_
        refine r_aload_n hc 0 dX6_ask_46 rfl ?_
        refine gf_X6_2 hc lf_X6_30 dX6_ask_47 ?_
        refine gf_X3_4 hc kH_33 lf_X6_181 dX6_ask_50 ?_
        refine r_iload_n hc 1 dX6_ask_53 rfl ?_
        obtain ⟨hi_5, h⟩ := h
        refine r_iald hc kia_38 hi_5 dX6_ask_54 ?_
        refine r_callVv (d := 0) hc (m_X1_begin h) cw_X1_begin wi_X1_begin ws_X1_begin lm_X6_272 (by decide) (by decide) rv_X1 rfl rfl (Nat.le_of_ble_eq_true rfl) dX6_ask_55 (fun σ_6 h => ?_)
        refine r_iload_n hc 2 dX6_ask_58 rfl ?_
        refine r_if_ne hc 72 dX6_ask_59 (by decide) (fun q => ?_) (fun q => ?_)
        · have h := kif_t h q
          refine r_aload_n hc 0 dX6_ask_62 rfl ?_
          refine gf_X6_7 hc lf_X6_56 dX6_ask_63 ?_
          refine r_callVi (d := 5) hc (m_X1_sizeOfOne h) cw_X1_sizeOfOne wi_X1_sizeOfOne ws_X1_sizeOfOne lm_X6_275 (by decide) (by decide) rv_X1 rfl rfl (Nat.le_of_ble_eq_true rfl) dX6_ask_66 (fun r_9 σ_8 h => ?_)
          refine r_goto hc 79 dX6_ask_69 (by decide) ?_
          exact r_iret (ls0 := []) hZ dX6_ask_79 h
        · have h := kif_f h q
          refine r_aload_n hc 0 dX6_ask_72 rfl ?_
          refine gf_X6_7 hc lf_X6_56 dX6_ask_73 ?_
          refine r_callVi (d := 5) hc (m_X1_markOfOne h) cw_X1_markOfOne wi_X1_markOfOne ws_X1_markOfOne lm_X6_278 (by decide) (by decide) rv_X1 rfl rfl (Nat.le_of_ble_eq_true rfl) dX6_ask_76 (fun r_11 σ_10 h => ?_)
          exact r_iret (ls0 := []) hZ dX6_ask_79 h
      · have h := kif_f h q
        refine r_ldc hc lk_X6_67 dX6_ask_20 ?_
        exact r_iret (ls0 := []) hZ dX6_ask_22 h
theorem m_X6_ask {l : Launch} {g : kG} {N : Nat} {σ : kS} {x1 : Int32} {x2 : Int32} {Q : Int32 → kS → Prop} (h : w_X6_ask N σ x1 x2 Q) : kMi l g yX6_ask cX6_ask 3 (some .int) 6 [kz g 0, .int x1, .int x2] σ Q :=
  k_met_i (by decide +kernel) rfl (Nat.le_of_ble_eq_true rfl) (fun X hl hc hZ => s_X6_ask hc hZ h)
def w_X6_trace (N : Nat) (σ : kS) (x1 : Int32) (Q : Int32 → kS → Prop) : Prop :=
  if x1 < 0 then (Q (-1000000) σ) else (if (σ 53 1) ≤ x1 then (Q (-1000000) σ) else (vp_in x1 16 ∧ (Q (σ 54 x1.toNatClampNeg) σ)))
set_option maxHeartbeats 4000000 in
set_option maxRecDepth 100000 in
theorem s_X6_trace {X : kX} {g : kG} {N : Nat} {Q : Int32 → kS → Prop} (hc : kOk X g RX6 cX6_trace 2 (some .int) 0) (hZ : kRi X g cX6_trace Q) {σ : kS} {x1 : Int32} (h : w_X6_trace N σ x1 Q) : kP X g 2 0 [(0, kz g 0), (1, .int x1)] [] σ := by
  unfold w_X6_trace at h
  refine r_iload_n hc 1 dX6_trace_0 rfl ?_
  refine r_if_lt hc 27 dX6_trace_1 (by decide) (fun q => ?_) (fun q => ?_)
  · have h := kif_t h q
    refine r_ldc hc lk_X6_180 dX6_trace_27 ?_
    exact r_iret (ls0 := []) hZ dX6_trace_29 h
  · have h := kif_f h q
    refine r_iload_n hc 1 dX6_trace_4 rfl ?_
    refine r_aload_n hc 0 dX6_trace_5 rfl ?_
    refine gf_X6_7 hc lf_X6_56 dX6_trace_6 ?_
    refine gf_X1_1 hc lf_X6_281 dX6_trace_9 ?_
    refine r_ic_ge hc 27 dX6_trace_12 (by decide) (fun q => ?_) (fun q => ?_)
    · have h := kif_t h q
      refine r_ldc hc lk_X6_180 dX6_trace_27 ?_
      exact r_iret (ls0 := []) hZ dX6_trace_29 h
    · have h := kif_f h q
      refine r_aload_n hc 0 dX6_trace_15 rfl ?_
      refine gf_X6_7 hc lf_X6_56 dX6_trace_16 ?_
      refine gf_X1_0 hc lf_X6_284 dX6_trace_19 ?_
      refine r_iload_n hc 1 dX6_trace_22 rfl ?_
      obtain ⟨hi_1, h⟩ := h
      refine r_iald hc kia_54 hi_1 dX6_trace_23 ?_
      refine r_goto hc 29 dX6_trace_24 (by decide) ?_
      exact r_iret (ls0 := []) hZ dX6_trace_29 h
theorem m_X6_trace {l : Launch} {g : kG} {N : Nat} {σ : kS} {x1 : Int32} {Q : Int32 → kS → Prop} (h : w_X6_trace N σ x1 Q) : kMi l g yX6_trace cX6_trace 2 (some .int) 0 [kz g 0, .int x1] σ Q :=
  k_met_i (by decide +kernel) rfl (Nat.le_of_ble_eq_true rfl) (fun X hl hc hZ => s_X6_trace hc hZ h)
def b_X6_rowsThere_4 (N : Nat) (Q : Int32 → kS → Prop) (K : Int32 → Int32 → kS → Prop) (x1 : Int32) (x2 : Int32) (σ : kS) : Prop :=
  if 8 ≤ x2 then (Q x1 σ) else (vp_in x2 8 ∧ (w_X4_isMissing N σ (2 + 2 * x2.toNatClampNeg) (fun (r_3 : Int32) (σ_2 : kS) => if r_3 = 0 then (∀ x1_4 : Int32, x1_4 = x1 + 1 → (∀ x2_5 : Int32, x2_5 = x2 + 1 → (K x1_4 x2_5 σ_2))) else (∀ x2_6 : Int32, x2_6 = x2 + 1 → (K x1 x2_6 σ_2)))))
def l_X6_rowsThere_4 (N : Nat) (Q : Int32 → kS → Prop) : Nat → Int32 → Int32 → kS → Prop
  | 0 => fun _ _ _ => False
  | n + 1 => b_X6_rowsThere_4 N Q (l_X6_rowsThere_4 N Q n)
set_option maxHeartbeats 4000000 in
set_option maxRecDepth 100000 in
theorem sb_X6_rowsThere_4 {X : kX} {g : kG} {N : Nat} {Q : Int32 → kS → Prop} (hc : kOk X g RX6 cX6_rowsThere 3 (some .int) 1) (hZ : kRi X g cX6_rowsThere Q) {K : Int32 → Int32 → kS → Prop} (hK : ∀ (x1 : Int32) (x2 : Int32) (τ : kS), K x1 x2 τ → kP X g 3 4 [(0, kz g 0), (1, .int x1), (2, .int x2)] [] τ) {x1 : Int32} {x2 : Int32} {σ : kS} (h : b_X6_rowsThere_4 N Q K x1 x2 σ) : kP X g 3 4 [(0, kz g 0), (1, .int x1), (2, .int x2)] [] σ := by
  unfold b_X6_rowsThere_4 at h
  refine r_iload_n hc 2 dX6_rowsThere_4 rfl ?_
  refine r_bipush (v := 8) hc dX6_rowsThere_5 rfl ?_
  refine r_ic_ge hc 31 dX6_rowsThere_7 (by decide) (fun q => ?_) (fun q => ?_)
  · have h := kif_t h q
    refine r_iload_n hc 1 dX6_rowsThere_31 rfl ?_
    exact r_iret (ls0 := []) hZ dX6_rowsThere_32 h
  · have h := kif_f h q
    refine r_aload_n hc 0 dX6_rowsThere_10 rfl ?_
    refine gf_X6_0 hc lf_X6_11 dX6_rowsThere_11 ?_
    refine r_iload_n hc 2 dX6_rowsThere_14 rfl ?_
    obtain ⟨hi_1, h⟩ := h
    refine r_rows hc hi_1 dX6_rowsThere_15 ?_
    refine r_callVi (d := 0) hc (m_X4_isMissing (kRow_at hi_1) h) cw_X4_isMissing wi_X4_isMissing ws_X4_isMissing lm_X6_79 (by decide) (by decide) (rv_X4 (kRow_at hi_1)) rfl rfl (Nat.le_of_ble_eq_true rfl) dX6_rowsThere_16 (fun r_3 σ_2 h => ?_)
    refine r_if_ne hc 25 dX6_rowsThere_19 (by decide) (fun q => ?_) (fun q => ?_)
    · have h := kif_t h q
      obtain ⟨x1_4, ex1_4⟩ : ∃ v : Int32, v = x1 + 1 := ⟨_, rfl⟩
      have h := h x1_4 ex1_4
      refine r_iinc (v := x1_4) hc 1 [(1, .int x1_4), (0, kz g 0), (2, .int x2)] dX6_rowsThere_22 rfl (by rw [ex1_4]; rfl) (by decide) rfl ?_
      obtain ⟨x2_5, ex2_5⟩ : ∃ v : Int32, v = x2 + 1 := ⟨_, rfl⟩
      have h := h x2_5 ex2_5
      refine r_iinc (v := x2_5) hc 2 [(2, .int x2_5), (1, .int x1_4), (0, kz g 0)] dX6_rowsThere_25 rfl (by rw [ex2_5]; rfl) (by decide) rfl ?_
      refine r_goto hc 4 dX6_rowsThere_28 (by decide) ?_
      refine r_sub [2, 1, 0] rfl ?_
      exact hK _ _ _ h
    · have h := kif_f h q
      obtain ⟨x2_6, ex2_6⟩ : ∃ v : Int32, v = x2 + 1 := ⟨_, rfl⟩
      have h := h x2_6 ex2_6
      refine r_iinc (v := x2_6) hc 2 [(2, .int x2_6), (0, kz g 0), (1, .int x1)] dX6_rowsThere_25 rfl (by rw [ex2_6]; rfl) (by decide) rfl ?_
      refine r_goto hc 4 dX6_rowsThere_28 (by decide) ?_
      refine r_sub [1, 2, 0] rfl ?_
      exact hK _ _ _ h
theorem sl_X6_rowsThere_4 {X : kX} {g : kG} {N : Nat} {Q : Int32 → kS → Prop} (hc : kOk X g RX6 cX6_rowsThere 3 (some .int) 1) (hZ : kRi X g cX6_rowsThere Q) : ∀ (n : Nat) (x1 : Int32) (x2 : Int32) (σ : kS), l_X6_rowsThere_4 N Q n x1 x2 σ → kP X g 3 4 [(0, kz g 0), (1, .int x1), (2, .int x2)] [] σ := by
  intro n
  induction n with
  | zero => intro x1 x2 σ h; exact h.elim
  | succ n ih => intro x1 x2 σ h; exact sb_X6_rowsThere_4 hc hZ ih h
def w_X6_rowsThere (N : Nat) (σ : kS) (Q : Int32 → kS → Prop) : Prop :=
  l_X6_rowsThere_4 N Q  N 0 0 σ
set_option maxHeartbeats 4000000 in
set_option maxRecDepth 100000 in
theorem s_X6_rowsThere {X : kX} {g : kG} {N : Nat} {Q : Int32 → kS → Prop} (hc : kOk X g RX6 cX6_rowsThere 3 (some .int) 1) (hZ : kRi X g cX6_rowsThere Q) {σ : kS} (h : w_X6_rowsThere N σ Q) : kP X g 3 0 [(0, kz g 0)] [] σ := by
  unfold w_X6_rowsThere at h
  refine r_iconst (v := 0) hc dX6_rowsThere_0 rfl ?_
  refine r_istore_n hc [(1, .int 0), (0, kz g 0)] dX6_rowsThere_1 (by decide) rfl ?_
  refine r_iconst (v := 0) hc dX6_rowsThere_2 rfl ?_
  refine r_istore_n hc [(2, .int 0), (1, .int 0), (0, kz g 0)] dX6_rowsThere_3 (by decide) rfl ?_
  refine r_sub [2, 1, 0] rfl ?_
  refine sl_X6_rowsThere_4 hc hZ _ _ _ _ h
theorem m_X6_rowsThere {l : Launch} {g : kG} {N : Nat} {σ : kS} {Q : Int32 → kS → Prop} (h : w_X6_rowsThere N σ Q) : kMi l g yX6_rowsThere cX6_rowsThere 3 (some .int) 1 [kz g 0] σ Q :=
  k_met_i (by decide +kernel) rfl (Nat.le_of_ble_eq_true rfl) (fun X hl hc hZ => s_X6_rowsThere hc hZ h)
def w_X6_count (N : Nat) (σ : kS) (x1 : Int32) (Q : Int32 → kS → Prop) : Prop :=
  if x1 = 0 then (w_X6_rowsThere N σ (fun (r_2 : Int32) (σ_1 : kS) => Q r_2 σ_1)) else (if x1 = 1 then (Q (σ 33 5) σ) else (if x1 = 2 then (Q (σ 33 6) σ) else (if x1 = 3 then (Q (σ 33 7) σ) else (if x1 = 4 then (Q (σ 33 9) σ) else (if x1 = 5 then (Q (σ 33 10) σ) else (if x1 = 6 then (Q (σ 33 8) σ) else (if x1 = 7 then (Q (σ 45 4) σ) else (if x1 = 8 then (Q (σ 31 3) σ) else (Q (-1000001) σ)))))))))
set_option maxHeartbeats 4000000 in
set_option maxRecDepth 100000 in
theorem s_X6_count {X : kX} {g : kG} {N : Nat} {Q : Int32 → kS → Prop} (hc : kOk X g RX6 cX6_count 2 (some .int) 2) (hZ : kRi X g cX6_count Q) {σ : kS} {x1 : Int32} (h : w_X6_count N σ x1 Q) : kP X g 2 0 [(0, kz g 0), (1, .int x1)] [] σ := by
  unfold w_X6_count at h
  refine r_iload_n hc 1 dX6_count_0 rfl ?_
  by_cases q_3 : x1 = 0
  · have h := kif_t h q_3
    refine r_tabIn hc 52 dX6_count_1 (by rw [q_3]; decide) (by rw [q_3]; decide) (by rw [q_3] <;> rfl) (by decide) ?_
    refine r_aload_n hc 0 dX6_count_52 rfl ?_
    refine r_callVi (d := 1) hc (m_X6_rowsThere h) cw_X6_rowsThere wi_X6_rowsThere ws_X6_rowsThere lm_X6_287 (by decide) (by decide) rv_X6 rfl rfl (Nat.le_of_ble_eq_true rfl) dX6_count_53 (fun r_2 σ_1 h => ?_)
    exact r_iret (ls0 := []) hZ dX6_count_56 h
  have h := kif_f h q_3
  have zq_3 : x1.toInt ≠ 0 := ktne q_3
  by_cases q_4 : x1 = 1
  · have h := kif_t h q_4
    refine r_tabIn hc 57 dX6_count_1 (by rw [q_4]; decide) (by rw [q_4]; decide) (by rw [q_4] <;> rfl) (by decide) ?_
    refine r_aload_n hc 0 dX6_count_57 rfl ?_
    refine gf_X6_2 hc lf_X6_30 dX6_count_58 ?_
    refine gf_X3_5 hc kH_33 lf_X6_199 dX6_count_61 ?_
    exact r_iret (ls0 := []) hZ dX6_count_64 h
  have h := kif_f h q_4
  have zq_4 : x1.toInt ≠ 1 := ktne q_4
  by_cases q_5 : x1 = 2
  · have h := kif_t h q_5
    refine r_tabIn hc 65 dX6_count_1 (by rw [q_5]; decide) (by rw [q_5]; decide) (by rw [q_5] <;> rfl) (by decide) ?_
    refine r_aload_n hc 0 dX6_count_65 rfl ?_
    refine gf_X6_2 hc lf_X6_30 dX6_count_66 ?_
    refine gf_X3_6 hc kH_33 lf_X6_290 dX6_count_69 ?_
    exact r_iret (ls0 := []) hZ dX6_count_72 h
  have h := kif_f h q_5
  have zq_5 : x1.toInt ≠ 2 := ktne q_5
  by_cases q_6 : x1 = 3
  · have h := kif_t h q_6
    refine r_tabIn hc 73 dX6_count_1 (by rw [q_6]; decide) (by rw [q_6]; decide) (by rw [q_6] <;> rfl) (by decide) ?_
    refine r_aload_n hc 0 dX6_count_73 rfl ?_
    refine gf_X6_2 hc lf_X6_30 dX6_count_74 ?_
    refine gf_X3_7 hc kH_33 lf_X6_152 dX6_count_77 ?_
    exact r_iret (ls0 := []) hZ dX6_count_80 h
  have h := kif_f h q_6
  have zq_6 : x1.toInt ≠ 3 := ktne q_6
  by_cases q_7 : x1 = 4
  · have h := kif_t h q_7
    refine r_tabIn hc 81 dX6_count_1 (by rw [q_7]; decide) (by rw [q_7]; decide) (by rw [q_7] <;> rfl) (by decide) ?_
    refine r_aload_n hc 0 dX6_count_81 rfl ?_
    refine gf_X6_2 hc lf_X6_30 dX6_count_82 ?_
    refine gf_X3_9 hc kH_33 lf_X6_293 dX6_count_85 ?_
    exact r_iret (ls0 := []) hZ dX6_count_88 h
  have h := kif_f h q_7
  have zq_7 : x1.toInt ≠ 4 := ktne q_7
  by_cases q_8 : x1 = 5
  · have h := kif_t h q_8
    refine r_tabIn hc 89 dX6_count_1 (by rw [q_8]; decide) (by rw [q_8]; decide) (by rw [q_8] <;> rfl) (by decide) ?_
    refine r_aload_n hc 0 dX6_count_89 rfl ?_
    refine gf_X6_2 hc lf_X6_30 dX6_count_90 ?_
    refine gf_X3_10 hc kH_33 lf_X6_133 dX6_count_93 ?_
    exact r_iret (ls0 := []) hZ dX6_count_96 h
  have h := kif_f h q_8
  have zq_8 : x1.toInt ≠ 5 := ktne q_8
  by_cases q_9 : x1 = 6
  · have h := kif_t h q_9
    refine r_tabIn hc 97 dX6_count_1 (by rw [q_9]; decide) (by rw [q_9]; decide) (by rw [q_9] <;> rfl) (by decide) ?_
    refine r_aload_n hc 0 dX6_count_97 rfl ?_
    refine gf_X6_2 hc lf_X6_30 dX6_count_98 ?_
    refine gf_X3_8 hc kH_33 lf_X6_149 dX6_count_101 ?_
    exact r_iret (ls0 := []) hZ dX6_count_104 h
  have h := kif_f h q_9
  have zq_9 : x1.toInt ≠ 6 := ktne q_9
  by_cases q_10 : x1 = 7
  · have h := kif_t h q_10
    refine r_tabIn hc 105 dX6_count_1 (by rw [q_10]; decide) (by rw [q_10]; decide) (by rw [q_10] <;> rfl) (by decide) ?_
    refine r_aload_n hc 0 dX6_count_105 rfl ?_
    refine gf_X6_5 hc lf_X6_40 dX6_count_106 ?_
    refine gf_X0_4 hc lf_X6_139 dX6_count_109 ?_
    exact r_iret (ls0 := []) hZ dX6_count_112 h
  have h := kif_f h q_10
  have zq_10 : x1.toInt ≠ 7 := ktne q_10
  by_cases q_11 : x1 = 8
  · have h := kif_t h q_11
    refine r_tabIn hc 113 dX6_count_1 (by rw [q_11]; decide) (by rw [q_11]; decide) (by rw [q_11] <;> rfl) (by decide) ?_
    refine r_aload_n hc 0 dX6_count_113 rfl ?_
    refine gf_X6_1 hc lf_X6_26 dX6_count_114 ?_
    refine gf_X5_3 hc lf_X6_296 dX6_count_117 ?_
    exact r_iret (ls0 := []) hZ dX6_count_120 h
  have h := kif_f h q_11
  have zq_11 : x1.toInt ≠ 8 := ktne q_11
  refine r_tabOut hc 121 dX6_count_1 (by omega) (by decide) ?_
  refine r_ldc hc lk_X6_67 dX6_count_121 ?_
  exact r_iret (ls0 := []) hZ dX6_count_123 h
theorem m_X6_count {l : Launch} {g : kG} {N : Nat} {σ : kS} {x1 : Int32} {Q : Int32 → kS → Prop} (h : w_X6_count N σ x1 Q) : kMi l g yX6_count cX6_count 2 (some .int) 2 [kz g 0, .int x1] σ Q :=
  k_met_i (by decide +kernel) rfl (Nat.le_of_ble_eq_true rfl) (fun X hl hc hZ => s_X6_count hc hZ h)
def w_X6_status (N : Nat) (σ : kS) (Q : Int32 → kS → Prop) : Prop :=
  Q (σ 0 8) σ
set_option maxHeartbeats 4000000 in
set_option maxRecDepth 100000 in
theorem s_X6_status {X : kX} {g : kG} {N : Nat} {Q : Int32 → kS → Prop} (hc : kOk X g RX6 cX6_status 1 (some .int) 0) (hZ : kRi X g cX6_status Q) {σ : kS} (h : w_X6_status N σ Q) : kP X g 1 0 [(0, kz g 0)] [] σ := by
  unfold w_X6_status at h
  refine r_aload_n hc 0 dX6_status_0 rfl ?_
  refine gf_X6_8 hc lf_X6_299 dX6_status_1 ?_
  exact r_iret (ls0 := []) hZ dX6_status_4 h
theorem m_X6_status {l : Launch} {g : kG} {N : Nat} {σ : kS} {Q : Int32 → kS → Prop} (h : w_X6_status N σ Q) : kMi l g yX6_status cX6_status 1 (some .int) 0 [kz g 0] σ Q :=
  k_met_i (by decide +kernel) rfl (Nat.le_of_ble_eq_true rfl) (fun X hl hc hZ => s_X6_status hc hZ h)
