def w_X0_clear (N : Nat) (σ : kS) (Q : kS → Prop) : Prop :=
  ∀ σ_1 : kS, σ_1 = st2 σ 45 4 0 → (Q σ_1)
set_option maxHeartbeats 4000000 in
set_option maxRecDepth 100000 in
theorem s_X0_clear {X : kX} {g : kG} {N : Nat} {Q : kS → Prop} (hc : kOk X g RX0 cX0_clear 1 none 0) (hZ : kRw X g cX0_clear Q) {σ : kS} (h : w_X0_clear N σ Q) : kP X g 1 0 [(0, kz g 45)] [] σ := by
  unfold w_X0_clear at h
  refine r_aload_n hc 0 dX0_clear_0 rfl ?_
  refine r_iconst (v := 0) hc dX0_clear_1 rfl ?_
  refine pf_X0_4 hc lf_X0_19 dX0_clear_2 ?_
  refine r_nmS (fun σ_1 eσ_1 => ?_)
  have h := h σ_1 eσ_1
  exact r_vret (ls0 := []) hZ dX0_clear_5 h
theorem m_X0_clear {l : Launch} {g : kG} {N : Nat} {σ : kS} {Q : kS → Prop} (h : w_X0_clear N σ Q) : kMv l g yX0_clear cX0_clear 1 none 0 [kz g 45] σ Q :=
  k_met_v (by decide +kernel) rfl (Nat.le_of_ble_eq_true rfl) (fun X hl hc hZ => s_X0_clear hc hZ h)
def w_X0_keep (N : Nat) (σ : kS) (x1 : Int32) (x2 : Int32) (x3 : Int32) (Q : kS → Prop) : Prop :=
  vp_in (σ 45 3) 24 ∧ (∀ σ_2 : kS, σ_2 = st2 σ 46 ((σ 45 3).toNatClampNeg) x1 → (vp_in (σ_2 45 3) 24 ∧ (∀ σ_4 : kS, σ_4 = st2 σ_2 47 ((σ_2 45 3).toNatClampNeg) x2 → (vp_in (σ_4 45 3) 24 ∧ (∀ σ_6 : kS, σ_6 = st2 σ_4 48 ((σ_4 45 3).toNatClampNeg) x3 → (¬ (24 : Int32) = 0 ∧ (∀ σ_8 : kS, σ_8 = st2 σ_6 45 3 (krem ((σ_6 45 3) + 1) 24) → (∀ σ_9 : kS, σ_9 = st2 σ_8 45 4 (kmin ((σ_8 45 4) + 1) 24) → (Q σ_9)))))))))
set_option maxHeartbeats 4000000 in
set_option maxRecDepth 100000 in
theorem s_X0_keep {X : kX} {g : kG} {N : Nat} {Q : kS → Prop} (hc : kOk X g RX0 cX0_keep 4 none 1) (hZ : kRw X g cX0_keep Q) {σ : kS} {x1 : Int32} {x2 : Int32} {x3 : Int32} (h : w_X0_keep N σ x1 x2 x3 Q) : kP X g 4 0 [(0, kz g 45), (1, .int x1), (2, .int x2), (3, .int x3)] [] σ := by
  unfold w_X0_keep at h
  refine r_aload_n hc 0 dX0_keep_0 rfl ?_
  refine gf_X0_0 hc lf_X0_9 dX0_keep_1 ?_
  refine r_aload_n hc 0 dX0_keep_4 rfl ?_
  refine gf_X0_3 hc lf_X0_23 dX0_keep_5 ?_
  refine r_iload_n hc 1 dX0_keep_8 rfl ?_
  obtain ⟨hi_1, h⟩ := h
  refine r_iast hc kia_46 hi_1 dX0_keep_9 ?_
  refine r_nmS (fun σ_2 eσ_2 => ?_)
  have h := h σ_2 eσ_2
  refine r_aload_n hc 0 dX0_keep_10 rfl ?_
  refine gf_X0_1 hc lf_X0_13 dX0_keep_11 ?_
  refine r_aload_n hc 0 dX0_keep_14 rfl ?_
  refine gf_X0_3 hc lf_X0_23 dX0_keep_15 ?_
  refine r_iload_n hc 2 dX0_keep_18 rfl ?_
  obtain ⟨hi_3, h⟩ := h
  refine r_iast hc kia_47 hi_3 dX0_keep_19 ?_
  refine r_nmS (fun σ_4 eσ_4 => ?_)
  have h := h σ_4 eσ_4
  refine r_aload_n hc 0 dX0_keep_20 rfl ?_
  refine gf_X0_2 hc lf_X0_16 dX0_keep_21 ?_
  refine r_aload_n hc 0 dX0_keep_24 rfl ?_
  refine gf_X0_3 hc lf_X0_23 dX0_keep_25 ?_
  refine r_iload_n hc 3 dX0_keep_28 rfl ?_
  obtain ⟨hi_5, h⟩ := h
  refine r_iast hc kia_48 hi_5 dX0_keep_29 ?_
  refine r_nmS (fun σ_6 eσ_6 => ?_)
  have h := h σ_6 eσ_6
  refine r_aload_n hc 0 dX0_keep_30 rfl ?_
  refine r_aload_n hc 0 dX0_keep_31 rfl ?_
  refine gf_X0_3 hc lf_X0_23 dX0_keep_32 ?_
  refine r_iconst (v := 1) hc dX0_keep_35 rfl ?_
  refine r_iadd hc dX0_keep_36 ?_
  refine r_bipush (v := 24) hc dX0_keep_37 rfl ?_
  obtain ⟨hn_7, h⟩ := h
  refine r_irem hc dX0_keep_39 hn_7 ?_
  refine pf_X0_3 hc lf_X0_23 dX0_keep_40 ?_
  refine r_nmS (fun σ_8 eσ_8 => ?_)
  have h := h σ_8 eσ_8
  refine r_aload_n hc 0 dX0_keep_43 rfl ?_
  refine r_aload_n hc 0 dX0_keep_44 rfl ?_
  refine gf_X0_4 hc lf_X0_19 dX0_keep_45 ?_
  refine r_iconst (v := 1) hc dX0_keep_48 rfl ?_
  refine r_iadd hc dX0_keep_49 ?_
  refine r_bipush (v := 24) hc dX0_keep_50 rfl ?_
  refine r_mmin hc lm_X0_26 (by decide) (Nat.le_of_ble_eq_true rfl) dX0_keep_52 ?_
  refine pf_X0_4 hc lf_X0_19 dX0_keep_55 ?_
  refine r_nmS (fun σ_9 eσ_9 => ?_)
  have h := h σ_9 eσ_9
  exact r_vret (ls0 := []) hZ dX0_keep_58 h
theorem m_X0_keep {l : Launch} {g : kG} {N : Nat} {σ : kS} {x1 : Int32} {x2 : Int32} {x3 : Int32} {Q : kS → Prop} (h : w_X0_keep N σ x1 x2 x3 Q) : kMv l g yX0_keep cX0_keep 4 none 1 [kz g 45, .int x1, .int x2, .int x3] σ Q :=
  k_met_v (by decide +kernel) rfl (Nat.le_of_ble_eq_true rfl) (fun X hl hc hZ => s_X0_keep hc hZ h)
def w_X0_takeBack (N : Nat) (σ : kS) (a1 : Nat) (Q : kS → Prop) : Prop :=
  ¬ (24 : Int32) = 0 ∧ (∀ σ_2 : kS, σ_2 = st2 σ 45 3 (krem (((σ 45 3) + 24) - 1) 24) → (∀ σ_3 : kS, σ_3 = st2 σ_2 45 4 ((σ_2 45 4) - 1) → (vp_in (σ_3 45 3) 24 ∧ (if (σ_3 46 (σ_3 45 3).toNatClampNeg) = 2 then (vp_in (σ_3 45 3) 24 ∧ (vp_in (σ_3 45 3) 24 ∧ (vp_in (σ_3 47 (σ_3 45 3).toNatClampNeg) 5 ∧ (∀ σ_8 : kS, σ_8 = st2 σ_3 (a1 + 4) ((σ_3 47 (σ_3 45 3).toNatClampNeg).toNatClampNeg) (σ_3 48 (σ_3 45 3).toNatClampNeg) → (Q σ_8))))) else (vp_in (σ_3 45 3) 24 ∧ (∀ σ_10 : kS, σ_10 = st2 σ_3 a1 7 (σ_3 48 (σ_3 45 3).toNatClampNeg) → (vp_in (σ_10 45 3) 24 ∧ (if (σ_10 46 (σ_10 45 3).toNatClampNeg) = 0 then (∀ σ_12 : kS, σ_12 = st2 σ_10 a1 8 ((σ_10 a1 8) - 1) → (Q σ_12)) else (Q σ_10)))))))))
set_option maxHeartbeats 4000000 in
set_option maxRecDepth 100000 in
theorem s_X0_takeBack {X : kX} {g : kG} {N : Nat} {Q : kS → Prop} {a1 : Nat} (hc : kOk X g RX0 cX0_takeBack 2 none 0) (hZ : kRw X g cX0_takeBack Q) (ha1 : kHall a1) {σ : kS} (h : w_X0_takeBack N σ a1 Q) : kP X g 2 0 [(0, kz g 45), (1, kz g a1)] [] σ := by
  unfold w_X0_takeBack at h
  refine r_aload_n hc 0 dX0_takeBack_0 rfl ?_
  refine r_aload_n hc 0 dX0_takeBack_1 rfl ?_
  refine gf_X0_3 hc lf_X0_23 dX0_takeBack_2 ?_
  refine r_bipush (v := 24) hc dX0_takeBack_5 rfl ?_
  refine r_iadd hc dX0_takeBack_7 ?_
  refine r_iconst (v := 1) hc dX0_takeBack_8 rfl ?_
  refine r_isub hc dX0_takeBack_9 ?_
  refine r_bipush (v := 24) hc dX0_takeBack_10 rfl ?_
  obtain ⟨hn_1, h⟩ := h
  refine r_irem hc dX0_takeBack_12 hn_1 ?_
  refine pf_X0_3 hc lf_X0_23 dX0_takeBack_13 ?_
  refine r_nmS (fun σ_2 eσ_2 => ?_)
  have h := h σ_2 eσ_2
  refine r_aload_n hc 0 dX0_takeBack_16 rfl ?_
  refine r_dup hc dX0_takeBack_17 rfl ?_
  refine gf_X0_4 hc lf_X0_19 dX0_takeBack_18 ?_
  refine r_iconst (v := 1) hc dX0_takeBack_21 rfl ?_
  refine r_isub hc dX0_takeBack_22 ?_
  refine pf_X0_4 hc lf_X0_19 dX0_takeBack_23 ?_
  refine r_nmS (fun σ_3 eσ_3 => ?_)
  have h := h σ_3 eσ_3
  refine r_aload_n hc 0 dX0_takeBack_26 rfl ?_
  refine gf_X0_0 hc lf_X0_9 dX0_takeBack_27 ?_
  refine r_aload_n hc 0 dX0_takeBack_30 rfl ?_
  refine gf_X0_3 hc lf_X0_23 dX0_takeBack_31 ?_
  obtain ⟨hi_4, h⟩ := h
  refine r_iald hc kia_46 hi_4 dX0_takeBack_34 ?_
  refine r_iconst (v := 2) hc dX0_takeBack_35 rfl ?_
  refine r_ic_ne hc 63 dX0_takeBack_36 (by decide) (fun q => ?_) (fun q => ?_)
  · have h := kif_t h q
    refine r_aload_n hc 1 dX0_takeBack_39 rfl ?_
    refine gf_X3_3 hc ha1 lf_X0_32 dX0_takeBack_40 ?_
    refine r_aload_n hc 0 dX0_takeBack_43 rfl ?_
    refine gf_X0_1 hc lf_X0_13 dX0_takeBack_44 ?_
    refine r_aload_n hc 0 dX0_takeBack_47 rfl ?_
    refine gf_X0_3 hc lf_X0_23 dX0_takeBack_48 ?_
    obtain ⟨hi_5, h⟩ := h
    refine r_iald hc kia_47 hi_5 dX0_takeBack_51 ?_
    refine r_aload_n hc 0 dX0_takeBack_52 rfl ?_
    refine gf_X0_2 hc lf_X0_16 dX0_takeBack_53 ?_
    refine r_aload_n hc 0 dX0_takeBack_56 rfl ?_
    refine gf_X0_3 hc lf_X0_23 dX0_takeBack_57 ?_
    obtain ⟨hi_6, h⟩ := h
    refine r_iald hc kia_48 hi_6 dX0_takeBack_60 ?_
    obtain ⟨hi_7, h⟩ := h
    refine r_iast hc (kia_Hall_4 ha1) hi_7 dX0_takeBack_61 ?_
    refine r_nmS (fun σ_8 eσ_8 => ?_)
    have h := h σ_8 eσ_8
    exact r_vret (ls0 := []) hZ dX0_takeBack_62 h
  · have h := kif_f h q
    refine r_aload_n hc 1 dX0_takeBack_63 rfl ?_
    refine r_aload_n hc 0 dX0_takeBack_64 rfl ?_
    refine gf_X0_2 hc lf_X0_16 dX0_takeBack_65 ?_
    refine r_aload_n hc 0 dX0_takeBack_68 rfl ?_
    refine gf_X0_3 hc lf_X0_23 dX0_takeBack_69 ?_
    obtain ⟨hi_9, h⟩ := h
    refine r_iald hc kia_48 hi_9 dX0_takeBack_72 ?_
    refine pf_X3_7 hc ha1 lf_X0_37 dX0_takeBack_73 ?_
    refine r_nmS (fun σ_10 eσ_10 => ?_)
    have h := h σ_10 eσ_10
    refine r_aload_n hc 0 dX0_takeBack_76 rfl ?_
    refine gf_X0_0 hc lf_X0_9 dX0_takeBack_77 ?_
    refine r_aload_n hc 0 dX0_takeBack_80 rfl ?_
    refine gf_X0_3 hc lf_X0_23 dX0_takeBack_81 ?_
    obtain ⟨hi_11, h⟩ := h
    refine r_iald hc kia_46 hi_11 dX0_takeBack_84 ?_
    refine r_if_ne hc 98 dX0_takeBack_85 (by decide) (fun q => ?_) (fun q => ?_)
    · have h := kif_t h q
      refine r_aload_n hc 1 dX0_takeBack_88 rfl ?_
      refine r_dup hc dX0_takeBack_89 rfl ?_
      refine gf_X3_8 hc ha1 lf_X0_40 dX0_takeBack_90 ?_
      refine r_iconst (v := 1) hc dX0_takeBack_93 rfl ?_
      refine r_isub hc dX0_takeBack_94 ?_
      refine pf_X3_8 hc ha1 lf_X0_40 dX0_takeBack_95 ?_
      refine r_nmS (fun σ_12 eσ_12 => ?_)
      have h := h σ_12 eσ_12
      exact r_vret (ls0 := []) hZ dX0_takeBack_98 h
    · have h := kif_f h q
      exact r_vret (ls0 := []) hZ dX0_takeBack_98 h
theorem m_X0_takeBack {l : Launch} {g : kG} {N : Nat} {σ : kS} {a1 : Nat} {Q : kS → Prop} (ha1 : kHall a1) (h : w_X0_takeBack N σ a1 Q) : kMv l g yX0_takeBack cX0_takeBack 2 none 0 [kz g 45, kz g a1] σ Q :=
  k_met_v (by decide +kernel) rfl (Nat.le_of_ble_eq_true rfl) (fun X hl hc hZ => s_X0_takeBack hc hZ ha1 h)
def w_X1_isOfKind (N : Nat) (σ : kS) (x0 : Int32) (x1 : Int32) (Q : Int32 → kS → Prop) : Prop :=
  if x1 = 0 then (Q 1 σ) else (if x0 = x1 then (Q 1 σ) else (if x0 < 0 then (Q 0 σ) else (if 5 < x0 then (Q 0 σ) else (vp_in x0 6 ∧ (if (kabv x0.toNatClampNeg) = x1 then (Q 1 σ) else (Q 0 σ))))))
set_option maxHeartbeats 4000000 in
set_option maxRecDepth 100000 in
theorem s_X1_isOfKind {X : kX} {g : kG} {N : Nat} {Q : Int32 → kS → Prop} (hc : kOk X g RX1 cX1_isOfKind 2 (some .boolean) 0) (hZ : kRz X g cX1_isOfKind Q) {σ : kS} {x0 : Int32} {x1 : Int32} (h : w_X1_isOfKind N σ x0 x1 Q) : kP X g 2 0 [(0, .int x0), (1, .int x1)] [] σ := by
  unfold w_X1_isOfKind at h
  refine r_iload_n hc 1 dX1_isOfKind_0 rfl ?_
  refine r_if_eq hc 9 dX1_isOfKind_1 (by decide) (fun q => ?_) (fun q => ?_)
  · have h := kif_t h q
    refine r_iconst (v := 1) hc dX1_isOfKind_9 rfl ?_
    exact r_zret (ls0 := []) hZ dX1_isOfKind_10 (Or.inr rfl) h
  · have h := kif_f h q
    refine r_iload_n hc 0 dX1_isOfKind_4 rfl ?_
    refine r_iload_n hc 1 dX1_isOfKind_5 rfl ?_
    refine r_ic_ne hc 11 dX1_isOfKind_6 (by decide) (fun q => ?_) (fun q => ?_)
    · have h := kif_t h q
      refine r_iconst (v := 1) hc dX1_isOfKind_9 rfl ?_
      exact r_zret (ls0 := []) hZ dX1_isOfKind_10 (Or.inr rfl) h
    · have h := kif_f h q
      refine r_iload_n hc 0 dX1_isOfKind_11 rfl ?_
      refine r_if_lt hc 33 dX1_isOfKind_12 (by decide) (fun q => ?_) (fun q => ?_)
      · have h := kif_t h q
        refine r_iconst (v := 0) hc dX1_isOfKind_33 rfl ?_
        exact r_zret (ls0 := []) hZ dX1_isOfKind_34 (Or.inl rfl) h
      · have h := kif_f h q
        refine r_iload_n hc 0 dX1_isOfKind_15 rfl ?_
        refine r_iconst (v := 5) hc dX1_isOfKind_16 rfl ?_
        refine r_ic_gt hc 33 dX1_isOfKind_17 (by decide) (fun q => ?_) (fun q => ?_)
        · have h := kif_t h q
          refine r_iconst (v := 0) hc dX1_isOfKind_33 rfl ?_
          exact r_zret (ls0 := []) hZ dX1_isOfKind_34 (Or.inl rfl) h
        · have h := kif_f h q
          refine r_above hc lf_X1_15 dX1_isOfKind_20 ?_
          refine r_iload_n hc 0 dX1_isOfKind_23 rfl ?_
          obtain ⟨hi_1, h⟩ := h
          refine r_abld hc hi_1 dX1_isOfKind_24 ?_
          refine r_iload_n hc 1 dX1_isOfKind_25 rfl ?_
          refine r_ic_ne hc 33 dX1_isOfKind_26 (by decide) (fun q => ?_) (fun q => ?_)
          · have h := kif_t h q
            refine r_iconst (v := 1) hc dX1_isOfKind_29 rfl ?_
            refine r_goto hc 34 dX1_isOfKind_30 (by decide) ?_
            exact r_zret (ls0 := []) hZ dX1_isOfKind_34 (Or.inr rfl) h
          · have h := kif_f h q
            refine r_iconst (v := 0) hc dX1_isOfKind_33 rfl ?_
            exact r_zret (ls0 := []) hZ dX1_isOfKind_34 (Or.inl rfl) h
theorem m_X1_isOfKind {l : Launch} {g : kG} {N : Nat} {σ : kS} {x0 : Int32} {x1 : Int32} {Q : Int32 → kS → Prop} (h : w_X1_isOfKind N σ x0 x1 Q) : kMi l g yX1_isOfKind cX1_isOfKind 2 (some .boolean) 0 [.int x0, .int x1] σ Q :=
  k_met_z (by decide +kernel) rfl (Nat.le_of_ble_eq_true rfl) (fun X hl hc hZ => s_X1_isOfKind hc hZ h)
def w_X1_begin (N : Nat) (σ : kS) (x1 : Int32) (x2 : Int32) (x3 : Int32) (x4 : Int32) (Q : kS → Prop) : Prop :=
  ∀ σ_1 : kS, σ_1 = st2 σ 53 2 x1 → (∀ σ_2 : kS, σ_2 = st2 σ_1 53 3 x2 → (∀ σ_3 : kS, σ_3 = st2 σ_2 53 4 x3 → (∀ σ_4 : kS, σ_4 = st2 σ_3 53 5 x4 → (∀ σ_5 : kS, σ_5 = st2 σ_4 53 1 0 → (Q σ_5)))))
set_option maxHeartbeats 4000000 in
set_option maxRecDepth 100000 in
theorem s_X1_begin {X : kX} {g : kG} {N : Nat} {Q : kS → Prop} (hc : kOk X g RX1 cX1_begin 5 none 0) (hZ : kRw X g cX1_begin Q) {σ : kS} {x1 : Int32} {x2 : Int32} {x3 : Int32} {x4 : Int32} (h : w_X1_begin N σ x1 x2 x3 x4 Q) : kP X g 5 0 [(0, kz g 53), (1, .int x1), (2, .int x2), (3, .int x3), (4, .int x4)] [] σ := by
  unfold w_X1_begin at h
  refine r_aload_n hc 0 dX1_begin_0 rfl ?_
  refine r_iload_n hc 1 dX1_begin_1 rfl ?_
  refine pf_X1_2 hc lf_X1_18 dX1_begin_2 ?_
  refine r_nmS (fun σ_1 eσ_1 => ?_)
  have h := h σ_1 eσ_1
  refine r_aload_n hc 0 dX1_begin_5 rfl ?_
  refine r_iload_n hc 2 dX1_begin_6 rfl ?_
  refine pf_X1_3 hc lf_X1_22 dX1_begin_7 ?_
  refine r_nmS (fun σ_2 eσ_2 => ?_)
  have h := h σ_2 eσ_2
  refine r_aload_n hc 0 dX1_begin_10 rfl ?_
  refine r_iload_n hc 3 dX1_begin_11 rfl ?_
  refine pf_X1_4 hc lf_X1_25 dX1_begin_12 ?_
  refine r_nmS (fun σ_3 eσ_3 => ?_)
  have h := h σ_3 eσ_3
  refine r_aload_n hc 0 dX1_begin_15 rfl ?_
  refine r_iload hc 4 dX1_begin_16 rfl ?_
  refine pf_X1_5 hc lf_X1_28 dX1_begin_18 ?_
  refine r_nmS (fun σ_4 eσ_4 => ?_)
  have h := h σ_4 eσ_4
  refine r_aload_n hc 0 dX1_begin_21 rfl ?_
  refine r_iconst (v := 0) hc dX1_begin_22 rfl ?_
  refine pf_X1_1 hc lf_X1_31 dX1_begin_23 ?_
  refine r_nmS (fun σ_5 eσ_5 => ?_)
  have h := h σ_5 eσ_5
  exact r_vret (ls0 := []) hZ dX1_begin_26 h
theorem m_X1_begin {l : Launch} {g : kG} {N : Nat} {σ : kS} {x1 : Int32} {x2 : Int32} {x3 : Int32} {x4 : Int32} {Q : kS → Prop} (h : w_X1_begin N σ x1 x2 x3 x4 Q) : kMv l g yX1_begin cX1_begin 5 none 0 [kz g 53, .int x1, .int x2, .int x3, .int x4] σ Q :=
  k_met_v (by decide +kernel) rfl (Nat.le_of_ble_eq_true rfl) (fun X hl hc hZ => s_X1_begin hc hZ h)
def w_X1_leave (N : Nat) (σ : kS) (x1 : Int32) (Q : kS → Prop) : Prop :=
  if 16 ≤ (σ 53 1) then (Q σ) else (vp_in (σ 53 1) 16 ∧ (∀ σ_2 : kS, σ_2 = st2 σ 54 ((σ 53 1).toNatClampNeg) x1 → (∀ σ_3 : kS, σ_3 = st2 σ_2 53 1 ((σ_2 53 1) + 1) → (Q σ_3))))
set_option maxHeartbeats 4000000 in
set_option maxRecDepth 100000 in
theorem s_X1_leave {X : kX} {g : kG} {N : Nat} {Q : kS → Prop} (hc : kOk X g RX1 cX1_leave 2 none 0) (hZ : kRw X g cX1_leave Q) {σ : kS} {x1 : Int32} (h : w_X1_leave N σ x1 Q) : kP X g 2 0 [(0, kz g 53), (1, .int x1)] [] σ := by
  unfold w_X1_leave at h
  refine r_aload_n hc 0 dX1_leave_0 rfl ?_
  refine gf_X1_1 hc lf_X1_31 dX1_leave_1 ?_
  refine r_bipush (v := 16) hc dX1_leave_4 rfl ?_
  refine r_ic_ge hc 29 dX1_leave_6 (by decide) (fun q => ?_) (fun q => ?_)
  · have h := kif_t h q
    exact r_vret (ls0 := []) hZ dX1_leave_29 h
  · have h := kif_f h q
    refine r_aload_n hc 0 dX1_leave_9 rfl ?_
    refine gf_X1_0 hc lf_X1_11 dX1_leave_10 ?_
    refine r_aload_n hc 0 dX1_leave_13 rfl ?_
    refine gf_X1_1 hc lf_X1_31 dX1_leave_14 ?_
    refine r_iload_n hc 1 dX1_leave_17 rfl ?_
    obtain ⟨hi_1, h⟩ := h
    refine r_iast hc kia_54 hi_1 dX1_leave_18 ?_
    refine r_nmS (fun σ_2 eσ_2 => ?_)
    have h := h σ_2 eσ_2
    refine r_aload_n hc 0 dX1_leave_19 rfl ?_
    refine r_dup hc dX1_leave_20 rfl ?_
    refine gf_X1_1 hc lf_X1_31 dX1_leave_21 ?_
    refine r_iconst (v := 1) hc dX1_leave_24 rfl ?_
    refine r_iadd hc dX1_leave_25 ?_
    refine pf_X1_1 hc lf_X1_31 dX1_leave_26 ?_
    refine r_nmS (fun σ_3 eσ_3 => ?_)
    have h := h σ_3 eσ_3
    exact r_vret (ls0 := []) hZ dX1_leave_29 h
theorem m_X1_leave {l : Launch} {g : kG} {N : Nat} {σ : kS} {x1 : Int32} {Q : kS → Prop} (h : w_X1_leave N σ x1 Q) : kMv l g yX1_leave cX1_leave 2 none 0 [kz g 53, .int x1] σ Q :=
  k_met_v (by decide +kernel) rfl (Nat.le_of_ble_eq_true rfl) (fun X hl hc hZ => s_X1_leave hc hZ h)
def w_X1_body10 (N : Nat) (σ : kS) (Q : Int32 → kS → Prop) : Prop :=
  w_X1_leave N σ 10 (fun (σ_1 : kS) => Q (σ_1 53 5) σ_1)
set_option maxHeartbeats 4000000 in
set_option maxRecDepth 100000 in
theorem s_X1_body10 {X : kX} {g : kG} {N : Nat} {Q : Int32 → kS → Prop} (hc : kOk X g RX1 cX1_body10 1 (some .int) 1) (hZ : kRi X g cX1_body10 Q) {σ : kS} (h : w_X1_body10 N σ Q) : kP X g 1 0 [(0, kz g 53)] [] σ := by
  unfold w_X1_body10 at h
  refine r_aload_n hc 0 dX1_body10_0 rfl ?_
  refine r_bipush (v := 10) hc dX1_body10_1 rfl ?_
  refine r_callVv (d := 0) hc (m_X1_leave h) cw_X1_leave wi_X1_leave ws_X1_leave lm_X1_34 (by decide) (by decide) rv_X1 rfl rfl (Nat.le_of_ble_eq_true rfl) dX1_body10_3 (fun σ_1 h => ?_)
  refine r_aload_n hc 0 dX1_body10_6 rfl ?_
  refine gf_X1_5 hc lf_X1_28 dX1_body10_7 ?_
  exact r_iret (ls0 := []) hZ dX1_body10_10 h
theorem m_X1_body10 {l : Launch} {g : kG} {N : Nat} {σ : kS} {Q : Int32 → kS → Prop} (h : w_X1_body10 N σ Q) : kMi l g yX1_body10 cX1_body10 1 (some .int) 1 [kz g 53] σ Q :=
  k_met_i (by decide +kernel) rfl (Nat.le_of_ble_eq_true rfl) (fun X hl hc hZ => s_X1_body10 hc hZ h)
def w_X1_body20 (N : Nat) (σ : kS) (Q : Int32 → kS → Prop) : Prop :=
  w_X1_leave N σ 20 (fun (σ_1 : kS) => Q (σ_1 53 2) σ_1)
set_option maxHeartbeats 4000000 in
set_option maxRecDepth 100000 in
theorem s_X1_body20 {X : kX} {g : kG} {N : Nat} {Q : Int32 → kS → Prop} (hc : kOk X g RX1 cX1_body20 1 (some .int) 1) (hZ : kRi X g cX1_body20 Q) {σ : kS} (h : w_X1_body20 N σ Q) : kP X g 1 0 [(0, kz g 53)] [] σ := by
  unfold w_X1_body20 at h
  refine r_aload_n hc 0 dX1_body20_0 rfl ?_
  refine r_bipush (v := 20) hc dX1_body20_1 rfl ?_
  refine r_callVv (d := 0) hc (m_X1_leave h) cw_X1_leave wi_X1_leave ws_X1_leave lm_X1_34 (by decide) (by decide) rv_X1 rfl rfl (Nat.le_of_ble_eq_true rfl) dX1_body20_3 (fun σ_1 h => ?_)
  refine r_aload_n hc 0 dX1_body20_6 rfl ?_
  refine gf_X1_2 hc lf_X1_18 dX1_body20_7 ?_
  exact r_iret (ls0 := []) hZ dX1_body20_10 h
theorem m_X1_body20 {l : Launch} {g : kG} {N : Nat} {σ : kS} {Q : Int32 → kS → Prop} (h : w_X1_body20 N σ Q) : kMi l g yX1_body20 cX1_body20 1 (some .int) 1 [kz g 53] σ Q :=
  k_met_i (by decide +kernel) rfl (Nat.le_of_ble_eq_true rfl) (fun X hl hc hZ => s_X1_body20 hc hZ h)
def w_X1_body21 (N : Nat) (σ : kS) (Q : Int32 → kS → Prop) : Prop :=
  w_X1_leave N σ 21 (fun (σ_1 : kS) => w_X1_body20 N σ_1 (fun (r_4 : Int32) (σ_3 : kS) => Q (r_4 + (σ_3 53 4)) σ_3))
set_option maxHeartbeats 4000000 in
set_option maxRecDepth 100000 in
theorem s_X1_body21 {X : kX} {g : kG} {N : Nat} {Q : Int32 → kS → Prop} (hc : kOk X g RX1 cX1_body21 1 (some .int) 2) (hZ : kRi X g cX1_body21 Q) {σ : kS} (h : w_X1_body21 N σ Q) : kP X g 1 0 [(0, kz g 53)] [] σ := by
  unfold w_X1_body21 at h
  refine r_aload_n hc 0 dX1_body21_0 rfl ?_
  refine r_bipush (v := 21) hc dX1_body21_1 rfl ?_
  refine r_callVv (d := 0) hc (m_X1_leave h) cw_X1_leave wi_X1_leave ws_X1_leave lm_X1_34 (by decide) (by decide) rv_X1 rfl rfl (Nat.le_of_ble_eq_true rfl) dX1_body21_3 (fun σ_1 h => ?_)
  refine r_aload_n hc 0 dX1_body21_6 rfl ?_
  refine r_callVi (d := 1) hc (m_X1_body20 h) cw_X1_body20 wi_X1_body20 ws_X1_body20 lm_X1_64 (by decide) (by decide) rv_X1 rfl rfl (Nat.le_of_ble_eq_true rfl) dX1_body21_7 (fun r_4 σ_3 h => ?_)
  refine r_aload_n hc 0 dX1_body21_10 rfl ?_
  refine gf_X1_4 hc lf_X1_25 dX1_body21_11 ?_
  refine r_iadd hc dX1_body21_14 ?_
  exact r_iret (ls0 := []) hZ dX1_body21_15 h
theorem m_X1_body21 {l : Launch} {g : kG} {N : Nat} {σ : kS} {Q : Int32 → kS → Prop} (h : w_X1_body21 N σ Q) : kMi l g yX1_body21 cX1_body21 1 (some .int) 2 [kz g 53] σ Q :=
  k_met_i (by decide +kernel) rfl (Nat.le_of_ble_eq_true rfl) (fun X hl hc hZ => s_X1_body21 hc hZ h)
def w_X1_markOfPlayer (N : Nat) (σ : kS) (Q : Int32 → kS → Prop) : Prop :=
  ∀ w_1 : Int32, w_1 = σ 53 3 → (if w_1 = 2 then (w_X1_leave N σ 24 (fun (σ_2 : kS) => w_X1_body21 N σ_2 (fun (r_5 : Int32) (σ_4 : kS) => Q (2 * r_5) σ_4))) else (if w_1 = 3 then (w_X1_leave N σ 22 (fun (σ_7 : kS) => w_X1_body21 N σ_7 (fun (r_10 : Int32) (σ_9 : kS) => Q (r_10 - 1000) σ_9))) else (w_X1_body21 N σ (fun (r_13 : Int32) (σ_12 : kS) => Q r_13 σ_12))))
set_option maxHeartbeats 4000000 in
set_option maxRecDepth 100000 in
theorem s_X1_markOfPlayer {X : kX} {g : kG} {N : Nat} {Q : Int32 → kS → Prop} (hc : kOk X g RX1 cX1_markOfPlayer 1 (some .int) 3) (hZ : kRi X g cX1_markOfPlayer Q) {σ : kS} (h : w_X1_markOfPlayer N σ Q) : kP X g 1 0 [(0, kz g 53)] [] σ := by
  unfold w_X1_markOfPlayer at h
  refine r_aload_n hc 0 dX1_markOfPlayer_0 rfl ?_
  refine gf_X1_3 hc lf_X1_22 dX1_markOfPlayer_1 ?_
  refine r_nmI (fun w_1 ew_1 => ?_)
  have h := h w_1 ew_1
  by_cases q_6 : w_1 = 2
  · have h := kif_t h q_6
    refine r_lookup hc 32 dX1_markOfPlayer_4 (by decide) (by rw [q_6] <;> rfl) (by decide) ?_
    refine r_aload_n hc 0 dX1_markOfPlayer_32 rfl ?_
    refine r_bipush (v := 24) hc dX1_markOfPlayer_33 rfl ?_
    refine r_callVv (d := 0) hc (m_X1_leave h) cw_X1_leave wi_X1_leave ws_X1_leave lm_X1_34 (by decide) (by decide) rv_X1 rfl rfl (Nat.le_of_ble_eq_true rfl) dX1_markOfPlayer_35 (fun σ_2 h => ?_)
    refine r_iconst (v := 2) hc dX1_markOfPlayer_38 rfl ?_
    refine r_aload_n hc 0 dX1_markOfPlayer_39 rfl ?_
    refine r_callVi (d := 2) hc (m_X1_body21 h) cw_X1_body21 wi_X1_body21 ws_X1_body21 lm_X1_58 (by decide) (by decide) rv_X1 rfl rfl (Nat.le_of_ble_eq_true rfl) dX1_markOfPlayer_40 (fun r_5 σ_4 h => ?_)
    refine r_imul hc dX1_markOfPlayer_43 ?_
    exact r_iret (ls0 := []) hZ dX1_markOfPlayer_44 h
  have h := kif_f h q_6
  have zq_6 : w_1.toInt ≠ 2 := ktne q_6
  by_cases q_11 : w_1 = 3
  · have h := kif_t h q_11
    refine r_lookup hc 45 dX1_markOfPlayer_4 (by decide) (by rw [q_11] <;> rfl) (by decide) ?_
    refine r_aload_n hc 0 dX1_markOfPlayer_45 rfl ?_
    refine r_bipush (v := 22) hc dX1_markOfPlayer_46 rfl ?_
    refine r_callVv (d := 0) hc (m_X1_leave h) cw_X1_leave wi_X1_leave ws_X1_leave lm_X1_34 (by decide) (by decide) rv_X1 rfl rfl (Nat.le_of_ble_eq_true rfl) dX1_markOfPlayer_48 (fun σ_7 h => ?_)
    refine r_aload_n hc 0 dX1_markOfPlayer_51 rfl ?_
    refine r_callVi (d := 2) hc (m_X1_body21 h) cw_X1_body21 wi_X1_body21 ws_X1_body21 lm_X1_58 (by decide) (by decide) rv_X1 rfl rfl (Nat.le_of_ble_eq_true rfl) dX1_markOfPlayer_52 (fun r_10 σ_9 h => ?_)
    refine r_sipush (v := 1000) hc dX1_markOfPlayer_55 rfl ?_
    refine r_isub hc dX1_markOfPlayer_58 ?_
    exact r_iret (ls0 := []) hZ dX1_markOfPlayer_59 h
  have h := kif_f h q_11
  have zq_11 : w_1.toInt ≠ 3 := ktne q_11
  refine r_lookup hc 60 dX1_markOfPlayer_4 (by decide) (by simp [Op.lookupswitch.offset, Ne.symm zq_6, Ne.symm zq_11]; rfl) (by decide) ?_
  refine r_aload_n hc 0 dX1_markOfPlayer_60 rfl ?_
  refine r_callVi (d := 2) hc (m_X1_body21 h) cw_X1_body21 wi_X1_body21 ws_X1_body21 lm_X1_58 (by decide) (by decide) rv_X1 rfl rfl (Nat.le_of_ble_eq_true rfl) dX1_markOfPlayer_61 (fun r_13 σ_12 h => ?_)
  exact r_iret (ls0 := []) hZ dX1_markOfPlayer_64 h
theorem m_X1_markOfPlayer {l : Launch} {g : kG} {N : Nat} {σ : kS} {Q : Int32 → kS → Prop} (h : w_X1_markOfPlayer N σ Q) : kMi l g yX1_markOfPlayer cX1_markOfPlayer 1 (some .int) 3 [kz g 53] σ Q :=
  k_met_i (by decide +kernel) rfl (Nat.le_of_ble_eq_true rfl) (fun X hl hc hZ => s_X1_markOfPlayer hc hZ h)
def w_X1_body11 (N : Nat) (σ : kS) (Q : Int32 → kS → Prop) : Prop :=
  w_X1_leave N σ 11 (fun (σ_1 : kS) => w_X1_body10 N σ_1 (fun (r_4 : Int32) (σ_3 : kS) => w_X1_markOfPlayer N σ_3 (fun (r_6 : Int32) (σ_5 : kS) => Q (r_4 + r_6) σ_5)))
set_option maxHeartbeats 4000000 in
set_option maxRecDepth 100000 in
theorem s_X1_body11 {X : kX} {g : kG} {N : Nat} {Q : Int32 → kS → Prop} (hc : kOk X g RX1 cX1_body11 2 (some .int) 4) (hZ : kRi X g cX1_body11 Q) {σ : kS} (h : w_X1_body11 N σ Q) : kP X g 2 0 [(0, kz g 53)] [] σ := by
  unfold w_X1_body11 at h
  refine r_aload_n hc 0 dX1_body11_0 rfl ?_
  refine r_bipush (v := 11) hc dX1_body11_1 rfl ?_
  refine r_callVv (d := 0) hc (m_X1_leave h) cw_X1_leave wi_X1_leave ws_X1_leave lm_X1_34 (by decide) (by decide) rv_X1 rfl rfl (Nat.le_of_ble_eq_true rfl) dX1_body11_3 (fun σ_1 h => ?_)
  refine r_aload_n hc 0 dX1_body11_6 rfl ?_
  refine r_callVi (d := 1) hc (m_X1_body10 h) cw_X1_body10 wi_X1_body10 ws_X1_body10 lm_X1_61 (by decide) (by decide) rv_X1 rfl rfl (Nat.le_of_ble_eq_true rfl) dX1_body11_7 (fun r_4 σ_3 h => ?_)
  refine r_istore_n hc [(1, .int r_4), (0, kz g 53)] dX1_body11_10 (by decide) rfl ?_
  refine r_iload_n hc 0 dX1_body11_11 rfl ?_
  refine r_aload_n hc 1 dX1_body11_12 rfl ?_
  refine r_callVi (d := 3) hc (m_X1_markOfPlayer h) cw_X1_markOfPlayer wi_X1_markOfPlayer ws_X1_markOfPlayer lm_X1_52 (by decide) (by decide) rv_X1 rfl rfl (Nat.le_of_ble_eq_true rfl) dX1_body11_13 (fun r_6 σ_5 h => ?_)
  refine r_iadd hc dX1_body11_16 ?_
  exact r_iret (ls0 := []) hZ dX1_body11_17 h
theorem m_X1_body11 {l : Launch} {g : kG} {N : Nat} {σ : kS} {Q : Int32 → kS → Prop} (h : w_X1_body11 N σ Q) : kMi l g yX1_body11 cX1_body11 2 (some .int) 4 [kz g 53] σ Q :=
  k_met_i (by decide +kernel) rfl (Nat.le_of_ble_eq_true rfl) (fun X hl hc hZ => s_X1_body11 hc hZ h)
def w_X1_body13 (N : Nat) (σ : kS) (Q : Int32 → kS → Prop) : Prop :=
  w_X1_leave N σ 13 (fun (σ_1 : kS) => w_X1_body10 N σ_1 (fun (r_4 : Int32) (σ_3 : kS) => Q (r_4 - 100) σ_3))
set_option maxHeartbeats 4000000 in
set_option maxRecDepth 100000 in
theorem s_X1_body13 {X : kX} {g : kG} {N : Nat} {Q : Int32 → kS → Prop} (hc : kOk X g RX1 cX1_body13 1 (some .int) 2) (hZ : kRi X g cX1_body13 Q) {σ : kS} (h : w_X1_body13 N σ Q) : kP X g 1 0 [(0, kz g 53)] [] σ := by
  unfold w_X1_body13 at h
  refine r_aload_n hc 0 dX1_body13_0 rfl ?_
  refine r_bipush (v := 13) hc dX1_body13_1 rfl ?_
  refine r_callVv (d := 0) hc (m_X1_leave h) cw_X1_leave wi_X1_leave ws_X1_leave lm_X1_34 (by decide) (by decide) rv_X1 rfl rfl (Nat.le_of_ble_eq_true rfl) dX1_body13_3 (fun σ_1 h => ?_)
  refine r_aload_n hc 0 dX1_body13_6 rfl ?_
  refine r_callVi (d := 1) hc (m_X1_body10 h) cw_X1_body10 wi_X1_body10 ws_X1_body10 lm_X1_61 (by decide) (by decide) rv_X1 rfl rfl (Nat.le_of_ble_eq_true rfl) dX1_body13_7 (fun r_4 σ_3 h => ?_)
  refine r_bipush (v := 100) hc dX1_body13_10 rfl ?_
  refine r_isub hc dX1_body13_12 ?_
  exact r_iret (ls0 := []) hZ dX1_body13_13 h
theorem m_X1_body13 {l : Launch} {g : kG} {N : Nat} {σ : kS} {Q : Int32 → kS → Prop} (h : w_X1_body13 N σ Q) : kMi l g yX1_body13 cX1_body13 1 (some .int) 2 [kz g 53] σ Q :=
  k_met_i (by decide +kernel) rfl (Nat.le_of_ble_eq_true rfl) (fun X hl hc hZ => s_X1_body13 hc hZ h)
def w_X1_sizeOfCarrier (N : Nat) (σ : kS) (Q : Int32 → kS → Prop) : Prop :=
  if (σ 53 3) = 5 then (w_X1_leave N σ 14 (fun (σ_1 : kS) => w_X1_body13 N σ_1 (fun (r_4 : Int32) (σ_3 : kS) => Q (2 * r_4) σ_3))) else (w_X1_body13 N σ (fun (r_6 : Int32) (σ_5 : kS) => Q r_6 σ_5))
set_option maxHeartbeats 4000000 in
set_option maxRecDepth 100000 in
theorem s_X1_sizeOfCarrier {X : kX} {g : kG} {N : Nat} {Q : Int32 → kS → Prop} (hc : kOk X g RX1 cX1_sizeOfCarrier 1 (some .int) 3) (hZ : kRi X g cX1_sizeOfCarrier Q) {σ : kS} (h : w_X1_sizeOfCarrier N σ Q) : kP X g 1 0 [(0, kz g 53)] [] σ := by
  unfold w_X1_sizeOfCarrier at h
  refine r_aload_n hc 0 dX1_sizeOfCarrier_0 rfl ?_
  refine gf_X1_3 hc lf_X1_22 dX1_sizeOfCarrier_1 ?_
  refine r_iconst (v := 5) hc dX1_sizeOfCarrier_4 rfl ?_
  refine r_ic_ne hc 21 dX1_sizeOfCarrier_5 (by decide) (fun q => ?_) (fun q => ?_)
  · have h := kif_t h q
    refine r_aload_n hc 0 dX1_sizeOfCarrier_8 rfl ?_
    refine r_bipush (v := 14) hc dX1_sizeOfCarrier_9 rfl ?_
    refine r_callVv (d := 0) hc (m_X1_leave h) cw_X1_leave wi_X1_leave ws_X1_leave lm_X1_34 (by decide) (by decide) rv_X1 rfl rfl (Nat.le_of_ble_eq_true rfl) dX1_sizeOfCarrier_11 (fun σ_1 h => ?_)
    refine r_iconst (v := 2) hc dX1_sizeOfCarrier_14 rfl ?_
    refine r_aload_n hc 0 dX1_sizeOfCarrier_15 rfl ?_
    refine r_callVi (d := 2) hc (m_X1_body13 h) cw_X1_body13 wi_X1_body13 ws_X1_body13 lm_X1_55 (by decide) (by decide) rv_X1 rfl rfl (Nat.le_of_ble_eq_true rfl) dX1_sizeOfCarrier_16 (fun r_4 σ_3 h => ?_)
    refine r_imul hc dX1_sizeOfCarrier_19 ?_
    exact r_iret (ls0 := []) hZ dX1_sizeOfCarrier_20 h
  · have h := kif_f h q
    refine r_aload_n hc 0 dX1_sizeOfCarrier_21 rfl ?_
    refine r_callVi (d := 2) hc (m_X1_body13 h) cw_X1_body13 wi_X1_body13 ws_X1_body13 lm_X1_55 (by decide) (by decide) rv_X1 rfl rfl (Nat.le_of_ble_eq_true rfl) dX1_sizeOfCarrier_22 (fun r_6 σ_5 h => ?_)
    exact r_iret (ls0 := []) hZ dX1_sizeOfCarrier_25 h
theorem m_X1_sizeOfCarrier {l : Launch} {g : kG} {N : Nat} {σ : kS} {Q : Int32 → kS → Prop} (h : w_X1_sizeOfCarrier N σ Q) : kMi l g yX1_sizeOfCarrier cX1_sizeOfCarrier 1 (some .int) 3 [kz g 53] σ Q :=
  k_met_i (by decide +kernel) rfl (Nat.le_of_ble_eq_true rfl) (fun X hl hc hZ => s_X1_sizeOfCarrier hc hZ h)
def w_X1_sizeOfOne (N : Nat) (σ : kS) (Q : Int32 → kS → Prop) : Prop :=
  ∀ w_1 : Int32, w_1 = σ 53 3 → (if w_1 = 2 then (w_X1_leave N σ 12 (fun (σ_2 : kS) => w_X1_body11 N σ_2 (fun (r_5 : Int32) (σ_4 : kS) => Q (-r_5) σ_4))) else (if w_1 = 3 then (w_X1_body11 N σ (fun (r_8 : Int32) (σ_7 : kS) => Q r_8 σ_7)) else (if w_1 = 4 then (w_X1_sizeOfCarrier N σ (fun (r_11 : Int32) (σ_10 : kS) => Q r_11 σ_10)) else (if w_1 = 5 then (w_X1_sizeOfCarrier N σ (fun (r_14 : Int32) (σ_13 : kS) => Q r_14 σ_13)) else (w_X1_body11 N σ (fun (r_17 : Int32) (σ_16 : kS) => Q r_17 σ_16))))))
set_option maxHeartbeats 4000000 in
set_option maxRecDepth 100000 in
theorem s_X1_sizeOfOne {X : kX} {g : kG} {N : Nat} {Q : Int32 → kS → Prop} (hc : kOk X g RX1 cX1_sizeOfOne 1 (some .int) 5) (hZ : kRi X g cX1_sizeOfOne Q) {σ : kS} (h : w_X1_sizeOfOne N σ Q) : kP X g 1 0 [(0, kz g 53)] [] σ := by
  unfold w_X1_sizeOfOne at h
  refine r_aload_n hc 0 dX1_sizeOfOne_0 rfl ?_
  refine gf_X1_3 hc lf_X1_22 dX1_sizeOfOne_1 ?_
  refine r_nmI (fun w_1 ew_1 => ?_)
  have h := h w_1 ew_1
  by_cases q_6 : w_1 = 2
  · have h := kif_t h q_6
    refine r_tabIn hc 36 dX1_sizeOfOne_4 (by rw [q_6]; decide) (by rw [q_6]; decide) (by rw [q_6] <;> rfl) (by decide) ?_
    refine r_aload_n hc 0 dX1_sizeOfOne_36 rfl ?_
    refine r_bipush (v := 12) hc dX1_sizeOfOne_37 rfl ?_
    refine r_callVv (d := 0) hc (m_X1_leave h) cw_X1_leave wi_X1_leave ws_X1_leave lm_X1_34 (by decide) (by decide) rv_X1 rfl rfl (Nat.le_of_ble_eq_true rfl) dX1_sizeOfOne_39 (fun σ_2 h => ?_)
    refine r_aload_n hc 0 dX1_sizeOfOne_42 rfl ?_
    refine r_callVi (d := 4) hc (m_X1_body11 h) cw_X1_body11 wi_X1_body11 ws_X1_body11 lm_X1_38 (by decide) (by decide) rv_X1 rfl rfl (Nat.le_of_ble_eq_true rfl) dX1_sizeOfOne_43 (fun r_5 σ_4 h => ?_)
    refine r_ineg hc dX1_sizeOfOne_46 ?_
    exact r_iret (ls0 := []) hZ dX1_sizeOfOne_47 h
  have h := kif_f h q_6
  have zq_6 : w_1.toInt ≠ 2 := ktne q_6
  by_cases q_9 : w_1 = 3
  · have h := kif_t h q_9
    refine r_tabIn hc 53 dX1_sizeOfOne_4 (by rw [q_9]; decide) (by rw [q_9]; decide) (by rw [q_9] <;> rfl) (by decide) ?_
    refine r_aload_n hc 0 dX1_sizeOfOne_53 rfl ?_
    refine r_callVi (d := 4) hc (m_X1_body11 h) cw_X1_body11 wi_X1_body11 ws_X1_body11 lm_X1_38 (by decide) (by decide) rv_X1 rfl rfl (Nat.le_of_ble_eq_true rfl) dX1_sizeOfOne_54 (fun r_8 σ_7 h => ?_)
    exact r_iret (ls0 := []) hZ dX1_sizeOfOne_57 h
  have h := kif_f h q_9
  have zq_9 : w_1.toInt ≠ 3 := ktne q_9
  by_cases q_12 : w_1 = 4
  · have h := kif_t h q_12
    refine r_tabIn hc 48 dX1_sizeOfOne_4 (by rw [q_12]; decide) (by rw [q_12]; decide) (by rw [q_12] <;> rfl) (by decide) ?_
    refine r_aload_n hc 0 dX1_sizeOfOne_48 rfl ?_
    refine r_callVi (d := 3) hc (m_X1_sizeOfCarrier h) cw_X1_sizeOfCarrier wi_X1_sizeOfCarrier ws_X1_sizeOfCarrier lm_X1_42 (by decide) (by decide) rv_X1 rfl rfl (Nat.le_of_ble_eq_true rfl) dX1_sizeOfOne_49 (fun r_11 σ_10 h => ?_)
    exact r_iret (ls0 := []) hZ dX1_sizeOfOne_52 h
  have h := kif_f h q_12
  have zq_12 : w_1.toInt ≠ 4 := ktne q_12
  by_cases q_15 : w_1 = 5
  · have h := kif_t h q_15
    refine r_tabIn hc 48 dX1_sizeOfOne_4 (by rw [q_15]; decide) (by rw [q_15]; decide) (by rw [q_15] <;> rfl) (by decide) ?_
    refine r_aload_n hc 0 dX1_sizeOfOne_48 rfl ?_
    refine r_callVi (d := 3) hc (m_X1_sizeOfCarrier h) cw_X1_sizeOfCarrier wi_X1_sizeOfCarrier ws_X1_sizeOfCarrier lm_X1_42 (by decide) (by decide) rv_X1 rfl rfl (Nat.le_of_ble_eq_true rfl) dX1_sizeOfOne_49 (fun r_14 σ_13 h => ?_)
    exact r_iret (ls0 := []) hZ dX1_sizeOfOne_52 h
  have h := kif_f h q_15
  have zq_15 : w_1.toInt ≠ 5 := ktne q_15
  refine r_tabOut hc 53 dX1_sizeOfOne_4 (by omega) (by decide) ?_
  refine r_aload_n hc 0 dX1_sizeOfOne_53 rfl ?_
  refine r_callVi (d := 4) hc (m_X1_body11 h) cw_X1_body11 wi_X1_body11 ws_X1_body11 lm_X1_38 (by decide) (by decide) rv_X1 rfl rfl (Nat.le_of_ble_eq_true rfl) dX1_sizeOfOne_54 (fun r_17 σ_16 h => ?_)
  exact r_iret (ls0 := []) hZ dX1_sizeOfOne_57 h
theorem m_X1_sizeOfOne {l : Launch} {g : kG} {N : Nat} {σ : kS} {Q : Int32 → kS → Prop} (h : w_X1_sizeOfOne N σ Q) : kMi l g yX1_sizeOfOne cX1_sizeOfOne 1 (some .int) 5 [kz g 53] σ Q :=
  k_met_i (by decide +kernel) rfl (Nat.le_of_ble_eq_true rfl) (fun X hl hc hZ => s_X1_sizeOfOne hc hZ h)
def w_X1_body23 (N : Nat) (σ : kS) (Q : Int32 → kS → Prop) : Prop :=
  w_X1_leave N σ 23 (fun (σ_1 : kS) => w_X1_body20 N σ_1 (fun (r_4 : Int32) (σ_3 : kS) => w_X1_sizeOfCarrier N σ_3 (fun (r_6 : Int32) (σ_5 : kS) => Q (r_4 - r_6) σ_5)))
set_option maxHeartbeats 4000000 in
set_option maxRecDepth 100000 in
theorem s_X1_body23 {X : kX} {g : kG} {N : Nat} {Q : Int32 → kS → Prop} (hc : kOk X g RX1 cX1_body23 2 (some .int) 4) (hZ : kRi X g cX1_body23 Q) {σ : kS} (h : w_X1_body23 N σ Q) : kP X g 2 0 [(0, kz g 53)] [] σ := by
  unfold w_X1_body23 at h
  refine r_aload_n hc 0 dX1_body23_0 rfl ?_
  refine r_bipush (v := 23) hc dX1_body23_1 rfl ?_
  refine r_callVv (d := 0) hc (m_X1_leave h) cw_X1_leave wi_X1_leave ws_X1_leave lm_X1_34 (by decide) (by decide) rv_X1 rfl rfl (Nat.le_of_ble_eq_true rfl) dX1_body23_3 (fun σ_1 h => ?_)
  refine r_aload_n hc 0 dX1_body23_6 rfl ?_
  refine r_callVi (d := 1) hc (m_X1_body20 h) cw_X1_body20 wi_X1_body20 ws_X1_body20 lm_X1_64 (by decide) (by decide) rv_X1 rfl rfl (Nat.le_of_ble_eq_true rfl) dX1_body23_7 (fun r_4 σ_3 h => ?_)
  refine r_istore_n hc [(1, .int r_4), (0, kz g 53)] dX1_body23_10 (by decide) rfl ?_
  refine r_iload_n hc 0 dX1_body23_11 rfl ?_
  refine r_aload_n hc 1 dX1_body23_12 rfl ?_
  refine r_callVi (d := 3) hc (m_X1_sizeOfCarrier h) cw_X1_sizeOfCarrier wi_X1_sizeOfCarrier ws_X1_sizeOfCarrier lm_X1_42 (by decide) (by decide) rv_X1 rfl rfl (Nat.le_of_ble_eq_true rfl) dX1_body23_13 (fun r_6 σ_5 h => ?_)
  refine r_isub hc dX1_body23_16 ?_
  exact r_iret (ls0 := []) hZ dX1_body23_17 h
theorem m_X1_body23 {l : Launch} {g : kG} {N : Nat} {σ : kS} {Q : Int32 → kS → Prop} (h : w_X1_body23 N σ Q) : kMi l g yX1_body23 cX1_body23 2 (some .int) 4 [kz g 53] σ Q :=
  k_met_i (by decide +kernel) rfl (Nat.le_of_ble_eq_true rfl) (fun X hl hc hZ => s_X1_body23 hc hZ h)
def w_X1_markOfOne (N : Nat) (σ : kS) (Q : Int32 → kS → Prop) : Prop :=
  w_X1_isOfKind N σ (σ 53 3) 4 (fun (r_2 : Int32) (σ_1 : kS) => if r_2 = 0 then (w_X1_markOfPlayer N σ_1 (fun (r_4 : Int32) (σ_3 : kS) => Q r_4 σ_3)) else (w_X1_body23 N σ_1 (fun (r_6 : Int32) (σ_5 : kS) => Q r_6 σ_5)))
set_option maxHeartbeats 4000000 in
set_option maxRecDepth 100000 in
theorem s_X1_markOfOne {X : kX} {g : kG} {N : Nat} {Q : Int32 → kS → Prop} (hc : kOk X g RX1 cX1_markOfOne 1 (some .int) 5) (hZ : kRi X g cX1_markOfOne Q) {σ : kS} (h : w_X1_markOfOne N σ Q) : kP X g 1 0 [(0, kz g 53)] [] σ := by
  unfold w_X1_markOfOne at h
  refine r_aload_n hc 0 dX1_markOfOne_0 rfl ?_
  refine gf_X1_3 hc lf_X1_22 dX1_markOfOne_1 ?_
  refine r_iconst (v := 4) hc dX1_markOfOne_4 rfl ?_
  refine r_callSi (d := 0) hc (m_X1_isOfKind h) cw_X1_isOfKind wt_X1_isOfKind lm_X1_45 (by decide) (by decide) rfl rfl (Nat.le_of_ble_eq_true rfl) dX1_markOfOne_5 (fun r_2 σ_1 h => ?_)
  refine r_if_eq hc 18 dX1_markOfOne_8 (by decide) (fun q => ?_) (fun q => ?_)
  · have h := kif_t h q
    refine r_aload_n hc 0 dX1_markOfOne_18 rfl ?_
    refine r_callVi (d := 3) hc (m_X1_markOfPlayer h) cw_X1_markOfPlayer wi_X1_markOfPlayer ws_X1_markOfPlayer lm_X1_52 (by decide) (by decide) rv_X1 rfl rfl (Nat.le_of_ble_eq_true rfl) dX1_markOfOne_19 (fun r_4 σ_3 h => ?_)
    exact r_iret (ls0 := []) hZ dX1_markOfOne_22 h
  · have h := kif_f h q
    refine r_aload_n hc 0 dX1_markOfOne_11 rfl ?_
    refine r_callVi (d := 4) hc (m_X1_body23 h) cw_X1_body23 wi_X1_body23 ws_X1_body23 lm_X1_49 (by decide) (by decide) rv_X1 rfl rfl (Nat.le_of_ble_eq_true rfl) dX1_markOfOne_12 (fun r_6 σ_5 h => ?_)
    refine r_goto hc 22 dX1_markOfOne_15 (by decide) ?_
    exact r_iret (ls0 := []) hZ dX1_markOfOne_22 h
theorem m_X1_markOfOne {l : Launch} {g : kG} {N : Nat} {σ : kS} {Q : Int32 → kS → Prop} (h : w_X1_markOfOne N σ Q) : kMi l g yX1_markOfOne cX1_markOfOne 1 (some .int) 5 [kz g 53] σ Q :=
  k_met_i (by decide +kernel) rfl (Nat.le_of_ble_eq_true rfl) (fun X hl hc hZ => s_X1_markOfOne hc hZ h)
def w_J6_bitCount_0f7a4 (N : Nat) (σ : kS) (x0 : Int32) (Q : Int32 → kS → Prop) : Prop :=
  ∀ x0_1 : Int32, x0_1 = x0 - ((k_ushr x0 1) &&& 1431655765) → (∀ x0_2 : Int32, x0_2 = (x0_1 &&& 858993459) + ((k_ushr x0_1 2) &&& 858993459) → (∀ x0_3 : Int32, x0_3 = (x0_2 + (k_ushr x0_2 4)) &&& 252645135 → (∀ x0_4 : Int32, x0_4 = x0_3 + (k_ushr x0_3 8) → (∀ x0_5 : Int32, x0_5 = x0_4 + (k_ushr x0_4 16) → (Q (x0_5 &&& 63) σ)))))
set_option maxHeartbeats 4000000 in
set_option maxRecDepth 100000 in
theorem s_J6_bitCount_0f7a4 {X : kX} {g : kG} {N : Nat} {Q : Int32 → kS → Prop} (hc : kOk X g RJ6 cJ6_bitCount_0f7a4 1 (some .int) 0) (hZ : kRi X g cJ6_bitCount_0f7a4 Q) {σ : kS} {x0 : Int32} (h : w_J6_bitCount_0f7a4 N σ x0 Q) : kP X g 1 0 [(0, .int x0)] [] σ := by
  unfold w_J6_bitCount_0f7a4 at h
  refine r_iload_n hc 0 dJ6_bitCount_0f7a4_0 rfl ?_
  refine r_iload_n hc 0 dJ6_bitCount_0f7a4_1 rfl ?_
  refine r_iconst (v := 1) hc dJ6_bitCount_0f7a4_2 rfl ?_
  refine r_iushr hc dJ6_bitCount_0f7a4_3 ?_
  refine r_ldc_w hc lk_J6_265 dJ6_bitCount_0f7a4_4 ?_
  refine r_iand hc dJ6_bitCount_0f7a4_7 ?_
  refine r_isub hc dJ6_bitCount_0f7a4_8 ?_
  refine r_nmI (fun x0_1 ex0_1 => ?_)
  have h := h x0_1 ex0_1
  refine r_istore_n hc [(0, .int x0_1)] dJ6_bitCount_0f7a4_9 (by decide) rfl ?_
  refine r_iload_n hc 0 dJ6_bitCount_0f7a4_10 rfl ?_
  refine r_ldc_w hc lk_J6_266 dJ6_bitCount_0f7a4_11 ?_
  refine r_iand hc dJ6_bitCount_0f7a4_14 ?_
  refine r_iload_n hc 0 dJ6_bitCount_0f7a4_15 rfl ?_
  refine r_iconst (v := 2) hc dJ6_bitCount_0f7a4_16 rfl ?_
  refine r_iushr hc dJ6_bitCount_0f7a4_17 ?_
  refine r_ldc_w hc lk_J6_266 dJ6_bitCount_0f7a4_18 ?_
  refine r_iand hc dJ6_bitCount_0f7a4_21 ?_
  refine r_iadd hc dJ6_bitCount_0f7a4_22 ?_
  refine r_nmI (fun x0_2 ex0_2 => ?_)
  have h := h x0_2 ex0_2
  refine r_istore_n hc [(0, .int x0_2)] dJ6_bitCount_0f7a4_23 (by decide) rfl ?_
  refine r_iload_n hc 0 dJ6_bitCount_0f7a4_24 rfl ?_
  refine r_iload_n hc 0 dJ6_bitCount_0f7a4_25 rfl ?_
  refine r_iconst (v := 4) hc dJ6_bitCount_0f7a4_26 rfl ?_
  refine r_iushr hc dJ6_bitCount_0f7a4_27 ?_
  refine r_iadd hc dJ6_bitCount_0f7a4_28 ?_
  refine r_ldc_w hc lk_J6_267 dJ6_bitCount_0f7a4_29 ?_
  refine r_iand hc dJ6_bitCount_0f7a4_32 ?_
  refine r_nmI (fun x0_3 ex0_3 => ?_)
  have h := h x0_3 ex0_3
  refine r_istore_n hc [(0, .int x0_3)] dJ6_bitCount_0f7a4_33 (by decide) rfl ?_
  refine r_iload_n hc 0 dJ6_bitCount_0f7a4_34 rfl ?_
  refine r_iload_n hc 0 dJ6_bitCount_0f7a4_35 rfl ?_
  refine r_bipush (v := 8) hc dJ6_bitCount_0f7a4_36 rfl ?_
  refine r_iushr hc dJ6_bitCount_0f7a4_38 ?_
  refine r_iadd hc dJ6_bitCount_0f7a4_39 ?_
  refine r_nmI (fun x0_4 ex0_4 => ?_)
  have h := h x0_4 ex0_4
  refine r_istore_n hc [(0, .int x0_4)] dJ6_bitCount_0f7a4_40 (by decide) rfl ?_
  refine r_iload_n hc 0 dJ6_bitCount_0f7a4_41 rfl ?_
  refine r_iload_n hc 0 dJ6_bitCount_0f7a4_42 rfl ?_
  refine r_bipush (v := 16) hc dJ6_bitCount_0f7a4_43 rfl ?_
  refine r_iushr hc dJ6_bitCount_0f7a4_45 ?_
  refine r_iadd hc dJ6_bitCount_0f7a4_46 ?_
  refine r_nmI (fun x0_5 ex0_5 => ?_)
  have h := h x0_5 ex0_5
  refine r_istore_n hc [(0, .int x0_5)] dJ6_bitCount_0f7a4_47 (by decide) rfl ?_
  refine r_iload_n hc 0 dJ6_bitCount_0f7a4_48 rfl ?_
  refine r_bipush (v := 63) hc dJ6_bitCount_0f7a4_49 rfl ?_
  refine r_iand hc dJ6_bitCount_0f7a4_51 ?_
  exact r_iret (ls0 := []) hZ dJ6_bitCount_0f7a4_52 h
theorem m_J6_bitCount_0f7a4 {l : Launch} {g : kG} {N : Nat} {σ : kS} {x0 : Int32} {Q : Int32 → kS → Prop} (h : w_J6_bitCount_0f7a4 N σ x0 Q) : kMi l g yJ6_bitCount_0f7a4 cJ6_bitCount_0f7a4 1 (some .int) 0 [.int x0] σ Q :=
  k_met_i (by decide +kernel) rfl (Nat.le_of_ble_eq_true rfl) (fun X hl hc hZ => s_J6_bitCount_0f7a4 hc hZ h)
def b_J7_fill_53178_5 (N : Nat) (Q : kS → Prop) (a0 : Nat) (x1 : Int32) (x3 : Int32) (K : Int32 → kS → Prop) (x2 : Int32) (σ : kS) : Prop :=
  if x3 ≤ x2 then (Q σ) else (vp_in x2 40 ∧ (∀ σ_2 : kS, σ_2 = st2 σ a0 (x2.toNatClampNeg) x1 → (∀ x2_3 : Int32, x2_3 = x2 + 1 → (K x2_3 σ_2))))
def l_J7_fill_53178_5 (N : Nat) (Q : kS → Prop) (a0 : Nat) (x1 : Int32) (x3 : Int32) : Nat → Int32 → kS → Prop
  | 0 => fun _ _ => False
  | n + 1 => b_J7_fill_53178_5 N Q a0 x1 x3 (l_J7_fill_53178_5 N Q a0 x1 x3 n)
set_option maxHeartbeats 4000000 in
set_option maxRecDepth 100000 in
theorem sb_J7_fill_53178_5 {X : kX} {g : kG} {N : Nat} {Q : kS → Prop} {a0 : Nat} (hc : kOk X g RJ7 cJ7_fill_53178 4 none 0) (hZ : kRw X g cJ7_fill_53178 Q) (ha0 : kInts a0 40) {x1 : Int32} {x3 : Int32} {K : Int32 → kS → Prop} (hK : ∀ (x2 : Int32) (τ : kS), K x2 τ → kP X g 4 5 [(0, kz g a0), (1, .int x1), (2, .int x2), (3, .int x3)] [] τ) {x2 : Int32} {σ : kS} (h : b_J7_fill_53178_5 N Q a0 x1 x3 K x2 σ) : kP X g 4 5 [(0, kz g a0), (1, .int x1), (2, .int x2), (3, .int x3)] [] σ := by
  unfold b_J7_fill_53178_5 at h
  refine r_iload_n hc 2 dJ7_fill_53178_5 rfl ?_
  refine r_iload_n hc 3 dJ7_fill_53178_6 rfl ?_
  refine r_ic_ge hc 20 dJ7_fill_53178_7 (by decide) (fun q => ?_) (fun q => ?_)
  · have h := kif_t h q
    exact r_vret (ls0 := []) hZ dJ7_fill_53178_20 h
  · have h := kif_f h q
    refine r_aload_n hc 0 dJ7_fill_53178_10 rfl ?_
    refine r_iload_n hc 2 dJ7_fill_53178_11 rfl ?_
    refine r_iload_n hc 1 dJ7_fill_53178_12 rfl ?_
    obtain ⟨hi_1, h⟩ := h
    refine r_iast hc ha0 hi_1 dJ7_fill_53178_13 ?_
    refine r_nmS (fun σ_2 eσ_2 => ?_)
    have h := h σ_2 eσ_2
    obtain ⟨x2_3, ex2_3⟩ : ∃ v : Int32, v = x2 + 1 := ⟨_, rfl⟩
    have h := h x2_3 ex2_3
    refine r_iinc (v := x2_3) hc 2 [(2, .int x2_3), (0, kz g a0), (1, .int x1), (3, .int x3)] dJ7_fill_53178_14 rfl (by rw [ex2_3]; rfl) (by decide) rfl ?_
    refine r_goto hc 5 dJ7_fill_53178_17 (by decide) ?_
    refine r_sub [1, 2, 0, 3] rfl ?_
    exact hK _ _ h
theorem sl_J7_fill_53178_5 {X : kX} {g : kG} {N : Nat} {Q : kS → Prop} {a0 : Nat} (hc : kOk X g RJ7 cJ7_fill_53178 4 none 0) (hZ : kRw X g cJ7_fill_53178 Q) (ha0 : kInts a0 40) {x1 : Int32} {x3 : Int32} : ∀ (n : Nat) (x2 : Int32) (σ : kS), l_J7_fill_53178_5 N Q a0 x1 x3 n x2 σ → kP X g 4 5 [(0, kz g a0), (1, .int x1), (2, .int x2), (3, .int x3)] [] σ := by
  intro n
  induction n with
  | zero => intro x2 σ h; exact h.elim
  | succ n ih => intro x2 σ h; exact sb_J7_fill_53178_5 hc hZ ha0 ih h
def w_J7_fill_53178 (N : Nat) (σ : kS) (a0 : Nat) (x1 : Int32) (Q : kS → Prop) : Prop :=
  l_J7_fill_53178_5 N Q a0 x1 40  N 0 σ
set_option maxHeartbeats 4000000 in
set_option maxRecDepth 100000 in
theorem s_J7_fill_53178 {X : kX} {g : kG} {N : Nat} {Q : kS → Prop} {a0 : Nat} (hc : kOk X g RJ7 cJ7_fill_53178 4 none 0) (hZ : kRw X g cJ7_fill_53178 Q) (ha0 : kInts a0 40) {σ : kS} {x1 : Int32} (h : w_J7_fill_53178 N σ a0 x1 Q) : kP X g 4 0 [(0, kz g a0), (1, .int x1)] [] σ := by
  unfold w_J7_fill_53178 at h
  refine r_iconst (v := 0) hc dJ7_fill_53178_0 rfl ?_
  refine r_istore_n hc [(2, .int 0), (0, kz g a0), (1, .int x1)] dJ7_fill_53178_1 (by decide) rfl ?_
  refine r_aload_n hc 1 dJ7_fill_53178_2 rfl ?_
  refine r_alen (v := 40) hc ha0 rfl dJ7_fill_53178_3 ?_
  refine r_istore_n hc [(3, .int 40), (2, .int 0), (0, kz g a0), (1, .int x1)] dJ7_fill_53178_4 (by decide) rfl ?_
  refine r_sub [2, 3, 1, 0] rfl ?_
  refine sl_J7_fill_53178_5 hc hZ ha0 _ _ _ h
theorem m_J7_fill_53178 {l : Launch} {g : kG} {N : Nat} {σ : kS} {a0 : Nat} {x1 : Int32} {Q : kS → Prop} (ha0 : kInts a0 40) (h : w_J7_fill_53178 N σ a0 x1 Q) : kMv l g yJ7_fill_53178 cJ7_fill_53178 4 none 0 [kz g a0, .int x1] σ Q :=
  k_met_v (by decide +kernel) rfl (Nat.le_of_ble_eq_true rfl) (fun X hl hc hZ => s_J7_fill_53178 hc hZ ha0 h)
