def w_X5_isFull (N : Nat) (σ : kS) (Q : Int32 → kS → Prop) : Prop :=
  if (σ 31 3) < 120 then (Q 0 σ) else (Q 1 σ)
set_option maxHeartbeats 4000000 in
set_option maxRecDepth 100000 in
theorem s_X5_isFull {X : kX} {g : kG} {N : Nat} {Q : Int32 → kS → Prop} (hc : kOk X g RX5 cX5_isFull 1 (some .boolean) 0) (hZ : kRz X g cX5_isFull Q) {σ : kS} (h : w_X5_isFull N σ Q) : kP X g 1 0 [(0, kz g 31)] [] σ := by
  unfold w_X5_isFull at h
  refine r_aload_n hc 0 dX5_isFull_0 rfl ?_
  refine gf_X5_3 hc lf_X5_15 dX5_isFull_1 ?_
  refine r_bipush (v := 120) hc dX5_isFull_4 rfl ?_
  refine r_ic_lt hc 13 dX5_isFull_6 (by decide) (fun q => ?_) (fun q => ?_)
  · have h := kif_t h q
    refine r_iconst (v := 0) hc dX5_isFull_13 rfl ?_
    exact r_zret (ls0 := []) hZ dX5_isFull_14 (Or.inl rfl) h
  · have h := kif_f h q
    refine r_iconst (v := 1) hc dX5_isFull_9 rfl ?_
    refine r_goto hc 14 dX5_isFull_10 (by decide) ?_
    exact r_zret (ls0 := []) hZ dX5_isFull_14 (Or.inr rfl) h
theorem m_X5_isFull {l : Launch} {g : kG} {N : Nat} {σ : kS} {Q : Int32 → kS → Prop} (h : w_X5_isFull N σ Q) : kMi l g yX5_isFull cX5_isFull 1 (some .boolean) 0 [kz g 31] σ Q :=
  k_met_z (by decide +kernel) rfl (Nat.le_of_ble_eq_true rfl) (fun X hl hc hZ => s_X5_isFull hc hZ h)
def w_X5_append (N : Nat) (σ : kS) (x1 : Int32) (Q : Int32 → kS → Prop) : Prop :=
  vp_in (σ 31 3) 120 ∧ (∀ σ_2 : kS, σ_2 = st2 σ 32 ((σ 31 3).toNatClampNeg) x1 → (∀ σ_3 : kS, σ_3 = st2 σ_2 31 3 ((σ_2 31 3) + 1) → (Q (σ_3 31 3) σ_3)))
set_option maxHeartbeats 4000000 in
set_option maxRecDepth 100000 in
theorem s_X5_append {X : kX} {g : kG} {N : Nat} {Q : Int32 → kS → Prop} (hc : kOk X g RX5 cX5_append 2 (some .int) 0) (hZ : kRi X g cX5_append Q) {σ : kS} {x1 : Int32} (h : w_X5_append N σ x1 Q) : kP X g 2 0 [(0, kz g 31), (1, .int x1)] [] σ := by
  unfold w_X5_append at h
  refine r_aload_n hc 0 dX5_append_0 rfl ?_
  refine gf_X5_0 hc lf_X5_11 dX5_append_1 ?_
  refine r_aload_n hc 0 dX5_append_4 rfl ?_
  refine gf_X5_3 hc lf_X5_15 dX5_append_5 ?_
  refine r_iload_n hc 1 dX5_append_8 rfl ?_
  obtain ⟨hi_1, h⟩ := h
  refine r_iast hc kia_32 hi_1 dX5_append_9 ?_
  refine r_nmS (fun σ_2 eσ_2 => ?_)
  have h := h σ_2 eσ_2
  refine r_aload_n hc 0 dX5_append_10 rfl ?_
  refine r_dup hc dX5_append_11 rfl ?_
  refine gf_X5_3 hc lf_X5_15 dX5_append_12 ?_
  refine r_iconst (v := 1) hc dX5_append_15 rfl ?_
  refine r_iadd hc dX5_append_16 ?_
  refine pf_X5_3 hc lf_X5_15 dX5_append_17 ?_
  refine r_nmS (fun σ_3 eσ_3 => ?_)
  have h := h σ_3 eσ_3
  refine r_aload_n hc 0 dX5_append_20 rfl ?_
  refine gf_X5_3 hc lf_X5_15 dX5_append_21 ?_
  exact r_iret (ls0 := []) hZ dX5_append_24 h
theorem m_X5_append {l : Launch} {g : kG} {N : Nat} {σ : kS} {x1 : Int32} {Q : Int32 → kS → Prop} (h : w_X5_append N σ x1 Q) : kMi l g yX5_append cX5_append 2 (some .int) 0 [kz g 31, .int x1] σ Q :=
  k_met_i (by decide +kernel) rfl (Nat.le_of_ble_eq_true rfl) (fun X hl hc hZ => s_X5_append hc hZ h)
def w_X5_clear (N : Nat) (σ : kS) (Q : kS → Prop) : Prop :=
  ∀ σ_1 : kS, σ_1 = st2 σ 31 3 0 → (Q σ_1)
set_option maxHeartbeats 4000000 in
set_option maxRecDepth 100000 in
theorem s_X5_clear {X : kX} {g : kG} {N : Nat} {Q : kS → Prop} (hc : kOk X g RX5 cX5_clear 1 none 0) (hZ : kRw X g cX5_clear Q) {σ : kS} (h : w_X5_clear N σ Q) : kP X g 1 0 [(0, kz g 31)] [] σ := by
  unfold w_X5_clear at h
  refine r_aload_n hc 0 dX5_clear_0 rfl ?_
  refine r_iconst (v := 0) hc dX5_clear_1 rfl ?_
  refine pf_X5_3 hc lf_X5_15 dX5_clear_2 ?_
  refine r_nmS (fun σ_1 eσ_1 => ?_)
  have h := h σ_1 eσ_1
  exact r_vret (ls0 := []) hZ dX5_clear_5 h
theorem m_X5_clear {l : Launch} {g : kG} {N : Nat} {σ : kS} {Q : kS → Prop} (h : w_X5_clear N σ Q) : kMv l g yX5_clear cX5_clear 1 none 0 [kz g 31] σ Q :=
  k_met_v (by decide +kernel) rfl (Nat.le_of_ble_eq_true rfl) (fun X hl hc hZ => s_X5_clear hc hZ h)
def w_X5_refuse (N : Nat) (σ : kS) (x1 : Int32) (Q : kS → Prop) : Prop :=
  if (σ 31 2) = 0 then (∀ σ_1 : kS, σ_1 = st2 σ 31 2 x1 → (∀ σ_2 : kS, σ_2 = st2 σ_1 31 4 (σ_1 31 1) → (∀ σ_3 : kS, σ_3 = st2 σ_2 31 5 x1 → (Q σ_3)))) else (Q σ)
set_option maxHeartbeats 4000000 in
set_option maxRecDepth 100000 in
theorem s_X5_refuse {X : kX} {g : kG} {N : Nat} {Q : kS → Prop} (hc : kOk X g RX5 cX5_refuse 2 none 0) (hZ : kRw X g cX5_refuse Q) {σ : kS} {x1 : Int32} (h : w_X5_refuse N σ x1 Q) : kP X g 2 0 [(0, kz g 31), (1, .int x1)] [] σ := by
  unfold w_X5_refuse at h
  refine r_aload_n hc 0 dX5_refuse_0 rfl ?_
  refine gf_X5_2 hc lf_X5_22 dX5_refuse_1 ?_
  refine r_if_ne hc 25 dX5_refuse_4 (by decide) (fun q => ?_) (fun q => ?_)
  · have h := kif_t h q
    refine r_aload_n hc 0 dX5_refuse_7 rfl ?_
    refine r_iload_n hc 1 dX5_refuse_8 rfl ?_
    refine pf_X5_2 hc lf_X5_22 dX5_refuse_9 ?_
    refine r_nmS (fun σ_1 eσ_1 => ?_)
    have h := h σ_1 eσ_1
    refine r_aload_n hc 0 dX5_refuse_12 rfl ?_
    refine r_aload_n hc 0 dX5_refuse_13 rfl ?_
    refine gf_X5_1 hc lf_X5_19 dX5_refuse_14 ?_
    refine pf_X5_4 hc lf_X5_113 dX5_refuse_17 ?_
    refine r_nmS (fun σ_2 eσ_2 => ?_)
    have h := h σ_2 eσ_2
    refine r_aload_n hc 0 dX5_refuse_20 rfl ?_
    refine r_iload_n hc 1 dX5_refuse_21 rfl ?_
    refine pf_X5_5 hc lf_X5_116 dX5_refuse_22 ?_
    refine r_nmS (fun σ_3 eσ_3 => ?_)
    have h := h σ_3 eσ_3
    exact r_vret (ls0 := []) hZ dX5_refuse_25 h
  · have h := kif_f h q
    exact r_vret (ls0 := []) hZ dX5_refuse_25 h
theorem m_X5_refuse {l : Launch} {g : kG} {N : Nat} {σ : kS} {x1 : Int32} {Q : kS → Prop} (h : w_X5_refuse N σ x1 Q) : kMv l g yX5_refuse cX5_refuse 2 none 0 [kz g 31, .int x1] σ Q :=
  k_met_v (by decide +kernel) rfl (Nat.le_of_ble_eq_true rfl) (fun X hl hc hZ => s_X5_refuse hc hZ h)
def w_X5_byteAt (N : Nat) (σ : kS) (x1 : Int32) (Q : Int32 → kS → Prop) : Prop :=
  if x1 < 0 then (Q (-1) σ) else (if (σ 31 3) ≤ x1 then (Q (-1) σ) else (vp_in x1 120 ∧ (Q (σ 32 x1.toNatClampNeg) σ)))
set_option maxHeartbeats 4000000 in
set_option maxRecDepth 100000 in
theorem s_X5_byteAt {X : kX} {g : kG} {N : Nat} {Q : Int32 → kS → Prop} (hc : kOk X g RX5 cX5_byteAt 2 (some .int) 0) (hZ : kRi X g cX5_byteAt Q) {σ : kS} {x1 : Int32} (h : w_X5_byteAt N σ x1 Q) : kP X g 2 0 [(0, kz g 31), (1, .int x1)] [] σ := by
  unfold w_X5_byteAt at h
  refine r_iload_n hc 1 dX5_byteAt_0 rfl ?_
  refine r_if_lt hc 21 dX5_byteAt_1 (by decide) (fun q => ?_) (fun q => ?_)
  · have h := kif_t h q
    refine r_iconst (v := (-1)) hc dX5_byteAt_21 rfl ?_
    exact r_iret (ls0 := []) hZ dX5_byteAt_22 h
  · have h := kif_f h q
    refine r_iload_n hc 1 dX5_byteAt_4 rfl ?_
    refine r_aload_n hc 0 dX5_byteAt_5 rfl ?_
    refine gf_X5_3 hc lf_X5_15 dX5_byteAt_6 ?_
    refine r_ic_ge hc 21 dX5_byteAt_9 (by decide) (fun q => ?_) (fun q => ?_)
    · have h := kif_t h q
      refine r_iconst (v := (-1)) hc dX5_byteAt_21 rfl ?_
      exact r_iret (ls0 := []) hZ dX5_byteAt_22 h
    · have h := kif_f h q
      refine r_aload_n hc 0 dX5_byteAt_12 rfl ?_
      refine gf_X5_0 hc lf_X5_11 dX5_byteAt_13 ?_
      refine r_iload_n hc 1 dX5_byteAt_16 rfl ?_
      obtain ⟨hi_1, h⟩ := h
      refine r_iald hc kia_32 hi_1 dX5_byteAt_17 ?_
      refine r_goto hc 22 dX5_byteAt_18 (by decide) ?_
      exact r_iret (ls0 := []) hZ dX5_byteAt_22 h
theorem m_X5_byteAt {l : Launch} {g : kG} {N : Nat} {σ : kS} {x1 : Int32} {Q : Int32 → kS → Prop} (h : w_X5_byteAt N σ x1 Q) : kMi l g yX5_byteAt cX5_byteAt 2 (some .int) 0 [kz g 31, .int x1] σ Q :=
  k_met_i (by decide +kernel) rfl (Nat.le_of_ble_eq_true rfl) (fun X hl hc hZ => s_X5_byteAt hc hZ h)
def w_X5_byteHere (N : Nat) (σ : kS) (Q : Int32 → kS → Prop) : Prop :=
  w_X5_byteAt N σ (σ 31 1) (fun (r_2 : Int32) (σ_1 : kS) => Q r_2 σ_1)
set_option maxHeartbeats 4000000 in
set_option maxRecDepth 100000 in
theorem s_X5_byteHere {X : kX} {g : kG} {N : Nat} {Q : Int32 → kS → Prop} (hc : kOk X g RX5 cX5_byteHere 1 (some .int) 1) (hZ : kRi X g cX5_byteHere Q) {σ : kS} (h : w_X5_byteHere N σ Q) : kP X g 1 0 [(0, kz g 31)] [] σ := by
  unfold w_X5_byteHere at h
  refine r_aload_n hc 0 dX5_byteHere_0 rfl ?_
  refine r_aload_n hc 0 dX5_byteHere_1 rfl ?_
  refine gf_X5_1 hc lf_X5_19 dX5_byteHere_2 ?_
  refine r_callVi (d := 0) hc (m_X5_byteAt h) cw_X5_byteAt wi_X5_byteAt ws_X5_byteAt lm_X5_107 (by decide) (by decide) rv_X5 rfl rfl (Nat.le_of_ble_eq_true rfl) dX5_byteHere_5 (fun r_2 σ_1 h => ?_)
  exact r_iret (ls0 := []) hZ dX5_byteHere_8 h
theorem m_X5_byteHere {l : Launch} {g : kG} {N : Nat} {σ : kS} {Q : Int32 → kS → Prop} (h : w_X5_byteHere N σ Q) : kMi l g yX5_byteHere cX5_byteHere 1 (some .int) 1 [kz g 31] σ Q :=
  k_met_i (by decide +kernel) rfl (Nat.le_of_ble_eq_true rfl) (fun X hl hc hZ => s_X5_byteHere hc hZ h)
def w_X5_sees (N : Nat) (σ : kS) (x1 : Int32) (Q : Int32 → kS → Prop) : Prop :=
  if (σ 31 2) = 0 then (w_X5_byteHere N σ (fun (r_2 : Int32) (σ_1 : kS) => if r_2 = x1 then (Q 1 σ_1) else (Q 0 σ_1))) else (Q 0 σ)
set_option maxHeartbeats 4000000 in
set_option maxRecDepth 100000 in
theorem s_X5_sees {X : kX} {g : kG} {N : Nat} {Q : Int32 → kS → Prop} (hc : kOk X g RX5 cX5_sees 2 (some .boolean) 2) (hZ : kRz X g cX5_sees Q) {σ : kS} {x1 : Int32} (h : w_X5_sees N σ x1 Q) : kP X g 2 0 [(0, kz g 31), (1, .int x1)] [] σ := by
  unfold w_X5_sees at h
  refine r_aload_n hc 0 dX5_sees_0 rfl ?_
  refine gf_X5_2 hc lf_X5_22 dX5_sees_1 ?_
  refine r_if_ne hc 19 dX5_sees_4 (by decide) (fun q => ?_) (fun q => ?_)
  · have h := kif_t h q
    refine r_aload_n hc 0 dX5_sees_7 rfl ?_
    refine r_callVi (d := 1) hc (m_X5_byteHere h) cw_X5_byteHere wi_X5_byteHere ws_X5_byteHere lm_X5_77 (by decide) (by decide) rv_X5 rfl rfl (Nat.le_of_ble_eq_true rfl) dX5_sees_8 (fun r_2 σ_1 h => ?_)
    refine r_iload_n hc 1 dX5_sees_11 rfl ?_
    refine r_ic_ne hc 19 dX5_sees_12 (by decide) (fun q => ?_) (fun q => ?_)
    · have h := kif_t h q
      refine r_iconst (v := 1) hc dX5_sees_15 rfl ?_
      refine r_goto hc 20 dX5_sees_16 (by decide) ?_
      exact r_zret (ls0 := []) hZ dX5_sees_20 (Or.inr rfl) h
    · have h := kif_f h q
      refine r_iconst (v := 0) hc dX5_sees_19 rfl ?_
      exact r_zret (ls0 := []) hZ dX5_sees_20 (Or.inl rfl) h
  · have h := kif_f h q
    refine r_iconst (v := 0) hc dX5_sees_19 rfl ?_
    exact r_zret (ls0 := []) hZ dX5_sees_20 (Or.inl rfl) h
theorem m_X5_sees {l : Launch} {g : kG} {N : Nat} {σ : kS} {x1 : Int32} {Q : Int32 → kS → Prop} (h : w_X5_sees N σ x1 Q) : kMi l g yX5_sees cX5_sees 2 (some .boolean) 2 [kz g 31, .int x1] σ Q :=
  k_met_z (by decide +kernel) rfl (Nat.le_of_ble_eq_true rfl) (fun X hl hc hZ => s_X5_sees hc hZ h)
def w_X5_takeByte (N : Nat) (σ : kS) (x1 : Int32) (Q : kS → Prop) : Prop :=
  w_X5_sees N σ x1 (fun (r_2 : Int32) (σ_1 : kS) => if r_2 = 0 then (w_X5_refuse N σ_1 1 (fun (σ_3 : kS) => Q σ_3)) else (∀ σ_5 : kS, σ_5 = st2 σ_1 31 1 ((σ_1 31 1) + 1) → (Q σ_5)))
set_option maxHeartbeats 4000000 in
set_option maxRecDepth 100000 in
theorem s_X5_takeByte {X : kX} {g : kG} {N : Nat} {Q : kS → Prop} (hc : kOk X g RX5 cX5_takeByte 2 none 3) (hZ : kRw X g cX5_takeByte Q) {σ : kS} {x1 : Int32} (h : w_X5_takeByte N σ x1 Q) : kP X g 2 0 [(0, kz g 31), (1, .int x1)] [] σ := by
  unfold w_X5_takeByte at h
  refine r_aload_n hc 0 dX5_takeByte_0 rfl ?_
  refine r_iload_n hc 1 dX5_takeByte_1 rfl ?_
  refine r_callVi (d := 2) hc (m_X5_sees h) cw_X5_sees wi_X5_sees ws_X5_sees lm_X5_63 (by decide) (by decide) rv_X5 rfl rfl (Nat.le_of_ble_eq_true rfl) dX5_takeByte_2 (fun r_2 σ_1 h => ?_)
  refine r_if_eq hc 21 dX5_takeByte_5 (by decide) (fun q => ?_) (fun q => ?_)
  · have h := kif_t h q
    refine r_aload_n hc 0 dX5_takeByte_21 rfl ?_
    refine r_iconst (v := 1) hc dX5_takeByte_22 rfl ?_
    refine r_callVv (d := 0) hc (m_X5_refuse h) cw_X5_refuse wi_X5_refuse ws_X5_refuse lm_X5_35 (by decide) (by decide) rv_X5 rfl rfl (Nat.le_of_ble_eq_true rfl) dX5_takeByte_23 (fun σ_3 h => ?_)
    exact r_vret (ls0 := []) hZ dX5_takeByte_26 h
  · have h := kif_f h q
    refine r_aload_n hc 0 dX5_takeByte_8 rfl ?_
    refine r_dup hc dX5_takeByte_9 rfl ?_
    refine gf_X5_1 hc lf_X5_19 dX5_takeByte_10 ?_
    refine r_iconst (v := 1) hc dX5_takeByte_13 rfl ?_
    refine r_iadd hc dX5_takeByte_14 ?_
    refine pf_X5_1 hc lf_X5_19 dX5_takeByte_15 ?_
    refine r_nmS (fun σ_5 eσ_5 => ?_)
    have h := h σ_5 eσ_5
    refine r_goto hc 26 dX5_takeByte_18 (by decide) ?_
    exact r_vret (ls0 := []) hZ dX5_takeByte_26 h
theorem m_X5_takeByte {l : Launch} {g : kG} {N : Nat} {σ : kS} {x1 : Int32} {Q : kS → Prop} (h : w_X5_takeByte N σ x1 Q) : kMv l g yX5_takeByte cX5_takeByte 2 none 3 [kz g 31, .int x1] σ Q :=
  k_met_v (by decide +kernel) rfl (Nat.le_of_ble_eq_true rfl) (fun X hl hc hZ => s_X5_takeByte hc hZ h)
def w_X5_isFigure (N : Nat) (σ : kS) (x0 : Int32) (Q : Int32 → kS → Prop) : Prop :=
  if x0 < 48 then (Q 0 σ) else (if 57 < x0 then (Q 0 σ) else (Q 1 σ))
set_option maxHeartbeats 4000000 in
set_option maxRecDepth 100000 in
theorem s_X5_isFigure {X : kX} {g : kG} {N : Nat} {Q : Int32 → kS → Prop} (hc : kOk X g RX5 cX5_isFigure 1 (some .boolean) 0) (hZ : kRz X g cX5_isFigure Q) {σ : kS} {x0 : Int32} (h : w_X5_isFigure N σ x0 Q) : kP X g 1 0 [(0, .int x0)] [] σ := by
  unfold w_X5_isFigure at h
  refine r_iload_n hc 0 dX5_isFigure_0 rfl ?_
  refine r_bipush (v := 48) hc dX5_isFigure_1 rfl ?_
  refine r_ic_lt hc 16 dX5_isFigure_3 (by decide) (fun q => ?_) (fun q => ?_)
  · have h := kif_t h q
    refine r_iconst (v := 0) hc dX5_isFigure_16 rfl ?_
    exact r_zret (ls0 := []) hZ dX5_isFigure_17 (Or.inl rfl) h
  · have h := kif_f h q
    refine r_iload_n hc 0 dX5_isFigure_6 rfl ?_
    refine r_bipush (v := 57) hc dX5_isFigure_7 rfl ?_
    refine r_ic_gt hc 16 dX5_isFigure_9 (by decide) (fun q => ?_) (fun q => ?_)
    · have h := kif_t h q
      refine r_iconst (v := 0) hc dX5_isFigure_16 rfl ?_
      exact r_zret (ls0 := []) hZ dX5_isFigure_17 (Or.inl rfl) h
    · have h := kif_f h q
      refine r_iconst (v := 1) hc dX5_isFigure_12 rfl ?_
      refine r_goto hc 17 dX5_isFigure_13 (by decide) ?_
      exact r_zret (ls0 := []) hZ dX5_isFigure_17 (Or.inr rfl) h
theorem m_X5_isFigure {l : Launch} {g : kG} {N : Nat} {σ : kS} {x0 : Int32} {Q : Int32 → kS → Prop} (h : w_X5_isFigure N σ x0 Q) : kMi l g yX5_isFigure cX5_isFigure 1 (some .boolean) 0 [.int x0] σ Q :=
  k_met_z (by decide +kernel) rfl (Nat.le_of_ble_eq_true rfl) (fun X hl hc hZ => s_X5_isFigure hc hZ h)
def b_X5_figuresHere_2 (N : Nat) (Q : Int32 → kS → Prop) (K : Int32 → kS → Prop) (x1 : Int32) (σ : kS) : Prop :=
  if 2 < x1 then (Q x1 σ) else (w_X5_byteAt N σ ((σ 31 1) + x1) (fun (r_2 : Int32) (σ_1 : kS) => w_X5_isFigure N σ_1 r_2 (fun (r_4 : Int32) (σ_3 : kS) => if r_4 = 0 then (Q x1 σ_3) else (∀ x1_5 : Int32, x1_5 = x1 + 1 → (K x1_5 σ_3)))))
def l_X5_figuresHere_2 (N : Nat) (Q : Int32 → kS → Prop) : Nat → Int32 → kS → Prop
  | 0 => fun _ _ => False
  | n + 1 => b_X5_figuresHere_2 N Q (l_X5_figuresHere_2 N Q n)
set_option maxHeartbeats 4000000 in
set_option maxRecDepth 100000 in
theorem sb_X5_figuresHere_2 {X : kX} {g : kG} {N : Nat} {Q : Int32 → kS → Prop} (hc : kOk X g RX5 cX5_figuresHere 2 (some .int) 1) (hZ : kRi X g cX5_figuresHere Q) {K : Int32 → kS → Prop} (hK : ∀ (x1 : Int32) (τ : kS), K x1 τ → kP X g 2 2 [(0, kz g 31), (1, .int x1)] [] τ) {x1 : Int32} {σ : kS} (h : b_X5_figuresHere_2 N Q K x1 σ) : kP X g 2 2 [(0, kz g 31), (1, .int x1)] [] σ := by
  unfold b_X5_figuresHere_2 at h
  refine r_iload_n hc 1 dX5_figuresHere_2 rfl ?_
  refine r_iconst (v := 2) hc dX5_figuresHere_3 rfl ?_
  refine r_ic_gt hc 29 dX5_figuresHere_4 (by decide) (fun q => ?_) (fun q => ?_)
  · have h := kif_t h q
    refine r_iload_n hc 1 dX5_figuresHere_29 rfl ?_
    exact r_iret (ls0 := []) hZ dX5_figuresHere_30 h
  · have h := kif_f h q
    refine r_aload_n hc 0 dX5_figuresHere_7 rfl ?_
    refine r_aload_n hc 0 dX5_figuresHere_8 rfl ?_
    refine gf_X5_1 hc lf_X5_19 dX5_figuresHere_9 ?_
    refine r_iload_n hc 1 dX5_figuresHere_12 rfl ?_
    refine r_iadd hc dX5_figuresHere_13 ?_
    refine r_callVi (d := 0) hc (m_X5_byteAt h) cw_X5_byteAt wi_X5_byteAt ws_X5_byteAt lm_X5_107 (by decide) (by decide) rv_X5 rfl rfl (Nat.le_of_ble_eq_true rfl) dX5_figuresHere_14 (fun r_2 σ_1 h => ?_)
    refine r_callSi (d := 0) hc (m_X5_isFigure h) cw_X5_isFigure wt_X5_isFigure lm_X5_110 (by decide) (by decide) rfl rfl (Nat.le_of_ble_eq_true rfl) dX5_figuresHere_17 (fun r_4 σ_3 h => ?_)
    refine r_if_eq hc 29 dX5_figuresHere_20 (by decide) (fun q => ?_) (fun q => ?_)
    · have h := kif_t h q
      refine r_iload_n hc 1 dX5_figuresHere_29 rfl ?_
      exact r_iret (ls0 := []) hZ dX5_figuresHere_30 h
    · have h := kif_f h q
      obtain ⟨x1_5, ex1_5⟩ : ∃ v : Int32, v = x1 + 1 := ⟨_, rfl⟩
      have h := h x1_5 ex1_5
      refine r_iinc (v := x1_5) hc 1 [(1, .int x1_5), (0, kz g 31)] dX5_figuresHere_23 rfl (by rw [ex1_5]; rfl) (by decide) rfl ?_
      refine r_goto hc 2 dX5_figuresHere_26 (by decide) ?_
      refine r_sub [1, 0] rfl ?_
      exact hK _ _ h
theorem sl_X5_figuresHere_2 {X : kX} {g : kG} {N : Nat} {Q : Int32 → kS → Prop} (hc : kOk X g RX5 cX5_figuresHere 2 (some .int) 1) (hZ : kRi X g cX5_figuresHere Q) : ∀ (n : Nat) (x1 : Int32) (σ : kS), l_X5_figuresHere_2 N Q n x1 σ → kP X g 2 2 [(0, kz g 31), (1, .int x1)] [] σ := by
  intro n
  induction n with
  | zero => intro x1 σ h; exact h.elim
  | succ n ih => intro x1 σ h; exact sb_X5_figuresHere_2 hc hZ ih h
def w_X5_figuresHere (N : Nat) (σ : kS) (Q : Int32 → kS → Prop) : Prop :=
  l_X5_figuresHere_2 N Q  N 0 σ
set_option maxHeartbeats 4000000 in
set_option maxRecDepth 100000 in
theorem s_X5_figuresHere {X : kX} {g : kG} {N : Nat} {Q : Int32 → kS → Prop} (hc : kOk X g RX5 cX5_figuresHere 2 (some .int) 1) (hZ : kRi X g cX5_figuresHere Q) {σ : kS} (h : w_X5_figuresHere N σ Q) : kP X g 2 0 [(0, kz g 31)] [] σ := by
  unfold w_X5_figuresHere at h
  refine r_iconst (v := 0) hc dX5_figuresHere_0 rfl ?_
  refine r_istore_n hc [(1, .int 0), (0, kz g 31)] dX5_figuresHere_1 (by decide) rfl ?_
  refine r_sub [1, 0] rfl ?_
  refine sl_X5_figuresHere_2 hc hZ _ _ _ h
theorem m_X5_figuresHere {l : Launch} {g : kG} {N : Nat} {σ : kS} {Q : Int32 → kS → Prop} (h : w_X5_figuresHere N σ Q) : kMi l g yX5_figuresHere cX5_figuresHere 2 (some .int) 1 [kz g 31] σ Q :=
  k_met_i (by decide +kernel) rfl (Nat.le_of_ble_eq_true rfl) (fun X hl hc hZ => s_X5_figuresHere hc hZ h)
def b_X5_takeNumber_35 (N : Nat) (Q : Int32 → kS → Prop) (x1 : Int32) (x2 : Int32) (x3 : Int32) (E69 : Int32 → kS → Prop) (K : Int32 → Int32 → kS → Prop) (x4 : Int32) (x5 : Int32) (σ : kS) : Prop :=
  if x3 ≤ x5 then (E69 x4 σ) else (w_X5_byteAt N σ ((σ 31 1) + x5) (fun (r_6 : Int32) (σ_5 : kS) => ∀ x4_7 : Int32, x4_7 = ((x4 * 10) + r_6) - 48 → (∀ x5_8 : Int32, x5_8 = x5 + 1 → (K x4_7 x5_8 σ_5))))
def l_X5_takeNumber_35 (N : Nat) (Q : Int32 → kS → Prop) (x1 : Int32) (x2 : Int32) (x3 : Int32) (E69 : Int32 → kS → Prop) : Nat → Int32 → Int32 → kS → Prop
  | 0 => fun _ _ _ => False
  | n + 1 => b_X5_takeNumber_35 N Q x1 x2 x3 E69 (l_X5_takeNumber_35 N Q x1 x2 x3 E69 n)
set_option maxHeartbeats 4000000 in
set_option maxRecDepth 100000 in
theorem sb_X5_takeNumber_35 {X : kX} {g : kG} {N : Nat} {Q : Int32 → kS → Prop} (hc : kOk X g RX5 cX5_takeNumber 6 (some .int) 2) (hZ : kRi X g cX5_takeNumber Q) {x1 : Int32} {x2 : Int32} {x3 : Int32} {E69 : Int32 → kS → Prop} (hE69 : ∀ (x4 : Int32) (τ : kS), E69 x4 τ → kP X g 6 69 [(0, kz g 31), (1, .int x1), (2, .int x2), (3, .int x3), (4, .int x4)] [] τ) {K : Int32 → Int32 → kS → Prop} (hK : ∀ (x4 : Int32) (x5 : Int32) (τ : kS), K x4 x5 τ → kP X g 6 35 [(0, kz g 31), (1, .int x1), (2, .int x2), (3, .int x3), (4, .int x4), (5, .int x5)] [] τ) {x4 : Int32} {x5 : Int32} {σ : kS} (h : b_X5_takeNumber_35 N Q x1 x2 x3 E69 K x4 x5 σ) : kP X g 6 35 [(0, kz g 31), (1, .int x1), (2, .int x2), (3, .int x3), (4, .int x4), (5, .int x5)] [] σ := by
  unfold b_X5_takeNumber_35 at h
  refine r_iload hc 5 dX5_takeNumber_35 rfl ?_
  refine r_iload_n hc 3 dX5_takeNumber_37 rfl ?_
  refine r_ic_ge hc 69 dX5_takeNumber_38 (by decide) (fun q => ?_) (fun q => ?_)
  · have h := kif_t h q
    refine r_sub [0, 1, 2, 3, 4] rfl ?_
    exact hE69 _ _ h
  · have h := kif_f h q
    refine r_iload hc 4 dX5_takeNumber_41 rfl ?_
    refine r_bipush (v := 10) hc dX5_takeNumber_43 rfl ?_
    refine r_imul hc dX5_takeNumber_45 ?_
    refine r_aload_n hc 0 dX5_takeNumber_46 rfl ?_
    refine r_aload_n hc 0 dX5_takeNumber_47 rfl ?_
    refine gf_X5_1 hc lf_X5_19 dX5_takeNumber_48 ?_
    refine r_iload hc 5 dX5_takeNumber_51 rfl ?_
    refine r_iadd hc dX5_takeNumber_53 ?_
    refine r_callVi (d := 0) hc (m_X5_byteAt h) cw_X5_byteAt wi_X5_byteAt ws_X5_byteAt lm_X5_107 (by decide) (by decide) rv_X5 rfl rfl (Nat.le_of_ble_eq_true rfl) dX5_takeNumber_54 (fun r_6 σ_5 h => ?_)
    refine r_iadd hc dX5_takeNumber_57 ?_
    refine r_bipush (v := 48) hc dX5_takeNumber_58 rfl ?_
    refine r_isub hc dX5_takeNumber_60 ?_
    refine r_nmI (fun x4_7 ex4_7 => ?_)
    have h := h x4_7 ex4_7
    refine r_istore hc [(4, .int x4_7), (0, kz g 31), (1, .int x1), (2, .int x2), (3, .int x3), (5, .int x5)] dX5_takeNumber_61 (by decide) rfl ?_
    obtain ⟨x5_8, ex5_8⟩ : ∃ v : Int32, v = x5 + 1 := ⟨_, rfl⟩
    have h := h x5_8 ex5_8
    refine r_iinc (v := x5_8) hc 5 [(5, .int x5_8), (4, .int x4_7), (0, kz g 31), (1, .int x1), (2, .int x2), (3, .int x3)] dX5_takeNumber_63 rfl (by rw [ex5_8]; rfl) (by decide) rfl ?_
    refine r_goto hc 35 dX5_takeNumber_66 (by decide) ?_
    refine r_sub [2, 3, 4, 5, 1, 0] rfl ?_
    exact hK _ _ _ h
theorem sl_X5_takeNumber_35 {X : kX} {g : kG} {N : Nat} {Q : Int32 → kS → Prop} (hc : kOk X g RX5 cX5_takeNumber 6 (some .int) 2) (hZ : kRi X g cX5_takeNumber Q) {x1 : Int32} {x2 : Int32} {x3 : Int32} {E69 : Int32 → kS → Prop} (hE69 : ∀ (x4 : Int32) (τ : kS), E69 x4 τ → kP X g 6 69 [(0, kz g 31), (1, .int x1), (2, .int x2), (3, .int x3), (4, .int x4)] [] τ) : ∀ (n : Nat) (x4 : Int32) (x5 : Int32) (σ : kS), l_X5_takeNumber_35 N Q x1 x2 x3 E69 n x4 x5 σ → kP X g 6 35 [(0, kz g 31), (1, .int x1), (2, .int x2), (3, .int x3), (4, .int x4), (5, .int x5)] [] σ := by
  intro n
  induction n with
  | zero => intro x4 x5 σ h; exact h.elim
  | succ n ih => intro x4 x5 σ h; exact sb_X5_takeNumber_35 hc hZ hE69 ih h
def w_X5_takeNumber (N : Nat) (σ : kS) (x1 : Int32) (x2 : Int32) (Q : Int32 → kS → Prop) : Prop :=
  w_X5_figuresHere N σ (fun (r_2 : Int32) (σ_1 : kS) => if (σ_1 31 2) = 0 then (if r_2 < 1 then (w_X5_refuse N σ_1 1 (fun (σ_3 : kS) => Q x1 σ_3)) else (if r_2 ≤ 2 then (l_X5_takeNumber_35 N Q x1 x2 r_2 (fun (x4_9 : Int32) (σ_10 : kS) => if x4_9 < x1 then (w_X5_refuse N σ_10 2 (fun (σ_11 : kS) => Q x1 σ_11)) else (if x4_9 ≤ x2 then (∀ σ_13 : kS, σ_13 = st2 σ_10 31 1 ((σ_10 31 1) + r_2) → (Q x4_9 σ_13)) else (w_X5_refuse N σ_10 2 (fun (σ_14 : kS) => Q x1 σ_14)))) N 0 0 σ_1) else (w_X5_refuse N σ_1 1 (fun (σ_16 : kS) => Q x1 σ_16)))) else (w_X5_refuse N σ_1 1 (fun (σ_18 : kS) => Q x1 σ_18)))
set_option maxHeartbeats 4000000 in
set_option maxRecDepth 100000 in
theorem s_X5_takeNumber {X : kX} {g : kG} {N : Nat} {Q : Int32 → kS → Prop} (hc : kOk X g RX5 cX5_takeNumber 6 (some .int) 2) (hZ : kRi X g cX5_takeNumber Q) {σ : kS} {x1 : Int32} {x2 : Int32} (h : w_X5_takeNumber N σ x1 x2 Q) : kP X g 6 0 [(0, kz g 31), (1, .int x1), (2, .int x2)] [] σ := by
  unfold w_X5_takeNumber at h
  refine r_aload_n hc 0 dX5_takeNumber_0 rfl ?_
  refine r_callVi (d := 1) hc (m_X5_figuresHere h) cw_X5_figuresHere wi_X5_figuresHere ws_X5_figuresHere lm_X5_104 (by decide) (by decide) rv_X5 rfl rfl (Nat.le_of_ble_eq_true rfl) dX5_takeNumber_1 (fun r_2 σ_1 h => ?_)
  refine r_istore_n hc [(3, .int r_2), (0, kz g 31), (1, .int x1), (2, .int x2)] dX5_takeNumber_4 (by decide) rfl ?_
  refine r_aload_n hc 1 dX5_takeNumber_5 rfl ?_
  refine gf_X5_2 hc lf_X5_22 dX5_takeNumber_6 ?_
  refine r_if_ne hc 22 dX5_takeNumber_9 (by decide) (fun q => ?_) (fun q => ?_)
  · have h := kif_t h q
    refine r_iload_n hc 0 dX5_takeNumber_12 rfl ?_
    refine r_iconst (v := 1) hc dX5_takeNumber_13 rfl ?_
    refine r_ic_lt hc 22 dX5_takeNumber_14 (by decide) (fun q => ?_) (fun q => ?_)
    · have h := kif_t h q
      refine r_aload_n hc 1 dX5_takeNumber_22 rfl ?_
      refine r_iconst (v := 1) hc dX5_takeNumber_23 rfl ?_
      refine r_callVv (d := 0) hc (m_X5_refuse h) cw_X5_refuse wi_X5_refuse ws_X5_refuse lm_X5_35 (by decide) (by decide) rv_X5 rfl rfl (Nat.le_of_ble_eq_true rfl) dX5_takeNumber_24 (fun σ_3 h => ?_)
      refine r_iload_n hc 2 dX5_takeNumber_27 rfl ?_
      exact r_iret (ls0 := []) hZ dX5_takeNumber_28 h
    · have h := kif_f h q
      refine r_iload_n hc 0 dX5_takeNumber_17 rfl ?_
      refine r_iconst (v := 2) hc dX5_takeNumber_18 rfl ?_
      refine r_ic_le hc 29 dX5_takeNumber_19 (by decide) (fun q => ?_) (fun q => ?_)
      · have h := kif_t h q
        refine r_iconst (v := 0) hc dX5_takeNumber_29 rfl ?_
        refine r_istore hc [(4, .int 0), (3, .int r_2), (0, kz g 31), (1, .int x1), (2, .int x2)] dX5_takeNumber_30 (by decide) rfl ?_
        refine r_iconst (v := 0) hc dX5_takeNumber_32 rfl ?_
        refine r_istore hc [(5, .int 0), (4, .int 0), (3, .int r_2), (0, kz g 31), (1, .int x1), (2, .int x2)] dX5_takeNumber_33 (by decide) rfl ?_
        refine r_sub [3, 4, 5, 2, 1, 0] rfl ?_
        refine sl_X5_takeNumber_35 hc hZ (fun x4_9 σ_10 h => ?_) _ _ _ _ h
        refine r_iload hc 4 dX5_takeNumber_69 rfl ?_
        refine r_iload_n hc 1 dX5_takeNumber_71 rfl ?_
        refine r_ic_lt hc 81 dX5_takeNumber_72 (by decide) (fun q => ?_) (fun q => ?_)
        · have h := kif_t h q
          refine r_aload_n hc 0 dX5_takeNumber_81 rfl ?_
          refine r_iconst (v := 2) hc dX5_takeNumber_82 rfl ?_
          refine r_callVv (d := 0) hc (m_X5_refuse h) cw_X5_refuse wi_X5_refuse ws_X5_refuse lm_X5_35 (by decide) (by decide) rv_X5 rfl rfl (Nat.le_of_ble_eq_true rfl) dX5_takeNumber_83 (fun σ_11 h => ?_)
          refine r_iload_n hc 1 dX5_takeNumber_86 rfl ?_
          exact r_iret (ls0 := []) hZ dX5_takeNumber_87 h
        · have h := kif_f h q
          refine r_iload hc 4 dX5_takeNumber_75 rfl ?_
          refine r_iload_n hc 2 dX5_takeNumber_77 rfl ?_
          refine r_ic_le hc 88 dX5_takeNumber_78 (by decide) (fun q => ?_) (fun q => ?_)
          · have h := kif_t h q
            refine r_aload_n hc 0 dX5_takeNumber_88 rfl ?_
            refine r_dup hc dX5_takeNumber_89 rfl ?_
            refine gf_X5_1 hc lf_X5_19 dX5_takeNumber_90 ?_
            refine r_iload_n hc 3 dX5_takeNumber_93 rfl ?_
            refine r_iadd hc dX5_takeNumber_94 ?_
            refine pf_X5_1 hc lf_X5_19 dX5_takeNumber_95 ?_
            refine r_nmS (fun σ_13 eσ_13 => ?_)
            have h := h σ_13 eσ_13
            refine r_iload hc 4 dX5_takeNumber_98 rfl ?_
            exact r_iret (ls0 := []) hZ dX5_takeNumber_100 h
          · have h := kif_f h q
            refine r_aload_n hc 0 dX5_takeNumber_81 rfl ?_
            refine r_iconst (v := 2) hc dX5_takeNumber_82 rfl ?_
            refine r_callVv (d := 0) hc (m_X5_refuse h) cw_X5_refuse wi_X5_refuse ws_X5_refuse lm_X5_35 (by decide) (by decide) rv_X5 rfl rfl (Nat.le_of_ble_eq_true rfl) dX5_takeNumber_83 (fun σ_14 h => ?_)
            refine r_iload_n hc 1 dX5_takeNumber_86 rfl ?_
            exact r_iret (ls0 := []) hZ dX5_takeNumber_87 h
      · have h := kif_f h q
        refine r_aload_n hc 1 dX5_takeNumber_22 rfl ?_
        refine r_iconst (v := 1) hc dX5_takeNumber_23 rfl ?_
        refine r_callVv (d := 0) hc (m_X5_refuse h) cw_X5_refuse wi_X5_refuse ws_X5_refuse lm_X5_35 (by decide) (by decide) rv_X5 rfl rfl (Nat.le_of_ble_eq_true rfl) dX5_takeNumber_24 (fun σ_16 h => ?_)
        refine r_iload_n hc 2 dX5_takeNumber_27 rfl ?_
        exact r_iret (ls0 := []) hZ dX5_takeNumber_28 h
  · have h := kif_f h q
    refine r_aload_n hc 1 dX5_takeNumber_22 rfl ?_
    refine r_iconst (v := 1) hc dX5_takeNumber_23 rfl ?_
    refine r_callVv (d := 0) hc (m_X5_refuse h) cw_X5_refuse wi_X5_refuse ws_X5_refuse lm_X5_35 (by decide) (by decide) rv_X5 rfl rfl (Nat.le_of_ble_eq_true rfl) dX5_takeNumber_24 (fun σ_18 h => ?_)
    refine r_iload_n hc 2 dX5_takeNumber_27 rfl ?_
    exact r_iret (ls0 := []) hZ dX5_takeNumber_28 h
theorem m_X5_takeNumber {l : Launch} {g : kG} {N : Nat} {σ : kS} {x1 : Int32} {x2 : Int32} {Q : Int32 → kS → Prop} (h : w_X5_takeNumber N σ x1 x2 Q) : kMi l g yX5_takeNumber cX5_takeNumber 6 (some .int) 2 [kz g 31, .int x1, .int x2] σ Q :=
  k_met_i (by decide +kernel) rfl (Nat.le_of_ble_eq_true rfl) (fun X hl hc hZ => s_X5_takeNumber hc hZ h)
def w_X5_readLaw (N : Nat) (σ : kS) (a1 : Nat) (Q : kS → Prop) : Prop :=
  w_X5_takeByte N σ 107 (fun (σ_1 : kS) => w_X5_takeNumber N σ_1 2 12 (fun (r_4 : Int32) (σ_3 : kS) => ∀ σ_5 : kS, σ_5 = st2 σ_3 a1 5 r_4 → (w_X5_takeByte N σ_5 44 (fun (σ_6 : kS) => w_X5_takeNumber N σ_6 0 ((σ_6 a1 5) - 1) (fun (r_9 : Int32) (σ_8 : kS) => ∀ σ_10 : kS, σ_10 = st2 σ_8 a1 6 r_9 → (w_X5_takeByte N σ_10 44 (fun (σ_11 : kS) => w_X5_takeNumber N σ_11 0 ((σ_11 a1 5) - 1) (fun (r_14 : Int32) (σ_13 : kS) => ∀ σ_15 : kS, σ_15 = st2 σ_13 a1 7 r_14 → (w_X5_takeByte N σ_15 59 (fun (σ_16 : kS) => ∀ σ_18 : kS, σ_18 = st2 σ_16 a1 8 0 → (Q σ_18)))))))))))
set_option maxHeartbeats 4000000 in
set_option maxRecDepth 100000 in
theorem s_X5_readLaw {X : kX} {g : kG} {N : Nat} {Q : kS → Prop} {a1 : Nat} (hc : kOk X g RX5 cX5_readLaw 2 none 4) (hZ : kRw X g cX5_readLaw Q) (ha1 : kHall a1) {σ : kS} (h : w_X5_readLaw N σ a1 Q) : kP X g 2 0 [(0, kz g 31), (1, kz g a1)] [] σ := by
  unfold w_X5_readLaw at h
  refine r_aload_n hc 0 dX5_readLaw_0 rfl ?_
  refine r_bipush (v := 107) hc dX5_readLaw_1 rfl ?_
  refine r_callVv (d := 3) hc (m_X5_takeByte h) cw_X5_takeByte wi_X5_takeByte ws_X5_takeByte lm_X5_39 (by decide) (by decide) rv_X5 rfl rfl (Nat.le_of_ble_eq_true rfl) dX5_readLaw_3 (fun σ_1 h => ?_)
  refine r_aload_n hc 1 dX5_readLaw_6 rfl ?_
  refine r_aload_n hc 0 dX5_readLaw_7 rfl ?_
  refine r_iconst (v := 2) hc dX5_readLaw_8 rfl ?_
  refine r_bipush (v := 12) hc dX5_readLaw_9 rfl ?_
  refine r_callVi (d := 2) hc (m_X5_takeNumber h) cw_X5_takeNumber wi_X5_takeNumber ws_X5_takeNumber lm_X5_44 (by decide) (by decide) rv_X5 rfl rfl (Nat.le_of_ble_eq_true rfl) dX5_readLaw_11 (fun r_4 σ_3 h => ?_)
  refine pf_X3_5 hc ha1 lf_X5_48 dX5_readLaw_14 ?_
  refine r_nmS (fun σ_5 eσ_5 => ?_)
  have h := h σ_5 eσ_5
  refine r_aload_n hc 0 dX5_readLaw_17 rfl ?_
  refine r_bipush (v := 44) hc dX5_readLaw_18 rfl ?_
  refine r_callVv (d := 3) hc (m_X5_takeByte h) cw_X5_takeByte wi_X5_takeByte ws_X5_takeByte lm_X5_39 (by decide) (by decide) rv_X5 rfl rfl (Nat.le_of_ble_eq_true rfl) dX5_readLaw_20 (fun σ_6 h => ?_)
  refine r_aload_n hc 1 dX5_readLaw_23 rfl ?_
  refine r_aload_n hc 0 dX5_readLaw_24 rfl ?_
  refine r_iconst (v := 0) hc dX5_readLaw_25 rfl ?_
  refine r_aload_n hc 1 dX5_readLaw_26 rfl ?_
  refine gf_X3_5 hc ha1 lf_X5_48 dX5_readLaw_27 ?_
  refine r_iconst (v := 1) hc dX5_readLaw_30 rfl ?_
  refine r_isub hc dX5_readLaw_31 ?_
  refine r_callVi (d := 2) hc (m_X5_takeNumber h) cw_X5_takeNumber wi_X5_takeNumber ws_X5_takeNumber lm_X5_44 (by decide) (by decide) rv_X5 rfl rfl (Nat.le_of_ble_eq_true rfl) dX5_readLaw_32 (fun r_9 σ_8 h => ?_)
  refine pf_X3_6 hc ha1 lf_X5_51 dX5_readLaw_35 ?_
  refine r_nmS (fun σ_10 eσ_10 => ?_)
  have h := h σ_10 eσ_10
  refine r_aload_n hc 0 dX5_readLaw_38 rfl ?_
  refine r_bipush (v := 44) hc dX5_readLaw_39 rfl ?_
  refine r_callVv (d := 3) hc (m_X5_takeByte h) cw_X5_takeByte wi_X5_takeByte ws_X5_takeByte lm_X5_39 (by decide) (by decide) rv_X5 rfl rfl (Nat.le_of_ble_eq_true rfl) dX5_readLaw_41 (fun σ_11 h => ?_)
  refine r_aload_n hc 1 dX5_readLaw_44 rfl ?_
  refine r_aload_n hc 0 dX5_readLaw_45 rfl ?_
  refine r_iconst (v := 0) hc dX5_readLaw_46 rfl ?_
  refine r_aload_n hc 1 dX5_readLaw_47 rfl ?_
  refine gf_X3_5 hc ha1 lf_X5_48 dX5_readLaw_48 ?_
  refine r_iconst (v := 1) hc dX5_readLaw_51 rfl ?_
  refine r_isub hc dX5_readLaw_52 ?_
  refine r_callVi (d := 2) hc (m_X5_takeNumber h) cw_X5_takeNumber wi_X5_takeNumber ws_X5_takeNumber lm_X5_44 (by decide) (by decide) rv_X5 rfl rfl (Nat.le_of_ble_eq_true rfl) dX5_readLaw_53 (fun r_14 σ_13 h => ?_)
  refine pf_X3_7 hc ha1 lf_X5_54 dX5_readLaw_56 ?_
  refine r_nmS (fun σ_15 eσ_15 => ?_)
  have h := h σ_15 eσ_15
  refine r_aload_n hc 0 dX5_readLaw_59 rfl ?_
  refine r_bipush (v := 59) hc dX5_readLaw_60 rfl ?_
  refine r_callVv (d := 3) hc (m_X5_takeByte h) cw_X5_takeByte wi_X5_takeByte ws_X5_takeByte lm_X5_39 (by decide) (by decide) rv_X5 rfl rfl (Nat.le_of_ble_eq_true rfl) dX5_readLaw_62 (fun σ_16 h => ?_)
  refine r_aload_n hc 1 dX5_readLaw_65 rfl ?_
  refine r_iconst (v := 0) hc dX5_readLaw_66 rfl ?_
  refine pf_X3_8 hc ha1 lf_X5_57 dX5_readLaw_67 ?_
  refine r_nmS (fun σ_18 eσ_18 => ?_)
  have h := h σ_18 eσ_18
  exact r_vret (ls0 := []) hZ dX5_readLaw_70 h
theorem m_X5_readLaw {l : Launch} {g : kG} {N : Nat} {σ : kS} {a1 : Nat} {Q : kS → Prop} (ha1 : kHall a1) (h : w_X5_readLaw N σ a1 Q) : kMv l g yX5_readLaw cX5_readLaw 2 none 4 [kz g 31, kz g a1] σ Q :=
  k_met_v (by decide +kernel) rfl (Nat.le_of_ble_eq_true rfl) (fun X hl hc hZ => s_X5_readLaw hc hZ ha1 h)
def w_X5_seesString (N : Nat) (σ : kS) (x1 : Int32) (Q : Int32 → kS → Prop) : Prop :=
  w_X5_byteHere N σ (fun (r_2 : Int32) (σ_1 : kS) => ∀ x2_3 : Int32, x2_3 = r_2 - 97 → (if (σ_1 31 2) = 0 then (if x2_3 < 0 then (Q 0 σ_1) else (if x1 ≤ x2_3 then (Q 0 σ_1) else (Q 1 σ_1))) else (Q 0 σ_1)))
set_option maxHeartbeats 4000000 in
set_option maxRecDepth 100000 in
theorem s_X5_seesString {X : kX} {g : kG} {N : Nat} {Q : Int32 → kS → Prop} (hc : kOk X g RX5 cX5_seesString 3 (some .boolean) 2) (hZ : kRz X g cX5_seesString Q) {σ : kS} {x1 : Int32} (h : w_X5_seesString N σ x1 Q) : kP X g 3 0 [(0, kz g 31), (1, .int x1)] [] σ := by
  unfold w_X5_seesString at h
  refine r_aload_n hc 0 dX5_seesString_0 rfl ?_
  refine r_callVi (d := 1) hc (m_X5_byteHere h) cw_X5_byteHere wi_X5_byteHere ws_X5_byteHere lm_X5_77 (by decide) (by decide) rv_X5 rfl rfl (Nat.le_of_ble_eq_true rfl) dX5_seesString_1 (fun r_2 σ_1 h => ?_)
  refine r_bipush (v := 97) hc dX5_seesString_4 rfl ?_
  refine r_isub hc dX5_seesString_6 ?_
  refine r_nmI (fun x2_3 ex2_3 => ?_)
  have h := h x2_3 ex2_3
  refine r_istore_n hc [(2, .int x2_3), (0, kz g 31), (1, .int x1)] dX5_seesString_7 (by decide) rfl ?_
  refine r_aload_n hc 1 dX5_seesString_8 rfl ?_
  refine gf_X5_2 hc lf_X5_22 dX5_seesString_9 ?_
  refine r_if_ne hc 28 dX5_seesString_12 (by decide) (fun q => ?_) (fun q => ?_)
  · have h := kif_t h q
    refine r_iload_n hc 0 dX5_seesString_15 rfl ?_
    refine r_if_lt hc 28 dX5_seesString_16 (by decide) (fun q => ?_) (fun q => ?_)
    · have h := kif_t h q
      refine r_iconst (v := 0) hc dX5_seesString_28 rfl ?_
      exact r_zret (ls0 := []) hZ dX5_seesString_29 (Or.inl rfl) h
    · have h := kif_f h q
      refine r_iload_n hc 0 dX5_seesString_19 rfl ?_
      refine r_iload_n hc 2 dX5_seesString_20 rfl ?_
      refine r_ic_ge hc 28 dX5_seesString_21 (by decide) (fun q => ?_) (fun q => ?_)
      · have h := kif_t h q
        refine r_iconst (v := 0) hc dX5_seesString_28 rfl ?_
        exact r_zret (ls0 := []) hZ dX5_seesString_29 (Or.inl rfl) h
      · have h := kif_f h q
        refine r_iconst (v := 1) hc dX5_seesString_24 rfl ?_
        refine r_goto hc 29 dX5_seesString_25 (by decide) ?_
        exact r_zret (ls0 := []) hZ dX5_seesString_29 (Or.inr rfl) h
  · have h := kif_f h q
    refine r_iconst (v := 0) hc dX5_seesString_28 rfl ?_
    exact r_zret (ls0 := []) hZ dX5_seesString_29 (Or.inl rfl) h
theorem m_X5_seesString {l : Launch} {g : kG} {N : Nat} {σ : kS} {x1 : Int32} {Q : Int32 → kS → Prop} (h : w_X5_seesString N σ x1 Q) : kMi l g yX5_seesString cX5_seesString 3 (some .boolean) 2 [kz g 31, .int x1] σ Q :=
  k_met_z (by decide +kernel) rfl (Nat.le_of_ble_eq_true rfl) (fun X hl hc hZ => s_X5_seesString hc hZ h)
def b_X5_readStrings_2 (N : Nat) (Q : kS → Prop) (a1 : Nat) (x2 : Int32) (E53 : Int32 → kS → Prop) (K : Int32 → kS → Prop) (x3 : Int32) (σ : kS) : Prop :=
  if 8 ≤ x3 then (E53 x3 σ) else (w_X5_seesString N σ (σ a1 5) (fun (r_2 : Int32) (σ_1 : kS) => if r_2 = 0 then (E53 x3 σ_1) else (w_X5_byteHere N σ_1 (fun (r_4 : Int32) (σ_3 : kS) => vp_in ((x2 * 8) + x3) 32 ∧ (∀ σ_6 : kS, σ_6 = st2 σ_3 (a1 + 2) (((x2 * 8) + x3).toNatClampNeg) (r_4 - 97) → (∀ σ_7 : kS, σ_7 = st2 σ_6 31 1 ((σ_6 31 1) + 1) → (∀ x3_8 : Int32, x3_8 = x3 + 1 → (K x3_8 σ_7))))))))
def l_X5_readStrings_2 (N : Nat) (Q : kS → Prop) (a1 : Nat) (x2 : Int32) (E53 : Int32 → kS → Prop) : Nat → Int32 → kS → Prop
  | 0 => fun _ _ => False
  | n + 1 => b_X5_readStrings_2 N Q a1 x2 E53 (l_X5_readStrings_2 N Q a1 x2 E53 n)
set_option maxHeartbeats 4000000 in
set_option maxRecDepth 100000 in
theorem sb_X5_readStrings_2 {X : kX} {g : kG} {N : Nat} {Q : kS → Prop} {a1 : Nat} (hc : kOk X g RX5 cX5_readStrings 4 none 3) (hZ : kRw X g cX5_readStrings Q) (ha1 : kHall a1) {x2 : Int32} {E53 : Int32 → kS → Prop} (hE53 : ∀ (x3 : Int32) (τ : kS), E53 x3 τ → kP X g 4 53 [(0, kz g 31), (1, kz g a1), (2, .int x2), (3, .int x3)] [] τ) {K : Int32 → kS → Prop} (hK : ∀ (x3 : Int32) (τ : kS), K x3 τ → kP X g 4 2 [(0, kz g 31), (1, kz g a1), (2, .int x2), (3, .int x3)] [] τ) {x3 : Int32} {σ : kS} (h : b_X5_readStrings_2 N Q a1 x2 E53 K x3 σ) : kP X g 4 2 [(0, kz g 31), (1, kz g a1), (2, .int x2), (3, .int x3)] [] σ := by
  unfold b_X5_readStrings_2 at h
  refine r_iload_n hc 3 dX5_readStrings_2 rfl ?_
  refine r_bipush (v := 8) hc dX5_readStrings_3 rfl ?_
  refine r_ic_ge hc 53 dX5_readStrings_5 (by decide) (fun q => ?_) (fun q => ?_)
  · have h := kif_t h q
    exact hE53 _ _ h
  · have h := kif_f h q
    refine r_aload_n hc 0 dX5_readStrings_8 rfl ?_
    refine r_aload_n hc 1 dX5_readStrings_9 rfl ?_
    refine gf_X3_5 hc ha1 lf_X5_48 dX5_readStrings_10 ?_
    refine r_callVi (d := 2) hc (m_X5_seesString h) cw_X5_seesString wi_X5_seesString ws_X5_seesString lm_X5_71 (by decide) (by decide) rv_X5 rfl rfl (Nat.le_of_ble_eq_true rfl) dX5_readStrings_13 (fun r_2 σ_1 h => ?_)
    refine r_if_eq hc 53 dX5_readStrings_16 (by decide) (fun q => ?_) (fun q => ?_)
    · have h := kif_t h q
      exact hE53 _ _ h
    · have h := kif_f h q
      refine r_aload_n hc 1 dX5_readStrings_19 rfl ?_
      refine gf_X3_1 hc ha1 lf_X5_74 dX5_readStrings_20 ?_
      refine r_iload_n hc 2 dX5_readStrings_23 rfl ?_
      refine r_bipush (v := 8) hc dX5_readStrings_24 rfl ?_
      refine r_imul hc dX5_readStrings_26 ?_
      refine r_iload_n hc 3 dX5_readStrings_27 rfl ?_
      refine r_iadd hc dX5_readStrings_28 ?_
      refine r_aload_n hc 0 dX5_readStrings_29 rfl ?_
      refine r_callVi (d := 1) hc (m_X5_byteHere h) cw_X5_byteHere wi_X5_byteHere ws_X5_byteHere lm_X5_77 (by decide) (by decide) rv_X5 rfl rfl (Nat.le_of_ble_eq_true rfl) dX5_readStrings_30 (fun r_4 σ_3 h => ?_)
      refine r_bipush (v := 97) hc dX5_readStrings_33 rfl ?_
      refine r_isub hc dX5_readStrings_35 ?_
      obtain ⟨hi_5, h⟩ := h
      refine r_iast hc (kia_Hall_2 ha1) hi_5 dX5_readStrings_36 ?_
      refine r_nmS (fun σ_6 eσ_6 => ?_)
      have h := h σ_6 eσ_6
      refine r_aload_n hc 0 dX5_readStrings_37 rfl ?_
      refine r_dup hc dX5_readStrings_38 rfl ?_
      refine gf_X5_1 hc lf_X5_19 dX5_readStrings_39 ?_
      refine r_iconst (v := 1) hc dX5_readStrings_42 rfl ?_
      refine r_iadd hc dX5_readStrings_43 ?_
      refine pf_X5_1 hc lf_X5_19 dX5_readStrings_44 ?_
      refine r_nmS (fun σ_7 eσ_7 => ?_)
      have h := h σ_7 eσ_7
      obtain ⟨x3_8, ex3_8⟩ : ∃ v : Int32, v = x3 + 1 := ⟨_, rfl⟩
      have h := h x3_8 ex3_8
      refine r_iinc (v := x3_8) hc 3 [(3, .int x3_8), (0, kz g 31), (1, kz g a1), (2, .int x2)] dX5_readStrings_47 rfl (by rw [ex3_8]; rfl) (by decide) rfl ?_
      refine r_goto hc 2 dX5_readStrings_50 (by decide) ?_
      refine r_sub [1, 2, 3, 0] rfl ?_
      exact hK _ _ h
theorem sl_X5_readStrings_2 {X : kX} {g : kG} {N : Nat} {Q : kS → Prop} {a1 : Nat} (hc : kOk X g RX5 cX5_readStrings 4 none 3) (hZ : kRw X g cX5_readStrings Q) (ha1 : kHall a1) {x2 : Int32} {E53 : Int32 → kS → Prop} (hE53 : ∀ (x3 : Int32) (τ : kS), E53 x3 τ → kP X g 4 53 [(0, kz g 31), (1, kz g a1), (2, .int x2), (3, .int x3)] [] τ) : ∀ (n : Nat) (x3 : Int32) (σ : kS), l_X5_readStrings_2 N Q a1 x2 E53 n x3 σ → kP X g 4 2 [(0, kz g 31), (1, kz g a1), (2, .int x2), (3, .int x3)] [] σ := by
  intro n
  induction n with
  | zero => intro x3 σ h; exact h.elim
  | succ n ih => intro x3 σ h; exact sb_X5_readStrings_2 hc hZ ha1 hE53 ih h
def j_X5_readStrings_53 (N : Nat) (Q : kS → Prop) (a1 : Nat) (x2 : Int32) (x3 : Int32) (σ : kS) : Prop :=
  if x3 = 0 then (w_X5_refuse N σ 1 (fun (σ_11 : kS) => vp_in x2 4 ∧ (∀ σ_14 : kS, σ_14 = st2 σ_11 (a1 + 1) (x2.toNatClampNeg) x3 → (Q σ_14)))) else (vp_in x2 4 ∧ (∀ σ_16 : kS, σ_16 = st2 σ (a1 + 1) (x2.toNatClampNeg) x3 → (Q σ_16)))
set_option maxHeartbeats 4000000 in
set_option maxRecDepth 100000 in
theorem sj_X5_readStrings_53 {X : kX} {g : kG} {N : Nat} {Q : kS → Prop} {a1 : Nat} (hc : kOk X g RX5 cX5_readStrings 4 none 3) (hZ : kRw X g cX5_readStrings Q) (ha1 : kHall a1) {x2 : Int32} {x3 : Int32} {σ : kS} (h : j_X5_readStrings_53 N Q a1 x2 x3 σ) : kP X g 4 53 [(0, kz g 31), (1, kz g a1), (2, .int x2), (3, .int x3)] [] σ := by
  unfold j_X5_readStrings_53 at h
  refine r_iload_n hc 3 dX5_readStrings_53 rfl ?_
  refine r_if_ne hc 62 dX5_readStrings_54 (by decide) (fun q => ?_) (fun q => ?_)
  · have h := kif_t h q
    refine r_aload_n hc 0 dX5_readStrings_57 rfl ?_
    refine r_iconst (v := 1) hc dX5_readStrings_58 rfl ?_
    refine r_callVv (d := 0) hc (m_X5_refuse h) cw_X5_refuse wi_X5_refuse ws_X5_refuse lm_X5_35 (by decide) (by decide) rv_X5 rfl rfl (Nat.le_of_ble_eq_true rfl) dX5_readStrings_59 (fun σ_11 h => ?_)
    refine r_aload_n hc 1 dX5_readStrings_62 rfl ?_
    refine gf_X3_0 hc ha1 lf_X5_81 dX5_readStrings_63 ?_
    refine r_iload_n hc 2 dX5_readStrings_66 rfl ?_
    refine r_iload_n hc 3 dX5_readStrings_67 rfl ?_
    obtain ⟨hi_13, h⟩ := h
    refine r_iast hc (kia_Hall_1 ha1) hi_13 dX5_readStrings_68 ?_
    refine r_nmS (fun σ_14 eσ_14 => ?_)
    have h := h σ_14 eσ_14
    exact r_vret (ls0 := []) hZ dX5_readStrings_69 h
  · have h := kif_f h q
    refine r_aload_n hc 1 dX5_readStrings_62 rfl ?_
    refine gf_X3_0 hc ha1 lf_X5_81 dX5_readStrings_63 ?_
    refine r_iload_n hc 2 dX5_readStrings_66 rfl ?_
    refine r_iload_n hc 3 dX5_readStrings_67 rfl ?_
    obtain ⟨hi_15, h⟩ := h
    refine r_iast hc (kia_Hall_1 ha1) hi_15 dX5_readStrings_68 ?_
    refine r_nmS (fun σ_16 eσ_16 => ?_)
    have h := h σ_16 eσ_16
    exact r_vret (ls0 := []) hZ dX5_readStrings_69 h
def w_X5_readStrings (N : Nat) (σ : kS) (a1 : Nat) (x2 : Int32) (Q : kS → Prop) : Prop :=
  l_X5_readStrings_2 N Q a1 x2 (fun (x3_9 : Int32) (σ_10 : kS) => j_X5_readStrings_53 N Q a1 x2 x3_9 σ_10) N 0 σ
set_option maxHeartbeats 4000000 in
set_option maxRecDepth 100000 in
theorem s_X5_readStrings {X : kX} {g : kG} {N : Nat} {Q : kS → Prop} {a1 : Nat} (hc : kOk X g RX5 cX5_readStrings 4 none 3) (hZ : kRw X g cX5_readStrings Q) (ha1 : kHall a1) {σ : kS} {x2 : Int32} (h : w_X5_readStrings N σ a1 x2 Q) : kP X g 4 0 [(0, kz g 31), (1, kz g a1), (2, .int x2)] [] σ := by
  unfold w_X5_readStrings at h
  refine r_iconst (v := 0) hc dX5_readStrings_0 rfl ?_
  refine r_istore_n hc [(3, .int 0), (0, kz g 31), (1, kz g a1), (2, .int x2)] dX5_readStrings_1 (by decide) rfl ?_
  refine r_sub [1, 2, 3, 0] rfl ?_
  refine sl_X5_readStrings_2 hc hZ ha1 (fun x3_9 σ_10 h => ?_) _ _ _ h
  exact sj_X5_readStrings_53 hc hZ ha1 h
theorem m_X5_readStrings {l : Launch} {g : kG} {N : Nat} {σ : kS} {a1 : Nat} {x2 : Int32} {Q : kS → Prop} (ha1 : kHall a1) (h : w_X5_readStrings N σ a1 x2 Q) : kMv l g yX5_readStrings cX5_readStrings 4 none 3 [kz g 31, kz g a1, .int x2] σ Q :=
  k_met_v (by decide +kernel) rfl (Nat.le_of_ble_eq_true rfl) (fun X hl hc hZ => s_X5_readStrings hc hZ ha1 h)
def b_X5_readPieces_7 (N : Nat) (Q : kS → Prop) (a1 : Nat) (E55 : kS → Prop) (K : Int32 → kS → Prop) (x2 : Int32) (σ : kS) : Prop :=
  if 4 ≤ x2 then (E55 σ) else (w_X5_sees N σ 116 (fun (r_3 : Int32) (σ_2 : kS) => if r_3 = 0 then (E55 σ_2) else (w_X5_takeByte N σ_2 116 (fun (σ_4 : kS) => w_X5_readStrings N σ_4 a1 x2 (fun (σ_6 : kS) => w_X5_takeByte N σ_6 59 (fun (σ_8 : kS) => ∀ σ_10 : kS, σ_10 = st2 σ_8 a1 9 ((σ_8 a1 9) + 1) → (∀ x2_11 : Int32, x2_11 = x2 + 1 → (K x2_11 σ_10))))))))
def l_X5_readPieces_7 (N : Nat) (Q : kS → Prop) (a1 : Nat) (E55 : kS → Prop) : Nat → Int32 → kS → Prop
  | 0 => fun _ _ => False
  | n + 1 => b_X5_readPieces_7 N Q a1 E55 (l_X5_readPieces_7 N Q a1 E55 n)
set_option maxHeartbeats 4000000 in
set_option maxRecDepth 100000 in
theorem sb_X5_readPieces_7 {X : kX} {g : kG} {N : Nat} {Q : kS → Prop} {a1 : Nat} (hc : kOk X g RX5 cX5_readPieces 3 none 4) (hZ : kRw X g cX5_readPieces Q) (ha1 : kHall a1) {E55 : kS → Prop} (hE55 : ∀ (τ : kS), E55 τ → kP X g 3 55 [(0, kz g 31)] [] τ) {K : Int32 → kS → Prop} (hK : ∀ (x2 : Int32) (τ : kS), K x2 τ → kP X g 3 7 [(0, kz g 31), (1, kz g a1), (2, .int x2)] [] τ) {x2 : Int32} {σ : kS} (h : b_X5_readPieces_7 N Q a1 E55 K x2 σ) : kP X g 3 7 [(0, kz g 31), (1, kz g a1), (2, .int x2)] [] σ := by
  unfold b_X5_readPieces_7 at h
  refine r_iload_n hc 2 dX5_readPieces_7 rfl ?_
  refine r_iconst (v := 4) hc dX5_readPieces_8 rfl ?_
  refine r_ic_ge hc 55 dX5_readPieces_9 (by decide) (fun q => ?_) (fun q => ?_)
  · have h := kif_t h q
    refine r_sub [0] rfl ?_
    exact hE55 _ h
  · have h := kif_f h q
    refine r_aload_n hc 0 dX5_readPieces_12 rfl ?_
    refine r_bipush (v := 116) hc dX5_readPieces_13 rfl ?_
    refine r_callVi (d := 2) hc (m_X5_sees h) cw_X5_sees wi_X5_sees ws_X5_sees lm_X5_63 (by decide) (by decide) rv_X5 rfl rfl (Nat.le_of_ble_eq_true rfl) dX5_readPieces_15 (fun r_3 σ_2 h => ?_)
    refine r_if_eq hc 55 dX5_readPieces_18 (by decide) (fun q => ?_) (fun q => ?_)
    · have h := kif_t h q
      refine r_sub [0] rfl ?_
      exact hE55 _ h
    · have h := kif_f h q
      refine r_aload_n hc 0 dX5_readPieces_21 rfl ?_
      refine r_bipush (v := 116) hc dX5_readPieces_22 rfl ?_
      refine r_callVv (d := 3) hc (m_X5_takeByte h) cw_X5_takeByte wi_X5_takeByte ws_X5_takeByte lm_X5_39 (by decide) (by decide) rv_X5 rfl rfl (Nat.le_of_ble_eq_true rfl) dX5_readPieces_24 (fun σ_4 h => ?_)
      refine r_aload_n hc 0 dX5_readPieces_27 rfl ?_
      refine r_aload_n hc 1 dX5_readPieces_28 rfl ?_
      refine r_iload_n hc 2 dX5_readPieces_29 rfl ?_
      refine r_callVv (d := 3) hc (m_X5_readStrings ha1 h) cw_X5_readStrings wi_X5_readStrings ws_X5_readStrings lm_X5_67 (by decide) (by decide) rv_X5 rfl rfl (Nat.le_of_ble_eq_true rfl) dX5_readPieces_30 (fun σ_6 h => ?_)
      refine r_aload_n hc 0 dX5_readPieces_33 rfl ?_
      refine r_bipush (v := 59) hc dX5_readPieces_34 rfl ?_
      refine r_callVv (d := 3) hc (m_X5_takeByte h) cw_X5_takeByte wi_X5_takeByte ws_X5_takeByte lm_X5_39 (by decide) (by decide) rv_X5 rfl rfl (Nat.le_of_ble_eq_true rfl) dX5_readPieces_36 (fun σ_8 h => ?_)
      refine r_aload_n hc 1 dX5_readPieces_39 rfl ?_
      refine r_dup hc dX5_readPieces_40 rfl ?_
      refine gf_X3_9 hc ha1 lf_X5_60 dX5_readPieces_41 ?_
      refine r_iconst (v := 1) hc dX5_readPieces_44 rfl ?_
      refine r_iadd hc dX5_readPieces_45 ?_
      refine pf_X3_9 hc ha1 lf_X5_60 dX5_readPieces_46 ?_
      refine r_nmS (fun σ_10 eσ_10 => ?_)
      have h := h σ_10 eσ_10
      obtain ⟨x2_11, ex2_11⟩ : ∃ v : Int32, v = x2 + 1 := ⟨_, rfl⟩
      have h := h x2_11 ex2_11
      refine r_iinc (v := x2_11) hc 2 [(2, .int x2_11), (0, kz g 31), (1, kz g a1)] dX5_readPieces_49 rfl (by rw [ex2_11]; rfl) (by decide) rfl ?_
      refine r_goto hc 7 dX5_readPieces_52 (by decide) ?_
      refine r_sub [1, 2, 0] rfl ?_
      exact hK _ _ h
theorem sl_X5_readPieces_7 {X : kX} {g : kG} {N : Nat} {Q : kS → Prop} {a1 : Nat} (hc : kOk X g RX5 cX5_readPieces 3 none 4) (hZ : kRw X g cX5_readPieces Q) (ha1 : kHall a1) {E55 : kS → Prop} (hE55 : ∀ (τ : kS), E55 τ → kP X g 3 55 [(0, kz g 31)] [] τ) : ∀ (n : Nat) (x2 : Int32) (σ : kS), l_X5_readPieces_7 N Q a1 E55 n x2 σ → kP X g 3 7 [(0, kz g 31), (1, kz g a1), (2, .int x2)] [] σ := by
  intro n
  induction n with
  | zero => intro x2 σ h; exact h.elim
  | succ n ih => intro x2 σ h; exact sb_X5_readPieces_7 hc hZ ha1 hE55 ih h
def j_X5_readPieces_55 (N : Nat) (Q : kS → Prop) (a1 : Nat) (σ : kS) : Prop :=
  w_X5_sees N σ 116 (fun (r_14 : Int32) (σ_13 : kS) => if r_14 = 0 then (Q σ_13) else (w_X5_refuse N σ_13 3 (fun (σ_15 : kS) => Q σ_15)))
set_option maxHeartbeats 4000000 in
set_option maxRecDepth 100000 in
theorem sj_X5_readPieces_55 {X : kX} {g : kG} {N : Nat} {Q : kS → Prop} {a1 : Nat} (hc : kOk X g RX5 cX5_readPieces 3 none 4) (hZ : kRw X g cX5_readPieces Q) (ha1 : kHall a1) {σ : kS} (h : j_X5_readPieces_55 N Q a1 σ) : kP X g 3 55 [(0, kz g 31)] [] σ := by
  unfold j_X5_readPieces_55 at h
  refine r_aload_n hc 0 dX5_readPieces_55 rfl ?_
  refine r_bipush (v := 116) hc dX5_readPieces_56 rfl ?_
  refine r_callVi (d := 2) hc (m_X5_sees h) cw_X5_sees wi_X5_sees ws_X5_sees lm_X5_63 (by decide) (by decide) rv_X5 rfl rfl (Nat.le_of_ble_eq_true rfl) dX5_readPieces_58 (fun r_14 σ_13 h => ?_)
  refine r_if_eq hc 69 dX5_readPieces_61 (by decide) (fun q => ?_) (fun q => ?_)
  · have h := kif_t h q
    exact r_vret (ls0 := []) hZ dX5_readPieces_69 h
  · have h := kif_f h q
    refine r_aload_n hc 0 dX5_readPieces_64 rfl ?_
    refine r_iconst (v := 3) hc dX5_readPieces_65 rfl ?_
    refine r_callVv (d := 0) hc (m_X5_refuse h) cw_X5_refuse wi_X5_refuse ws_X5_refuse lm_X5_35 (by decide) (by decide) rv_X5 rfl rfl (Nat.le_of_ble_eq_true rfl) dX5_readPieces_66 (fun σ_15 h => ?_)
    exact r_vret (ls0 := []) hZ dX5_readPieces_69 h
def w_X5_readPieces (N : Nat) (σ : kS) (a1 : Nat) (Q : kS → Prop) : Prop :=
  ∀ σ_1 : kS, σ_1 = st2 σ a1 9 0 → (l_X5_readPieces_7 N Q a1 (fun (σ_12 : kS) => j_X5_readPieces_55 N Q a1 σ_12) N 0 σ_1)
set_option maxHeartbeats 4000000 in
set_option maxRecDepth 100000 in
theorem s_X5_readPieces {X : kX} {g : kG} {N : Nat} {Q : kS → Prop} {a1 : Nat} (hc : kOk X g RX5 cX5_readPieces 3 none 4) (hZ : kRw X g cX5_readPieces Q) (ha1 : kHall a1) {σ : kS} (h : w_X5_readPieces N σ a1 Q) : kP X g 3 0 [(0, kz g 31), (1, kz g a1)] [] σ := by
  unfold w_X5_readPieces at h
  refine r_aload_n hc 1 dX5_readPieces_0 rfl ?_
  refine r_iconst (v := 0) hc dX5_readPieces_1 rfl ?_
  refine pf_X3_9 hc ha1 lf_X5_60 dX5_readPieces_2 ?_
  refine r_nmS (fun σ_1 eσ_1 => ?_)
  have h := h σ_1 eσ_1
  refine r_iconst (v := 0) hc dX5_readPieces_5 rfl ?_
  refine r_istore_n hc [(2, .int 0), (0, kz g 31), (1, kz g a1)] dX5_readPieces_6 (by decide) rfl ?_
  refine r_sub [1, 2, 0] rfl ?_
  refine sl_X5_readPieces_7 hc hZ ha1 (fun σ_12 h => ?_) _ _ _ h
  exact sj_X5_readPieces_55 hc hZ ha1 h
theorem m_X5_readPieces {l : Launch} {g : kG} {N : Nat} {σ : kS} {a1 : Nat} {Q : kS → Prop} (ha1 : kHall a1) (h : w_X5_readPieces N σ a1 Q) : kMv l g yX5_readPieces cX5_readPieces 3 none 4 [kz g 31, kz g a1] σ Q :=
  k_met_v (by decide +kernel) rfl (Nat.le_of_ble_eq_true rfl) (fun X hl hc hZ => s_X5_readPieces hc hZ ha1 h)
def w_X5_kindOfSort (N : Nat) (σ : kS) (x0 : Int32) (Q : Int32 → kS → Prop) : Prop :=
  if x0 = 99 then (Q 4 σ) else (if x0 = 109 then (Q 5 σ) else (if x0 = 112 then (Q 1 σ) else (if x0 = 115 then (Q 3 σ) else (if x0 = 118 then (Q 2 σ) else (Q 0 σ)))))
set_option maxHeartbeats 4000000 in
set_option maxRecDepth 100000 in
theorem s_X5_kindOfSort {X : kX} {g : kG} {N : Nat} {Q : Int32 → kS → Prop} (hc : kOk X g RX5 cX5_kindOfSort 1 (some .int) 0) (hZ : kRi X g cX5_kindOfSort Q) {σ : kS} {x0 : Int32} (h : w_X5_kindOfSort N σ x0 Q) : kP X g 1 0 [(0, .int x0)] [] σ := by
  unfold w_X5_kindOfSort at h
  refine r_iload_n hc 0 dX5_kindOfSort_0 rfl ?_
  by_cases q_1 : x0 = 99
  · have h := kif_t h q_1
    refine r_lookup hc 58 dX5_kindOfSort_1 (by decide) (by rw [q_1] <;> rfl) (by decide) ?_
    refine r_iconst (v := 4) hc dX5_kindOfSort_58 rfl ?_
    exact r_iret (ls0 := []) hZ dX5_kindOfSort_59 h
  have h := kif_f h q_1
  have zq_1 : x0.toInt ≠ 99 := ktne q_1
  by_cases q_2 : x0 = 109
  · have h := kif_t h q_2
    refine r_lookup hc 60 dX5_kindOfSort_1 (by decide) (by rw [q_2] <;> rfl) (by decide) ?_
    refine r_iconst (v := 5) hc dX5_kindOfSort_60 rfl ?_
    exact r_iret (ls0 := []) hZ dX5_kindOfSort_61 h
  have h := kif_f h q_2
  have zq_2 : x0.toInt ≠ 109 := ktne q_2
  by_cases q_3 : x0 = 112
  · have h := kif_t h q_3
    refine r_lookup hc 52 dX5_kindOfSort_1 (by decide) (by rw [q_3] <;> rfl) (by decide) ?_
    refine r_iconst (v := 1) hc dX5_kindOfSort_52 rfl ?_
    exact r_iret (ls0 := []) hZ dX5_kindOfSort_53 h
  have h := kif_f h q_3
  have zq_3 : x0.toInt ≠ 112 := ktne q_3
  by_cases q_4 : x0 = 115
  · have h := kif_t h q_4
    refine r_lookup hc 56 dX5_kindOfSort_1 (by decide) (by rw [q_4] <;> rfl) (by decide) ?_
    refine r_iconst (v := 3) hc dX5_kindOfSort_56 rfl ?_
    exact r_iret (ls0 := []) hZ dX5_kindOfSort_57 h
  have h := kif_f h q_4
  have zq_4 : x0.toInt ≠ 115 := ktne q_4
  by_cases q_5 : x0 = 118
  · have h := kif_t h q_5
    refine r_lookup hc 54 dX5_kindOfSort_1 (by decide) (by rw [q_5] <;> rfl) (by decide) ?_
    refine r_iconst (v := 2) hc dX5_kindOfSort_54 rfl ?_
    exact r_iret (ls0 := []) hZ dX5_kindOfSort_55 h
  have h := kif_f h q_5
  have zq_5 : x0.toInt ≠ 118 := ktne q_5
  refine r_lookup hc 62 dX5_kindOfSort_1 (by decide) (by simp [Op.lookupswitch.offset, Ne.symm zq_1, Ne.symm zq_2, Ne.symm zq_3, Ne.symm zq_4, Ne.symm zq_5]; rfl) (by decide) ?_
  refine r_iconst (v := 0) hc dX5_kindOfSort_62 rfl ?_
  exact r_iret (ls0 := []) hZ dX5_kindOfSort_63 h
theorem m_X5_kindOfSort {l : Launch} {g : kG} {N : Nat} {σ : kS} {x0 : Int32} {Q : Int32 → kS → Prop} (h : w_X5_kindOfSort N σ x0 Q) : kMi l g yX5_kindOfSort cX5_kindOfSort 1 (some .int) 0 [.int x0] σ Q :=
  k_met_i (by decide +kernel) rfl (Nat.le_of_ble_eq_true rfl) (fun X hl hc hZ => s_X5_kindOfSort hc hZ h)
def w_X5_seesSort (N : Nat) (σ : kS) (Q : Int32 → kS → Prop) : Prop :=
  if (σ 31 2) = 0 then (w_X5_byteHere N σ (fun (r_2 : Int32) (σ_1 : kS) => w_X5_kindOfSort N σ_1 r_2 (fun (r_4 : Int32) (σ_3 : kS) => if r_4 = 0 then (Q 0 σ_3) else (Q 1 σ_3)))) else (Q 0 σ)
set_option maxHeartbeats 4000000 in
set_option maxRecDepth 100000 in
theorem s_X5_seesSort {X : kX} {g : kG} {N : Nat} {Q : Int32 → kS → Prop} (hc : kOk X g RX5 cX5_seesSort 1 (some .boolean) 2) (hZ : kRz X g cX5_seesSort Q) {σ : kS} (h : w_X5_seesSort N σ Q) : kP X g 1 0 [(0, kz g 31)] [] σ := by
  unfold w_X5_seesSort at h
  refine r_aload_n hc 0 dX5_seesSort_0 rfl ?_
  refine gf_X5_2 hc lf_X5_22 dX5_seesSort_1 ?_
  refine r_if_ne hc 21 dX5_seesSort_4 (by decide) (fun q => ?_) (fun q => ?_)
  · have h := kif_t h q
    refine r_aload_n hc 0 dX5_seesSort_7 rfl ?_
    refine r_callVi (d := 1) hc (m_X5_byteHere h) cw_X5_byteHere wi_X5_byteHere ws_X5_byteHere lm_X5_77 (by decide) (by decide) rv_X5 rfl rfl (Nat.le_of_ble_eq_true rfl) dX5_seesSort_8 (fun r_2 σ_1 h => ?_)
    refine r_callSi (d := 0) hc (m_X5_kindOfSort h) cw_X5_kindOfSort wt_X5_kindOfSort lm_X5_94 (by decide) (by decide) rfl rfl (Nat.le_of_ble_eq_true rfl) dX5_seesSort_11 (fun r_4 σ_3 h => ?_)
    refine r_if_eq hc 21 dX5_seesSort_14 (by decide) (fun q => ?_) (fun q => ?_)
    · have h := kif_t h q
      refine r_iconst (v := 0) hc dX5_seesSort_21 rfl ?_
      exact r_zret (ls0 := []) hZ dX5_seesSort_22 (Or.inl rfl) h
    · have h := kif_f h q
      refine r_iconst (v := 1) hc dX5_seesSort_17 rfl ?_
      refine r_goto hc 22 dX5_seesSort_18 (by decide) ?_
      exact r_zret (ls0 := []) hZ dX5_seesSort_22 (Or.inr rfl) h
  · have h := kif_f h q
    refine r_iconst (v := 0) hc dX5_seesSort_21 rfl ?_
    exact r_zret (ls0 := []) hZ dX5_seesSort_22 (Or.inl rfl) h
theorem m_X5_seesSort {l : Launch} {g : kG} {N : Nat} {σ : kS} {Q : Int32 → kS → Prop} (h : w_X5_seesSort N σ Q) : kMi l g yX5_seesSort cX5_seesSort 1 (some .boolean) 2 [kz g 31] σ Q :=
  k_met_z (by decide +kernel) rfl (Nat.le_of_ble_eq_true rfl) (fun X hl hc hZ => s_X5_seesSort hc hZ h)
def b_X5_readPupils_7 (N : Nat) (Q : kS → Prop) (a1 : Nat) (E100 : kS → Prop) (K : Int32 → kS → Prop) (x2 : Int32) (σ : kS) : Prop :=
  if 5 ≤ x2 then (E100 σ) else (w_X5_seesSort N σ (fun (r_3 : Int32) (σ_2 : kS) => if r_3 = 0 then (E100 σ_2) else (w_X5_byteHere N σ_2 (fun (r_5 : Int32) (σ_4 : kS) => w_X5_kindOfSort N σ_4 r_5 (fun (r_7 : Int32) (σ_6 : kS) => vp_in x2 5 ∧ (∀ σ_9 : kS, σ_9 = st2 σ_6 (a1 + 3) (x2.toNatClampNeg) r_7 → (∀ σ_10 : kS, σ_10 = st2 σ_9 31 1 ((σ_9 31 1) + 1) → (w_X5_takeNumber N σ_10 0 ((σ_10 a1 5) - 1) (fun (r_12 : Int32) (σ_11 : kS) => vp_in x2 5 ∧ (∀ σ_14 : kS, σ_14 = st2 σ_11 (a1 + 4) (x2.toNatClampNeg) r_12 → (w_X5_takeByte N σ_14 44 (fun (σ_15 : kS) => w_X5_takeNumber N σ_15 1 12 (fun (r_18 : Int32) (σ_17 : kS) => vp_in x2 5 ∧ (∀ σ_20 : kS, σ_20 = st2 σ_17 (a1 + 5) (x2.toNatClampNeg) r_18 → (w_X5_takeByte N σ_20 59 (fun (σ_21 : kS) => ∀ σ_23 : kS, σ_23 = st2 σ_21 a1 10 ((σ_21 a1 10) + 1) → (∀ x2_24 : Int32, x2_24 = x2 + 1 → (K x2_24 σ_23))))))))))))))))))
def l_X5_readPupils_7 (N : Nat) (Q : kS → Prop) (a1 : Nat) (E100 : kS → Prop) : Nat → Int32 → kS → Prop
  | 0 => fun _ _ => False
  | n + 1 => b_X5_readPupils_7 N Q a1 E100 (l_X5_readPupils_7 N Q a1 E100 n)
set_option maxHeartbeats 4000000 in
set_option maxRecDepth 100000 in
theorem sb_X5_readPupils_7 {X : kX} {g : kG} {N : Nat} {Q : kS → Prop} {a1 : Nat} (hc : kOk X g RX5 cX5_readPupils 3 none 4) (hZ : kRw X g cX5_readPupils Q) (ha1 : kHall a1) {E100 : kS → Prop} (hE100 : ∀ (τ : kS), E100 τ → kP X g 3 100 [(0, kz g 31)] [] τ) {K : Int32 → kS → Prop} (hK : ∀ (x2 : Int32) (τ : kS), K x2 τ → kP X g 3 7 [(0, kz g 31), (1, kz g a1), (2, .int x2)] [] τ) {x2 : Int32} {σ : kS} (h : b_X5_readPupils_7 N Q a1 E100 K x2 σ) : kP X g 3 7 [(0, kz g 31), (1, kz g a1), (2, .int x2)] [] σ := by
  unfold b_X5_readPupils_7 at h
  refine r_iload_n hc 2 dX5_readPupils_7 rfl ?_
  refine r_iconst (v := 5) hc dX5_readPupils_8 rfl ?_
  refine r_ic_ge hc 100 dX5_readPupils_9 (by decide) (fun q => ?_) (fun q => ?_)
  · have h := kif_t h q
    refine r_sub [0] rfl ?_
    exact hE100 _ h
  · have h := kif_f h q
    refine r_aload_n hc 0 dX5_readPupils_12 rfl ?_
    refine r_callVi (d := 2) hc (m_X5_seesSort h) cw_X5_seesSort wi_X5_seesSort ws_X5_seesSort lm_X5_87 (by decide) (by decide) rv_X5 rfl rfl (Nat.le_of_ble_eq_true rfl) dX5_readPupils_13 (fun r_3 σ_2 h => ?_)
    refine r_if_eq hc 100 dX5_readPupils_16 (by decide) (fun q => ?_) (fun q => ?_)
    · have h := kif_t h q
      refine r_sub [0] rfl ?_
      exact hE100 _ h
    · have h := kif_f h q
      refine r_aload_n hc 1 dX5_readPupils_19 rfl ?_
      refine gf_X3_2 hc ha1 lf_X5_91 dX5_readPupils_20 ?_
      refine r_iload_n hc 2 dX5_readPupils_23 rfl ?_
      refine r_aload_n hc 0 dX5_readPupils_24 rfl ?_
      refine r_callVi (d := 1) hc (m_X5_byteHere h) cw_X5_byteHere wi_X5_byteHere ws_X5_byteHere lm_X5_77 (by decide) (by decide) rv_X5 rfl rfl (Nat.le_of_ble_eq_true rfl) dX5_readPupils_25 (fun r_5 σ_4 h => ?_)
      refine r_callSi (d := 0) hc (m_X5_kindOfSort h) cw_X5_kindOfSort wt_X5_kindOfSort lm_X5_94 (by decide) (by decide) rfl rfl (Nat.le_of_ble_eq_true rfl) dX5_readPupils_28 (fun r_7 σ_6 h => ?_)
      obtain ⟨hi_8, h⟩ := h
      refine r_iast hc (kia_Hall_3 ha1) hi_8 dX5_readPupils_31 ?_
      refine r_nmS (fun σ_9 eσ_9 => ?_)
      have h := h σ_9 eσ_9
      refine r_aload_n hc 0 dX5_readPupils_32 rfl ?_
      refine r_dup hc dX5_readPupils_33 rfl ?_
      refine gf_X5_1 hc lf_X5_19 dX5_readPupils_34 ?_
      refine r_iconst (v := 1) hc dX5_readPupils_37 rfl ?_
      refine r_iadd hc dX5_readPupils_38 ?_
      refine pf_X5_1 hc lf_X5_19 dX5_readPupils_39 ?_
      refine r_nmS (fun σ_10 eσ_10 => ?_)
      have h := h σ_10 eσ_10
      refine r_aload_n hc 1 dX5_readPupils_42 rfl ?_
      refine gf_X3_3 hc ha1 lf_X5_98 dX5_readPupils_43 ?_
      refine r_iload_n hc 2 dX5_readPupils_46 rfl ?_
      refine r_aload_n hc 0 dX5_readPupils_47 rfl ?_
      refine r_iconst (v := 0) hc dX5_readPupils_48 rfl ?_
      refine r_aload_n hc 1 dX5_readPupils_49 rfl ?_
      refine gf_X3_5 hc ha1 lf_X5_48 dX5_readPupils_50 ?_
      refine r_iconst (v := 1) hc dX5_readPupils_53 rfl ?_
      refine r_isub hc dX5_readPupils_54 ?_
      refine r_callVi (d := 2) hc (m_X5_takeNumber h) cw_X5_takeNumber wi_X5_takeNumber ws_X5_takeNumber lm_X5_44 (by decide) (by decide) rv_X5 rfl rfl (Nat.le_of_ble_eq_true rfl) dX5_readPupils_55 (fun r_12 σ_11 h => ?_)
      obtain ⟨hi_13, h⟩ := h
      refine r_iast hc (kia_Hall_4 ha1) hi_13 dX5_readPupils_58 ?_
      refine r_nmS (fun σ_14 eσ_14 => ?_)
      have h := h σ_14 eσ_14
      refine r_aload_n hc 0 dX5_readPupils_59 rfl ?_
      refine r_bipush (v := 44) hc dX5_readPupils_60 rfl ?_
      refine r_callVv (d := 3) hc (m_X5_takeByte h) cw_X5_takeByte wi_X5_takeByte ws_X5_takeByte lm_X5_39 (by decide) (by decide) rv_X5 rfl rfl (Nat.le_of_ble_eq_true rfl) dX5_readPupils_62 (fun σ_15 h => ?_)
      refine r_aload_n hc 1 dX5_readPupils_65 rfl ?_
      refine gf_X3_4 hc ha1 lf_X5_101 dX5_readPupils_66 ?_
      refine r_iload_n hc 2 dX5_readPupils_69 rfl ?_
      refine r_aload_n hc 0 dX5_readPupils_70 rfl ?_
      refine r_iconst (v := 1) hc dX5_readPupils_71 rfl ?_
      refine r_bipush (v := 12) hc dX5_readPupils_72 rfl ?_
      refine r_callVi (d := 2) hc (m_X5_takeNumber h) cw_X5_takeNumber wi_X5_takeNumber ws_X5_takeNumber lm_X5_44 (by decide) (by decide) rv_X5 rfl rfl (Nat.le_of_ble_eq_true rfl) dX5_readPupils_74 (fun r_18 σ_17 h => ?_)
      obtain ⟨hi_19, h⟩ := h
      refine r_iast hc (kia_Hall_5 ha1) hi_19 dX5_readPupils_77 ?_
      refine r_nmS (fun σ_20 eσ_20 => ?_)
      have h := h σ_20 eσ_20
      refine r_aload_n hc 0 dX5_readPupils_78 rfl ?_
      refine r_bipush (v := 59) hc dX5_readPupils_79 rfl ?_
      refine r_callVv (d := 3) hc (m_X5_takeByte h) cw_X5_takeByte wi_X5_takeByte ws_X5_takeByte lm_X5_39 (by decide) (by decide) rv_X5 rfl rfl (Nat.le_of_ble_eq_true rfl) dX5_readPupils_81 (fun σ_21 h => ?_)
      refine r_aload_n hc 1 dX5_readPupils_84 rfl ?_
      refine r_dup hc dX5_readPupils_85 rfl ?_
      refine gf_X3_10 hc ha1 lf_X5_84 dX5_readPupils_86 ?_
      refine r_iconst (v := 1) hc dX5_readPupils_89 rfl ?_
      refine r_iadd hc dX5_readPupils_90 ?_
      refine pf_X3_10 hc ha1 lf_X5_84 dX5_readPupils_91 ?_
      refine r_nmS (fun σ_23 eσ_23 => ?_)
      have h := h σ_23 eσ_23
      obtain ⟨x2_24, ex2_24⟩ : ∃ v : Int32, v = x2 + 1 := ⟨_, rfl⟩
      have h := h x2_24 ex2_24
      refine r_iinc (v := x2_24) hc 2 [(2, .int x2_24), (0, kz g 31), (1, kz g a1)] dX5_readPupils_94 rfl (by rw [ex2_24]; rfl) (by decide) rfl ?_
      refine r_goto hc 7 dX5_readPupils_97 (by decide) ?_
      refine r_sub [1, 2, 0] rfl ?_
      exact hK _ _ h
theorem sl_X5_readPupils_7 {X : kX} {g : kG} {N : Nat} {Q : kS → Prop} {a1 : Nat} (hc : kOk X g RX5 cX5_readPupils 3 none 4) (hZ : kRw X g cX5_readPupils Q) (ha1 : kHall a1) {E100 : kS → Prop} (hE100 : ∀ (τ : kS), E100 τ → kP X g 3 100 [(0, kz g 31)] [] τ) : ∀ (n : Nat) (x2 : Int32) (σ : kS), l_X5_readPupils_7 N Q a1 E100 n x2 σ → kP X g 3 7 [(0, kz g 31), (1, kz g a1), (2, .int x2)] [] σ := by
  intro n
  induction n with
  | zero => intro x2 σ h; exact h.elim
  | succ n ih => intro x2 σ h; exact sb_X5_readPupils_7 hc hZ ha1 hE100 ih h
def j_X5_readPupils_100 (N : Nat) (Q : kS → Prop) (a1 : Nat) (σ : kS) : Prop :=
  w_X5_seesSort N σ (fun (r_27 : Int32) (σ_26 : kS) => if r_27 = 0 then (Q σ_26) else (w_X5_refuse N σ_26 3 (fun (σ_28 : kS) => Q σ_28)))
set_option maxHeartbeats 4000000 in
set_option maxRecDepth 100000 in
theorem sj_X5_readPupils_100 {X : kX} {g : kG} {N : Nat} {Q : kS → Prop} {a1 : Nat} (hc : kOk X g RX5 cX5_readPupils 3 none 4) (hZ : kRw X g cX5_readPupils Q) (ha1 : kHall a1) {σ : kS} (h : j_X5_readPupils_100 N Q a1 σ) : kP X g 3 100 [(0, kz g 31)] [] σ := by
  unfold j_X5_readPupils_100 at h
  refine r_aload_n hc 0 dX5_readPupils_100 rfl ?_
  refine r_callVi (d := 2) hc (m_X5_seesSort h) cw_X5_seesSort wi_X5_seesSort ws_X5_seesSort lm_X5_87 (by decide) (by decide) rv_X5 rfl rfl (Nat.le_of_ble_eq_true rfl) dX5_readPupils_101 (fun r_27 σ_26 h => ?_)
  refine r_if_eq hc 112 dX5_readPupils_104 (by decide) (fun q => ?_) (fun q => ?_)
  · have h := kif_t h q
    exact r_vret (ls0 := []) hZ dX5_readPupils_112 h
  · have h := kif_f h q
    refine r_aload_n hc 0 dX5_readPupils_107 rfl ?_
    refine r_iconst (v := 3) hc dX5_readPupils_108 rfl ?_
    refine r_callVv (d := 0) hc (m_X5_refuse h) cw_X5_refuse wi_X5_refuse ws_X5_refuse lm_X5_35 (by decide) (by decide) rv_X5 rfl rfl (Nat.le_of_ble_eq_true rfl) dX5_readPupils_109 (fun σ_28 h => ?_)
    exact r_vret (ls0 := []) hZ dX5_readPupils_112 h
def w_X5_readPupils (N : Nat) (σ : kS) (a1 : Nat) (Q : kS → Prop) : Prop :=
  ∀ σ_1 : kS, σ_1 = st2 σ a1 10 0 → (l_X5_readPupils_7 N Q a1 (fun (σ_25 : kS) => j_X5_readPupils_100 N Q a1 σ_25) N 0 σ_1)
set_option maxHeartbeats 4000000 in
set_option maxRecDepth 100000 in
theorem s_X5_readPupils {X : kX} {g : kG} {N : Nat} {Q : kS → Prop} {a1 : Nat} (hc : kOk X g RX5 cX5_readPupils 3 none 4) (hZ : kRw X g cX5_readPupils Q) (ha1 : kHall a1) {σ : kS} (h : w_X5_readPupils N σ a1 Q) : kP X g 3 0 [(0, kz g 31), (1, kz g a1)] [] σ := by
  unfold w_X5_readPupils at h
  refine r_aload_n hc 1 dX5_readPupils_0 rfl ?_
  refine r_iconst (v := 0) hc dX5_readPupils_1 rfl ?_
  refine pf_X3_10 hc ha1 lf_X5_84 dX5_readPupils_2 ?_
  refine r_nmS (fun σ_1 eσ_1 => ?_)
  have h := h σ_1 eσ_1
  refine r_iconst (v := 0) hc dX5_readPupils_5 rfl ?_
  refine r_istore_n hc [(2, .int 0), (0, kz g 31), (1, kz g a1)] dX5_readPupils_6 (by decide) rfl ?_
  refine r_sub [1, 2, 0] rfl ?_
  refine sl_X5_readPupils_7 hc hZ ha1 (fun σ_25 h => ?_) _ _ _ h
  exact sj_X5_readPupils_100 hc hZ ha1 h
theorem m_X5_readPupils {l : Launch} {g : kG} {N : Nat} {σ : kS} {a1 : Nat} {Q : kS → Prop} (ha1 : kHall a1) (h : w_X5_readPupils N σ a1 Q) : kMv l g yX5_readPupils cX5_readPupils 3 none 4 [kz g 31, kz g a1] σ Q :=
  k_met_v (by decide +kernel) rfl (Nat.le_of_ble_eq_true rfl) (fun X hl hc hZ => s_X5_readPupils hc hZ ha1 h)
def j_X5_readInto_48 (N : Nat) (Q : Int32 → kS → Prop) (a1 : Nat) (σ : kS) : Prop :=
  if (σ 31 2) = 0 then (Q 1 σ) else (Q 0 σ)
set_option maxHeartbeats 4000000 in
set_option maxRecDepth 100000 in
theorem sj_X5_readInto_48 {X : kX} {g : kG} {N : Nat} {Q : Int32 → kS → Prop} {a1 : Nat} (hc : kOk X g RX5 cX5_readInto 2 (some .boolean) 5) (hZ : kRz X g cX5_readInto Q) (ha1 : kHall a1) {σ : kS} (h : j_X5_readInto_48 N Q a1 σ) : kP X g 2 48 [(0, kz g 31)] [] σ := by
  unfold j_X5_readInto_48 at h
  refine r_aload_n hc 0 dX5_readInto_48 rfl ?_
  refine gf_X5_2 hc lf_X5_22 dX5_readInto_49 ?_
  refine r_if_ne hc 59 dX5_readInto_52 (by decide) (fun q => ?_) (fun q => ?_)
  · have h := kif_t h q
    refine r_iconst (v := 1) hc dX5_readInto_55 rfl ?_
    refine r_goto hc 60 dX5_readInto_56 (by decide) ?_
    exact r_zret (ls0 := []) hZ dX5_readInto_60 (Or.inr rfl) h
  · have h := kif_f h q
    refine r_iconst (v := 0) hc dX5_readInto_59 rfl ?_
    exact r_zret (ls0 := []) hZ dX5_readInto_60 (Or.inl rfl) h
def w_X5_readInto (N : Nat) (σ : kS) (a1 : Nat) (Q : Int32 → kS → Prop) : Prop :=
  ∀ σ_1 : kS, σ_1 = st2 σ 31 1 0 → (∀ σ_2 : kS, σ_2 = st2 σ_1 31 2 0 → (w_X5_readLaw N σ_2 a1 (fun (σ_3 : kS) => w_X5_readPieces N σ_3 a1 (fun (σ_5 : kS) => w_X5_readPupils N σ_5 a1 (fun (σ_7 : kS) => if (σ_7 31 2) = 0 then (if (σ_7 31 3) ≤ (σ_7 31 1) then (j_X5_readInto_48 N Q a1 σ_7) else (w_X5_refuse N σ_7 1 (fun (σ_9 : kS) => j_X5_readInto_48 N Q a1 σ_9))) else (j_X5_readInto_48 N Q a1 σ_7))))))
set_option maxHeartbeats 4000000 in
set_option maxRecDepth 100000 in
theorem s_X5_readInto {X : kX} {g : kG} {N : Nat} {Q : Int32 → kS → Prop} {a1 : Nat} (hc : kOk X g RX5 cX5_readInto 2 (some .boolean) 5) (hZ : kRz X g cX5_readInto Q) (ha1 : kHall a1) {σ : kS} (h : w_X5_readInto N σ a1 Q) : kP X g 2 0 [(0, kz g 31), (1, kz g a1)] [] σ := by
  unfold w_X5_readInto at h
  refine r_aload_n hc 0 dX5_readInto_0 rfl ?_
  refine r_iconst (v := 0) hc dX5_readInto_1 rfl ?_
  refine pf_X5_1 hc lf_X5_19 dX5_readInto_2 ?_
  refine r_nmS (fun σ_1 eσ_1 => ?_)
  have h := h σ_1 eσ_1
  refine r_aload_n hc 0 dX5_readInto_5 rfl ?_
  refine r_iconst (v := 0) hc dX5_readInto_6 rfl ?_
  refine pf_X5_2 hc lf_X5_22 dX5_readInto_7 ?_
  refine r_nmS (fun σ_2 eσ_2 => ?_)
  have h := h σ_2 eσ_2
  refine r_aload_n hc 0 dX5_readInto_10 rfl ?_
  refine r_aload_n hc 1 dX5_readInto_11 rfl ?_
  refine r_callVv (d := 4) hc (m_X5_readLaw ha1 h) cw_X5_readLaw wi_X5_readLaw ws_X5_readLaw lm_X5_25 (by decide) (by decide) rv_X5 rfl rfl (Nat.le_of_ble_eq_true rfl) dX5_readInto_12 (fun σ_3 h => ?_)
  refine r_aload_n hc 0 dX5_readInto_15 rfl ?_
  refine r_aload_n hc 1 dX5_readInto_16 rfl ?_
  refine r_callVv (d := 4) hc (m_X5_readPieces ha1 h) cw_X5_readPieces wi_X5_readPieces ws_X5_readPieces lm_X5_29 (by decide) (by decide) rv_X5 rfl rfl (Nat.le_of_ble_eq_true rfl) dX5_readInto_17 (fun σ_5 h => ?_)
  refine r_aload_n hc 0 dX5_readInto_20 rfl ?_
  refine r_aload_n hc 1 dX5_readInto_21 rfl ?_
  refine r_callVv (d := 4) hc (m_X5_readPupils ha1 h) cw_X5_readPupils wi_X5_readPupils ws_X5_readPupils lm_X5_32 (by decide) (by decide) rv_X5 rfl rfl (Nat.le_of_ble_eq_true rfl) dX5_readInto_22 (fun σ_7 h => ?_)
  refine r_aload_n hc 0 dX5_readInto_25 rfl ?_
  refine gf_X5_2 hc lf_X5_22 dX5_readInto_26 ?_
  refine r_if_ne hc 48 dX5_readInto_29 (by decide) (fun q => ?_) (fun q => ?_)
  · have h := kif_t h q
    refine r_aload_n hc 0 dX5_readInto_32 rfl ?_
    refine gf_X5_1 hc lf_X5_19 dX5_readInto_33 ?_
    refine r_aload_n hc 0 dX5_readInto_36 rfl ?_
    refine gf_X5_3 hc lf_X5_15 dX5_readInto_37 ?_
    refine r_ic_ge hc 48 dX5_readInto_40 (by decide) (fun q => ?_) (fun q => ?_)
    · have h := kif_t h q
      refine r_sub [0] rfl ?_
      exact sj_X5_readInto_48 hc hZ ha1 h
    · have h := kif_f h q
      refine r_aload_n hc 0 dX5_readInto_43 rfl ?_
      refine r_iconst (v := 1) hc dX5_readInto_44 rfl ?_
      refine r_callVv (d := 0) hc (m_X5_refuse h) cw_X5_refuse wi_X5_refuse ws_X5_refuse lm_X5_35 (by decide) (by decide) rv_X5 rfl rfl (Nat.le_of_ble_eq_true rfl) dX5_readInto_45 (fun σ_9 h => ?_)
      refine r_sub [0] rfl ?_
      exact sj_X5_readInto_48 hc hZ ha1 h
  · have h := kif_f h q
    refine r_sub [0] rfl ?_
    exact sj_X5_readInto_48 hc hZ ha1 h
theorem m_X5_readInto {l : Launch} {g : kG} {N : Nat} {σ : kS} {a1 : Nat} {Q : Int32 → kS → Prop} (ha1 : kHall a1) (h : w_X5_readInto N σ a1 Q) : kMi l g yX5_readInto cX5_readInto 2 (some .boolean) 5 [kz g 31, kz g a1] σ Q :=
  k_met_z (by decide +kernel) rfl (Nat.le_of_ble_eq_true rfl) (fun X hl hc hZ => s_X5_readInto hc hZ ha1 h)
