def w_X3_around (N : Nat) (σ : kS) (c : Nat) (x1 : Int32) (Q : Int32 → kS → Prop) : Prop :=
  if 0 < (σ c 5) then (¬ (σ c 5) = 0 ∧ (∀ x2_2 : Int32, x2_2 = krem x1 (σ c 5) → (if 0 ≤ x2_2 then (Q x2_2 σ) else (Q (x2_2 + (σ c 5)) σ)))) else (Q 0 σ)
set_option maxHeartbeats 4000000 in
set_option maxRecDepth 100000 in
theorem s_X3_around {X : kX} {g : kG} {N : Nat} {Q : Int32 → kS → Prop} {c : Nat} (hc : kOk X g RX3 cX3_around 3 (some .int) 0) (hZ : kRi X g cX3_around Q) (hh : kHall c) {σ : kS} {x1 : Int32} (h : w_X3_around N σ c x1 Q) : kP X g 3 0 [(0, kz g c), (1, .int x1)] [] σ := by
  unfold w_X3_around at h
  refine r_aload_n hc 0 dX3_around_0 rfl ?_
  refine gf_X3_5 hc hh lf_X3_27 dX3_around_1 ?_
  refine r_if_gt hc 9 dX3_around_4 (by decide) (fun q => ?_) (fun q => ?_)
  · have h := kif_t h q
    refine r_iload_n hc 1 dX3_around_9 rfl ?_
    refine r_aload_n hc 0 dX3_around_10 rfl ?_
    refine gf_X3_5 hc hh lf_X3_27 dX3_around_11 ?_
    obtain ⟨hn_1, h⟩ := h
    refine r_irem hc dX3_around_14 hn_1 ?_
    refine r_nmI (fun x2_2 ex2_2 => ?_)
    have h := h x2_2 ex2_2
    refine r_istore_n hc [(2, .int x2_2), (0, kz g c), (1, .int x1)] dX3_around_15 (by decide) rfl ?_
    refine r_iload_n hc 0 dX3_around_16 rfl ?_
    refine r_if_ge hc 29 dX3_around_17 (by decide) (fun q => ?_) (fun q => ?_)
    · have h := kif_t h q
      refine r_iload_n hc 0 dX3_around_29 rfl ?_
      exact r_iret (ls0 := []) hZ dX3_around_30 h
    · have h := kif_f h q
      refine r_iload_n hc 0 dX3_around_20 rfl ?_
      refine r_aload_n hc 1 dX3_around_21 rfl ?_
      refine gf_X3_5 hc hh lf_X3_27 dX3_around_22 ?_
      refine r_iadd hc dX3_around_25 ?_
      refine r_goto hc 30 dX3_around_26 (by decide) ?_
      exact r_iret (ls0 := []) hZ dX3_around_30 h
  · have h := kif_f h q
    refine r_iconst (v := 0) hc dX3_around_7 rfl ?_
    exact r_iret (ls0 := []) hZ dX3_around_8 h
theorem m_X3_around {l : Launch} {g : kG} {N : Nat} {σ : kS} {c : Nat} {x1 : Int32} {Q : Int32 → kS → Prop} (hh : kHall c) (h : w_X3_around N σ c x1 Q) : kMi l g yX3_around cX3_around 3 (some .int) 0 [kz g c, .int x1] σ Q :=
  k_met_i (by decide +kernel) rfl (Nat.le_of_ble_eq_true rfl) (fun X hl hc hZ => s_X3_around hc hZ hh h)
def w_X3_shiftBehind (N : Nat) (σ : kS) (c : Nat) (x1 : Int32) (Q : Int32 → kS → Prop) : Prop :=
  w_X3_around N σ c ((σ c 7) + (x1 * (σ c 6))) (fun (r_2 : Int32) (σ_1 : kS) => Q r_2 σ_1)
set_option maxHeartbeats 4000000 in
set_option maxRecDepth 100000 in
theorem s_X3_shiftBehind {X : kX} {g : kG} {N : Nat} {Q : Int32 → kS → Prop} {c : Nat} (hc : kOk X g RX3 cX3_shiftBehind 2 (some .int) 1) (hZ : kRi X g cX3_shiftBehind Q) (hh : kHall c) {σ : kS} {x1 : Int32} (h : w_X3_shiftBehind N σ c x1 Q) : kP X g 2 0 [(0, kz g c), (1, .int x1)] [] σ := by
  unfold w_X3_shiftBehind at h
  refine r_aload_n hc 0 dX3_shiftBehind_0 rfl ?_
  refine r_aload_n hc 0 dX3_shiftBehind_1 rfl ?_
  refine gf_X3_7 hc hh lf_X3_40 dX3_shiftBehind_2 ?_
  refine r_iload_n hc 1 dX3_shiftBehind_5 rfl ?_
  refine r_aload_n hc 0 dX3_shiftBehind_6 rfl ?_
  refine gf_X3_6 hc hh lf_X3_37 dX3_shiftBehind_7 ?_
  refine r_imul hc dX3_shiftBehind_10 ?_
  refine r_iadd hc dX3_shiftBehind_11 ?_
  refine r_callVi (d := 0) hc (m_X3_around hh h) cw_X3_around wi_X3_around ws_X3_around lm_X3_52 (by decide) (by decide) (rv_X3 hh) rfl rfl (Nat.le_of_ble_eq_true rfl) dX3_shiftBehind_12 (fun r_2 σ_1 h => ?_)
  exact r_iret (ls0 := []) hZ dX3_shiftBehind_15 h
theorem m_X3_shiftBehind {l : Launch} {g : kG} {N : Nat} {σ : kS} {c : Nat} {x1 : Int32} {Q : Int32 → kS → Prop} (hh : kHall c) (h : w_X3_shiftBehind N σ c x1 Q) : kMi l g yX3_shiftBehind cX3_shiftBehind 2 (some .int) 1 [kz g c, .int x1] σ Q :=
  k_met_i (by decide +kernel) rfl (Nat.le_of_ble_eq_true rfl) (fun X hl hc hZ => s_X3_shiftBehind hc hZ hh h)
def w_X3_biasAs (N : Nat) (σ : kS) (c : Nat) (x1 : Int32) (x2 : Int32) (Q : Int32 → kS → Prop) : Prop :=
  if x1 = 2 then (w_X3_around N σ c (x2 + (2 * (σ c 6))) (fun (r_2 : Int32) (σ_1 : kS) => Q r_2 σ_1)) else (if x1 = 3 then (w_X3_around N σ c (x2 - 2) (fun (r_5 : Int32) (σ_4 : kS) => Q r_5 σ_4)) else (if x1 = 4 then (w_X3_around N σ c (-x2) (fun (r_8 : Int32) (σ_7 : kS) => Q r_8 σ_7)) else (if x1 = 5 then (w_X3_around N σ c (1 - x2) (fun (r_11 : Int32) (σ_10 : kS) => Q r_11 σ_10)) else (w_X3_around N σ c x2 (fun (r_14 : Int32) (σ_13 : kS) => Q r_14 σ_13)))))
set_option maxHeartbeats 4000000 in
set_option maxRecDepth 100000 in
theorem s_X3_biasAs {X : kX} {g : kG} {N : Nat} {Q : Int32 → kS → Prop} {c : Nat} (hc : kOk X g RX3 cX3_biasAs 3 (some .int) 1) (hZ : kRi X g cX3_biasAs Q) (hh : kHall c) {σ : kS} {x1 : Int32} {x2 : Int32} (h : w_X3_biasAs N σ c x1 x2 Q) : kP X g 3 0 [(0, kz g c), (1, .int x1), (2, .int x2)] [] σ := by
  unfold w_X3_biasAs at h
  refine r_iload_n hc 1 dX3_biasAs_0 rfl ?_
  by_cases q_3 : x1 = 2
  · have h := kif_t h q_3
    refine r_tabIn hc 32 dX3_biasAs_1 (by rw [q_3]; decide) (by rw [q_3]; decide) (by rw [q_3] <;> rfl) (by decide) ?_
    refine r_aload_n hc 0 dX3_biasAs_32 rfl ?_
    refine r_iload_n hc 2 dX3_biasAs_33 rfl ?_
    refine r_iconst (v := 2) hc dX3_biasAs_34 rfl ?_
    refine r_aload_n hc 0 dX3_biasAs_35 rfl ?_
    refine gf_X3_6 hc hh lf_X3_37 dX3_biasAs_36 ?_
    refine r_imul hc dX3_biasAs_39 ?_
    refine r_iadd hc dX3_biasAs_40 ?_
    refine r_callVi (d := 0) hc (m_X3_around hh h) cw_X3_around wi_X3_around ws_X3_around lm_X3_52 (by decide) (by decide) (rv_X3 hh) rfl rfl (Nat.le_of_ble_eq_true rfl) dX3_biasAs_41 (fun r_2 σ_1 h => ?_)
    exact r_iret (ls0 := []) hZ dX3_biasAs_44 h
  have h := kif_f h q_3
  have zq_3 : x1.toInt ≠ 2 := ktne q_3
  by_cases q_6 : x1 = 3
  · have h := kif_t h q_6
    refine r_tabIn hc 45 dX3_biasAs_1 (by rw [q_6]; decide) (by rw [q_6]; decide) (by rw [q_6] <;> rfl) (by decide) ?_
    refine r_aload_n hc 0 dX3_biasAs_45 rfl ?_
    refine r_iload_n hc 2 dX3_biasAs_46 rfl ?_
    refine r_iconst (v := 2) hc dX3_biasAs_47 rfl ?_
    refine r_isub hc dX3_biasAs_48 ?_
    refine r_callVi (d := 0) hc (m_X3_around hh h) cw_X3_around wi_X3_around ws_X3_around lm_X3_52 (by decide) (by decide) (rv_X3 hh) rfl rfl (Nat.le_of_ble_eq_true rfl) dX3_biasAs_49 (fun r_5 σ_4 h => ?_)
    exact r_iret (ls0 := []) hZ dX3_biasAs_52 h
  have h := kif_f h q_6
  have zq_6 : x1.toInt ≠ 3 := ktne q_6
  by_cases q_9 : x1 = 4
  · have h := kif_t h q_9
    refine r_tabIn hc 53 dX3_biasAs_1 (by rw [q_9]; decide) (by rw [q_9]; decide) (by rw [q_9] <;> rfl) (by decide) ?_
    refine r_aload_n hc 0 dX3_biasAs_53 rfl ?_
    refine r_iload_n hc 2 dX3_biasAs_54 rfl ?_
    refine r_ineg hc dX3_biasAs_55 ?_
    refine r_callVi (d := 0) hc (m_X3_around hh h) cw_X3_around wi_X3_around ws_X3_around lm_X3_52 (by decide) (by decide) (rv_X3 hh) rfl rfl (Nat.le_of_ble_eq_true rfl) dX3_biasAs_56 (fun r_8 σ_7 h => ?_)
    exact r_iret (ls0 := []) hZ dX3_biasAs_59 h
  have h := kif_f h q_9
  have zq_9 : x1.toInt ≠ 4 := ktne q_9
  by_cases q_12 : x1 = 5
  · have h := kif_t h q_12
    refine r_tabIn hc 60 dX3_biasAs_1 (by rw [q_12]; decide) (by rw [q_12]; decide) (by rw [q_12] <;> rfl) (by decide) ?_
    refine r_aload_n hc 0 dX3_biasAs_60 rfl ?_
    refine r_iconst (v := 1) hc dX3_biasAs_61 rfl ?_
    refine r_iload_n hc 2 dX3_biasAs_62 rfl ?_
    refine r_isub hc dX3_biasAs_63 ?_
    refine r_callVi (d := 0) hc (m_X3_around hh h) cw_X3_around wi_X3_around ws_X3_around lm_X3_52 (by decide) (by decide) (rv_X3 hh) rfl rfl (Nat.le_of_ble_eq_true rfl) dX3_biasAs_64 (fun r_11 σ_10 h => ?_)
    exact r_iret (ls0 := []) hZ dX3_biasAs_67 h
  have h := kif_f h q_12
  have zq_12 : x1.toInt ≠ 5 := ktne q_12
  refine r_tabOut hc 68 dX3_biasAs_1 (by omega) (by decide) ?_
  refine r_aload_n hc 0 dX3_biasAs_68 rfl ?_
  refine r_iload_n hc 2 dX3_biasAs_69 rfl ?_
  refine r_callVi (d := 0) hc (m_X3_around hh h) cw_X3_around wi_X3_around ws_X3_around lm_X3_52 (by decide) (by decide) (rv_X3 hh) rfl rfl (Nat.le_of_ble_eq_true rfl) dX3_biasAs_70 (fun r_14 σ_13 h => ?_)
  exact r_iret (ls0 := []) hZ dX3_biasAs_73 h
theorem m_X3_biasAs {l : Launch} {g : kG} {N : Nat} {σ : kS} {c : Nat} {x1 : Int32} {x2 : Int32} {Q : Int32 → kS → Prop} (hh : kHall c) (h : w_X3_biasAs N σ c x1 x2 Q) : kMi l g yX3_biasAs cX3_biasAs 3 (some .int) 1 [kz g c, .int x1, .int x2] σ Q :=
  k_met_i (by decide +kernel) rfl (Nat.le_of_ble_eq_true rfl) (fun X hl hc hZ => s_X3_biasAs hc hZ hh h)
def w_X3_biasOf (N : Nat) (σ : kS) (c : Nat) (x1 : Int32) (Q : Int32 → kS → Prop) : Prop :=
  vp_in x1 5 ∧ (vp_in x1 5 ∧ (w_X3_biasAs N σ c (σ (c + 3) x1.toNatClampNeg) (σ (c + 4) x1.toNatClampNeg) (fun (r_4 : Int32) (σ_3 : kS) => Q r_4 σ_3)))
set_option maxHeartbeats 4000000 in
set_option maxRecDepth 100000 in
theorem s_X3_biasOf {X : kX} {g : kG} {N : Nat} {Q : Int32 → kS → Prop} {c : Nat} (hc : kOk X g RX3 cX3_biasOf 2 (some .int) 2) (hZ : kRi X g cX3_biasOf Q) (hh : kHall c) {σ : kS} {x1 : Int32} (h : w_X3_biasOf N σ c x1 Q) : kP X g 2 0 [(0, kz g c), (1, .int x1)] [] σ := by
  unfold w_X3_biasOf at h
  refine r_aload_n hc 0 dX3_biasOf_0 rfl ?_
  refine r_aload_n hc 0 dX3_biasOf_1 rfl ?_
  refine gf_X3_2 hc hh lf_X3_18 dX3_biasOf_2 ?_
  refine r_iload_n hc 1 dX3_biasOf_5 rfl ?_
  obtain ⟨hi_1, h⟩ := h
  refine r_iald hc (kia_Hall_3 hh) hi_1 dX3_biasOf_6 ?_
  refine r_aload_n hc 0 dX3_biasOf_7 rfl ?_
  refine gf_X3_3 hc hh lf_X3_21 dX3_biasOf_8 ?_
  refine r_iload_n hc 1 dX3_biasOf_11 rfl ?_
  obtain ⟨hi_2, h⟩ := h
  refine r_iald hc (kia_Hall_4 hh) hi_2 dX3_biasOf_12 ?_
  refine r_callVi (d := 1) hc (m_X3_biasAs hh h) cw_X3_biasAs wi_X3_biasAs ws_X3_biasAs lm_X3_56 (by decide) (by decide) (rv_X3 hh) rfl rfl (Nat.le_of_ble_eq_true rfl) dX3_biasOf_13 (fun r_4 σ_3 h => ?_)
  exact r_iret (ls0 := []) hZ dX3_biasOf_16 h
theorem m_X3_biasOf {l : Launch} {g : kG} {N : Nat} {σ : kS} {c : Nat} {x1 : Int32} {Q : Int32 → kS → Prop} (hh : kHall c) (h : w_X3_biasOf N σ c x1 Q) : kMi l g yX3_biasOf cX3_biasOf 2 (some .int) 2 [kz g c, .int x1] σ Q :=
  k_met_i (by decide +kernel) rfl (Nat.le_of_ble_eq_true rfl) (fun X hl hc hZ => s_X3_biasOf hc hZ hh h)
def w_X3_stringOf (N : Nat) (σ : kS) (c : Nat) (x1 : Int32) (x2 : Int32) (Q : Int32 → kS → Prop) : Prop :=
  vp_in ((x1 * 8) + x2) 32 ∧ (Q (σ (c + 2) ((x1 * 8) + x2).toNatClampNeg) σ)
set_option maxHeartbeats 4000000 in
set_option maxRecDepth 100000 in
theorem s_X3_stringOf {X : kX} {g : kG} {N : Nat} {Q : Int32 → kS → Prop} {c : Nat} (hc : kOk X g RX3 cX3_stringOf 3 (some .int) 0) (hZ : kRi X g cX3_stringOf Q) (hh : kHall c) {σ : kS} {x1 : Int32} {x2 : Int32} (h : w_X3_stringOf N σ c x1 x2 Q) : kP X g 3 0 [(0, kz g c), (1, .int x1), (2, .int x2)] [] σ := by
  unfold w_X3_stringOf at h
  refine r_aload_n hc 0 dX3_stringOf_0 rfl ?_
  refine gf_X3_1 hc hh lf_X3_15 dX3_stringOf_1 ?_
  refine r_iload_n hc 1 dX3_stringOf_4 rfl ?_
  refine r_bipush (v := 8) hc dX3_stringOf_5 rfl ?_
  refine r_imul hc dX3_stringOf_7 ?_
  refine r_iload_n hc 2 dX3_stringOf_8 rfl ?_
  refine r_iadd hc dX3_stringOf_9 ?_
  obtain ⟨hi_1, h⟩ := h
  refine r_iald hc (kia_Hall_2 hh) hi_1 dX3_stringOf_10 ?_
  exact r_iret (ls0 := []) hZ dX3_stringOf_11 h
theorem m_X3_stringOf {l : Launch} {g : kG} {N : Nat} {σ : kS} {c : Nat} {x1 : Int32} {x2 : Int32} {Q : Int32 → kS → Prop} (hh : kHall c) (h : w_X3_stringOf N σ c x1 x2 Q) : kMi l g yX3_stringOf cX3_stringOf 3 (some .int) 0 [kz g c, .int x1, .int x2] σ Q :=
  k_met_i (by decide +kernel) rfl (Nat.le_of_ble_eq_true rfl) (fun X hl hc hZ => s_X3_stringOf hc hZ hh h)
def b_X3_greatestKey_5 (N : Nat) (Q : Int32 → kS → Prop) (c : Nat) (x1 : Int32) (x2 : Int32) (K : Int32 → Int32 → kS → Prop) (x3 : Int32) (x4 : Int32) (σ : kS) : Prop :=
  vp_in x2 4 ∧ (if (σ (c + 1) x2.toNatClampNeg) ≤ x4 then (Q x3 σ) else (w_X3_stringOf N σ c x2 x4 (fun (r_3 : Int32) (σ_2 : kS) => w_X3_around N σ_2 c (r_3 - x1) (fun (r_5 : Int32) (σ_4 : kS) => ∀ x3_6 : Int32, x3_6 = kmax x3 r_5 → (∀ x4_7 : Int32, x4_7 = x4 + 1 → (K x3_6 x4_7 σ_4))))))
def l_X3_greatestKey_5 (N : Nat) (Q : Int32 → kS → Prop) (c : Nat) (x1 : Int32) (x2 : Int32) : Nat → Int32 → Int32 → kS → Prop
  | 0 => fun _ _ _ => False
  | n + 1 => b_X3_greatestKey_5 N Q c x1 x2 (l_X3_greatestKey_5 N Q c x1 x2 n)
set_option maxHeartbeats 4000000 in
set_option maxRecDepth 100000 in
theorem sb_X3_greatestKey_5 {X : kX} {g : kG} {N : Nat} {Q : Int32 → kS → Prop} {c : Nat} (hc : kOk X g RX3 cX3_greatestKey 5 (some .int) 1) (hZ : kRi X g cX3_greatestKey Q) (hh : kHall c) {x1 : Int32} {x2 : Int32} {K : Int32 → Int32 → kS → Prop} (hK : ∀ (x3 : Int32) (x4 : Int32) (τ : kS), K x3 x4 τ → kP X g 5 5 [(0, kz g c), (1, .int x1), (2, .int x2), (3, .int x3), (4, .int x4)] [] τ) {x3 : Int32} {x4 : Int32} {σ : kS} (h : b_X3_greatestKey_5 N Q c x1 x2 K x3 x4 σ) : kP X g 5 5 [(0, kz g c), (1, .int x1), (2, .int x2), (3, .int x3), (4, .int x4)] [] σ := by
  unfold b_X3_greatestKey_5 at h
  refine r_iload hc 4 dX3_greatestKey_5 rfl ?_
  refine r_aload_n hc 0 dX3_greatestKey_7 rfl ?_
  refine gf_X3_0 hc hh lf_X3_11 dX3_greatestKey_8 ?_
  refine r_iload_n hc 2 dX3_greatestKey_11 rfl ?_
  obtain ⟨hi_1, h⟩ := h
  refine r_iald hc (kia_Hall_1 hh) hi_1 dX3_greatestKey_12 ?_
  refine r_ic_ge hc 40 dX3_greatestKey_13 (by decide) (fun q => ?_) (fun q => ?_)
  · have h := kif_t h q
    refine r_iload_n hc 3 dX3_greatestKey_40 rfl ?_
    exact r_iret (ls0 := []) hZ dX3_greatestKey_41 h
  · have h := kif_f h q
    refine r_iload_n hc 3 dX3_greatestKey_16 rfl ?_
    refine r_aload_n hc 0 dX3_greatestKey_17 rfl ?_
    refine r_aload_n hc 0 dX3_greatestKey_18 rfl ?_
    refine r_iload_n hc 2 dX3_greatestKey_19 rfl ?_
    refine r_iload hc 4 dX3_greatestKey_20 rfl ?_
    refine r_callVi (d := 0) hc (m_X3_stringOf hh h) cw_X3_stringOf wi_X3_stringOf ws_X3_stringOf lm_X3_69 (by decide) (by decide) (rv_X3 hh) rfl rfl (Nat.le_of_ble_eq_true rfl) dX3_greatestKey_22 (fun r_3 σ_2 h => ?_)
    refine r_iload_n hc 1 dX3_greatestKey_25 rfl ?_
    refine r_isub hc dX3_greatestKey_26 ?_
    refine r_callVi (d := 0) hc (m_X3_around hh h) cw_X3_around wi_X3_around ws_X3_around lm_X3_52 (by decide) (by decide) (rv_X3 hh) rfl rfl (Nat.le_of_ble_eq_true rfl) dX3_greatestKey_27 (fun r_5 σ_4 h => ?_)
    refine r_mmax hc lm_X3_77 (by decide) (Nat.le_of_ble_eq_true rfl) dX3_greatestKey_30 ?_
    refine r_nmI (fun x3_6 ex3_6 => ?_)
    have h := h x3_6 ex3_6
    refine r_istore_n hc [(3, .int x3_6), (0, kz g c), (1, .int x1), (2, .int x2), (4, .int x4)] dX3_greatestKey_33 (by decide) rfl ?_
    obtain ⟨x4_7, ex4_7⟩ : ∃ v : Int32, v = x4 + 1 := ⟨_, rfl⟩
    have h := h x4_7 ex4_7
    refine r_iinc (v := x4_7) hc 4 [(4, .int x4_7), (3, .int x3_6), (0, kz g c), (1, .int x1), (2, .int x2)] dX3_greatestKey_34 rfl (by rw [ex4_7]; rfl) (by decide) rfl ?_
    refine r_goto hc 5 dX3_greatestKey_37 (by decide) ?_
    refine r_sub [2, 3, 4, 1, 0] rfl ?_
    exact hK _ _ _ h
theorem sl_X3_greatestKey_5 {X : kX} {g : kG} {N : Nat} {Q : Int32 → kS → Prop} {c : Nat} (hc : kOk X g RX3 cX3_greatestKey 5 (some .int) 1) (hZ : kRi X g cX3_greatestKey Q) (hh : kHall c) {x1 : Int32} {x2 : Int32} : ∀ (n : Nat) (x3 : Int32) (x4 : Int32) (σ : kS), l_X3_greatestKey_5 N Q c x1 x2 n x3 x4 σ → kP X g 5 5 [(0, kz g c), (1, .int x1), (2, .int x2), (3, .int x3), (4, .int x4)] [] σ := by
  intro n
  induction n with
  | zero => intro x3 x4 σ h; exact h.elim
  | succ n ih => intro x3 x4 σ h; exact sb_X3_greatestKey_5 hc hZ hh ih h
def w_X3_greatestKey (N : Nat) (σ : kS) (c : Nat) (x1 : Int32) (x2 : Int32) (Q : Int32 → kS → Prop) : Prop :=
  l_X3_greatestKey_5 N Q c x1 x2  N 0 0 σ
set_option maxHeartbeats 4000000 in
set_option maxRecDepth 100000 in
theorem s_X3_greatestKey {X : kX} {g : kG} {N : Nat} {Q : Int32 → kS → Prop} {c : Nat} (hc : kOk X g RX3 cX3_greatestKey 5 (some .int) 1) (hZ : kRi X g cX3_greatestKey Q) (hh : kHall c) {σ : kS} {x1 : Int32} {x2 : Int32} (h : w_X3_greatestKey N σ c x1 x2 Q) : kP X g 5 0 [(0, kz g c), (1, .int x1), (2, .int x2)] [] σ := by
  unfold w_X3_greatestKey at h
  refine r_iconst (v := 0) hc dX3_greatestKey_0 rfl ?_
  refine r_istore_n hc [(3, .int 0), (0, kz g c), (1, .int x1), (2, .int x2)] dX3_greatestKey_1 (by decide) rfl ?_
  refine r_iconst (v := 0) hc dX3_greatestKey_2 rfl ?_
  refine r_istore hc [(4, .int 0), (3, .int 0), (0, kz g c), (1, .int x1), (2, .int x2)] dX3_greatestKey_3 (by decide) rfl ?_
  refine r_sub [2, 3, 4, 1, 0] rfl ?_
  refine sl_X3_greatestKey_5 hc hZ hh _ _ _ _ h
theorem m_X3_greatestKey {l : Launch} {g : kG} {N : Nat} {σ : kS} {c : Nat} {x1 : Int32} {x2 : Int32} {Q : Int32 → kS → Prop} (hh : kHall c) (h : w_X3_greatestKey N σ c x1 x2 Q) : kMi l g yX3_greatestKey cX3_greatestKey 5 (some .int) 1 [kz g c, .int x1, .int x2] σ Q :=
  k_met_i (by decide +kernel) rfl (Nat.le_of_ble_eq_true rfl) (fun X hl hc hZ => s_X3_greatestKey hc hZ hh h)
def b_X3_leastKey_8 (N : Nat) (Q : Int32 → kS → Prop) (c : Nat) (x1 : Int32) (x2 : Int32) (K : Int32 → Int32 → kS → Prop) (x3 : Int32) (x4 : Int32) (σ : kS) : Prop :=
  vp_in x2 4 ∧ (if (σ (c + 1) x2.toNatClampNeg) ≤ x4 then (Q x3 σ) else (w_X3_stringOf N σ c x2 x4 (fun (r_4 : Int32) (σ_3 : kS) => w_X3_around N σ_3 c (r_4 - x1) (fun (r_6 : Int32) (σ_5 : kS) => ∀ x3_7 : Int32, x3_7 = kmin x3 r_6 → (∀ x4_8 : Int32, x4_8 = x4 + 1 → (K x3_7 x4_8 σ_5))))))
def l_X3_leastKey_8 (N : Nat) (Q : Int32 → kS → Prop) (c : Nat) (x1 : Int32) (x2 : Int32) : Nat → Int32 → Int32 → kS → Prop
  | 0 => fun _ _ _ => False
  | n + 1 => b_X3_leastKey_8 N Q c x1 x2 (l_X3_leastKey_8 N Q c x1 x2 n)
set_option maxHeartbeats 4000000 in
set_option maxRecDepth 100000 in
theorem sb_X3_leastKey_8 {X : kX} {g : kG} {N : Nat} {Q : Int32 → kS → Prop} {c : Nat} (hc : kOk X g RX3 cX3_leastKey 5 (some .int) 1) (hZ : kRi X g cX3_leastKey Q) (hh : kHall c) {x1 : Int32} {x2 : Int32} {K : Int32 → Int32 → kS → Prop} (hK : ∀ (x3 : Int32) (x4 : Int32) (τ : kS), K x3 x4 τ → kP X g 5 8 [(0, kz g c), (1, .int x1), (2, .int x2), (3, .int x3), (4, .int x4)] [] τ) {x3 : Int32} {x4 : Int32} {σ : kS} (h : b_X3_leastKey_8 N Q c x1 x2 K x3 x4 σ) : kP X g 5 8 [(0, kz g c), (1, .int x1), (2, .int x2), (3, .int x3), (4, .int x4)] [] σ := by
  unfold b_X3_leastKey_8 at h
  refine r_iload hc 4 dX3_leastKey_8 rfl ?_
  refine r_aload_n hc 0 dX3_leastKey_10 rfl ?_
  refine gf_X3_0 hc hh lf_X3_11 dX3_leastKey_11 ?_
  refine r_iload_n hc 2 dX3_leastKey_14 rfl ?_
  obtain ⟨hi_2, h⟩ := h
  refine r_iald hc (kia_Hall_1 hh) hi_2 dX3_leastKey_15 ?_
  refine r_ic_ge hc 43 dX3_leastKey_16 (by decide) (fun q => ?_) (fun q => ?_)
  · have h := kif_t h q
    refine r_iload_n hc 3 dX3_leastKey_43 rfl ?_
    exact r_iret (ls0 := []) hZ dX3_leastKey_44 h
  · have h := kif_f h q
    refine r_iload_n hc 3 dX3_leastKey_19 rfl ?_
    refine r_aload_n hc 0 dX3_leastKey_20 rfl ?_
    refine r_aload_n hc 0 dX3_leastKey_21 rfl ?_
    refine r_iload_n hc 2 dX3_leastKey_22 rfl ?_
    refine r_iload hc 4 dX3_leastKey_23 rfl ?_
    refine r_callVi (d := 0) hc (m_X3_stringOf hh h) cw_X3_stringOf wi_X3_stringOf ws_X3_stringOf lm_X3_69 (by decide) (by decide) (rv_X3 hh) rfl rfl (Nat.le_of_ble_eq_true rfl) dX3_leastKey_25 (fun r_4 σ_3 h => ?_)
    refine r_iload_n hc 1 dX3_leastKey_28 rfl ?_
    refine r_isub hc dX3_leastKey_29 ?_
    refine r_callVi (d := 0) hc (m_X3_around hh h) cw_X3_around wi_X3_around ws_X3_around lm_X3_52 (by decide) (by decide) (rv_X3 hh) rfl rfl (Nat.le_of_ble_eq_true rfl) dX3_leastKey_30 (fun r_6 σ_5 h => ?_)
    refine r_mmin hc lm_X3_72 (by decide) (Nat.le_of_ble_eq_true rfl) dX3_leastKey_33 ?_
    refine r_nmI (fun x3_7 ex3_7 => ?_)
    have h := h x3_7 ex3_7
    refine r_istore_n hc [(3, .int x3_7), (0, kz g c), (1, .int x1), (2, .int x2), (4, .int x4)] dX3_leastKey_36 (by decide) rfl ?_
    obtain ⟨x4_8, ex4_8⟩ : ∃ v : Int32, v = x4 + 1 := ⟨_, rfl⟩
    have h := h x4_8 ex4_8
    refine r_iinc (v := x4_8) hc 4 [(4, .int x4_8), (3, .int x3_7), (0, kz g c), (1, .int x1), (2, .int x2)] dX3_leastKey_37 rfl (by rw [ex4_8]; rfl) (by decide) rfl ?_
    refine r_goto hc 8 dX3_leastKey_40 (by decide) ?_
    refine r_sub [2, 3, 4, 1, 0] rfl ?_
    exact hK _ _ _ h
theorem sl_X3_leastKey_8 {X : kX} {g : kG} {N : Nat} {Q : Int32 → kS → Prop} {c : Nat} (hc : kOk X g RX3 cX3_leastKey 5 (some .int) 1) (hZ : kRi X g cX3_leastKey Q) (hh : kHall c) {x1 : Int32} {x2 : Int32} : ∀ (n : Nat) (x3 : Int32) (x4 : Int32) (σ : kS), l_X3_leastKey_8 N Q c x1 x2 n x3 x4 σ → kP X g 5 8 [(0, kz g c), (1, .int x1), (2, .int x2), (3, .int x3), (4, .int x4)] [] σ := by
  intro n
  induction n with
  | zero => intro x3 x4 σ h; exact h.elim
  | succ n ih => intro x3 x4 σ h; exact sb_X3_leastKey_8 hc hZ hh ih h
def w_X3_leastKey (N : Nat) (σ : kS) (c : Nat) (x1 : Int32) (x2 : Int32) (Q : Int32 → kS → Prop) : Prop :=
  ∀ x3_1 : Int32, x3_1 = σ c 5 → (l_X3_leastKey_8 N Q c x1 x2  N x3_1 0 σ)
set_option maxHeartbeats 4000000 in
set_option maxRecDepth 100000 in
theorem s_X3_leastKey {X : kX} {g : kG} {N : Nat} {Q : Int32 → kS → Prop} {c : Nat} (hc : kOk X g RX3 cX3_leastKey 5 (some .int) 1) (hZ : kRi X g cX3_leastKey Q) (hh : kHall c) {σ : kS} {x1 : Int32} {x2 : Int32} (h : w_X3_leastKey N σ c x1 x2 Q) : kP X g 5 0 [(0, kz g c), (1, .int x1), (2, .int x2)] [] σ := by
  unfold w_X3_leastKey at h
  refine r_aload_n hc 0 dX3_leastKey_0 rfl ?_
  refine gf_X3_5 hc hh lf_X3_27 dX3_leastKey_1 ?_
  refine r_nmI (fun x3_1 ex3_1 => ?_)
  have h := h x3_1 ex3_1
  refine r_istore_n hc [(3, .int x3_1), (0, kz g c), (1, .int x1), (2, .int x2)] dX3_leastKey_4 (by decide) rfl ?_
  refine r_iconst (v := 0) hc dX3_leastKey_5 rfl ?_
  refine r_istore hc [(4, .int 0), (3, .int x3_1), (0, kz g c), (1, .int x1), (2, .int x2)] dX3_leastKey_6 (by decide) rfl ?_
  refine r_sub [2, 3, 4, 1, 0] rfl ?_
  refine sl_X3_leastKey_8 hc hZ hh _ _ _ _ h
theorem m_X3_leastKey {l : Launch} {g : kG} {N : Nat} {σ : kS} {c : Nat} {x1 : Int32} {x2 : Int32} {Q : Int32 → kS → Prop} (hh : kHall c) (h : w_X3_leastKey N σ c x1 x2 Q) : kMi l g yX3_leastKey cX3_leastKey 5 (some .int) 1 [kz g c, .int x1, .int x2] σ Q :=
  k_met_i (by decide +kernel) rfl (Nat.le_of_ble_eq_true rfl) (fun X hl hc hZ => s_X3_leastKey hc hZ hh h)
def w_X3_reaches (N : Nat) (σ : kS) (c : Nat) (x1 : Int32) (x2 : Int32) (Q : Int32 → kS → Prop) : Prop :=
  w_X3_biasOf N σ c x1 (fun (r_2 : Int32) (σ_1 : kS) => w_X3_greatestKey N σ_1 c r_2 x2 (fun (r_4 : Int32) (σ_3 : kS) => w_X3_leastKey N σ_3 c r_2 x2 (fun (r_6 : Int32) (σ_5 : kS) => vp_in x1 5 ∧ (if (σ_5 (c + 5) x1.toNatClampNeg) ≤ (r_4 - r_6) then (Q 0 σ_5) else (Q 1 σ_5)))))
set_option maxHeartbeats 4000000 in
set_option maxRecDepth 100000 in
theorem s_X3_reaches {X : kX} {g : kG} {N : Nat} {Q : Int32 → kS → Prop} {c : Nat} (hc : kOk X g RX3 cX3_reaches 4 (some .boolean) 3) (hZ : kRz X g cX3_reaches Q) (hh : kHall c) {σ : kS} {x1 : Int32} {x2 : Int32} (h : w_X3_reaches N σ c x1 x2 Q) : kP X g 4 0 [(0, kz g c), (1, .int x1), (2, .int x2)] [] σ := by
  unfold w_X3_reaches at h
  refine r_aload_n hc 0 dX3_reaches_0 rfl ?_
  refine r_iload_n hc 1 dX3_reaches_1 rfl ?_
  refine r_callVi (d := 2) hc (m_X3_biasOf hh h) cw_X3_biasOf wi_X3_biasOf ws_X3_biasOf lm_X3_60 (by decide) (by decide) (rv_X3 hh) rfl rfl (Nat.le_of_ble_eq_true rfl) dX3_reaches_2 (fun r_2 σ_1 h => ?_)
  refine r_istore_n hc [(3, .int r_2), (0, kz g c), (1, .int x1), (2, .int x2)] dX3_reaches_5 (by decide) rfl ?_
  refine r_aload_n hc 1 dX3_reaches_6 rfl ?_
  refine r_iload_n hc 0 dX3_reaches_7 rfl ?_
  refine r_iload_n hc 3 dX3_reaches_8 rfl ?_
  refine r_callVi (d := 1) hc (m_X3_greatestKey hh h) cw_X3_greatestKey wi_X3_greatestKey ws_X3_greatestKey lm_X3_63 (by decide) (by decide) (rv_X3 hh) rfl rfl (Nat.le_of_ble_eq_true rfl) dX3_reaches_9 (fun r_4 σ_3 h => ?_)
  refine r_aload_n hc 1 dX3_reaches_12 rfl ?_
  refine r_iload_n hc 0 dX3_reaches_13 rfl ?_
  refine r_iload_n hc 3 dX3_reaches_14 rfl ?_
  refine r_callVi (d := 1) hc (m_X3_leastKey hh h) cw_X3_leastKey wi_X3_leastKey ws_X3_leastKey lm_X3_66 (by decide) (by decide) (rv_X3 hh) rfl rfl (Nat.le_of_ble_eq_true rfl) dX3_reaches_15 (fun r_6 σ_5 h => ?_)
  refine r_isub hc dX3_reaches_18 ?_
  refine r_aload_n hc 1 dX3_reaches_19 rfl ?_
  refine gf_X3_4 hc hh lf_X3_24 dX3_reaches_20 ?_
  refine r_iload_n hc 2 dX3_reaches_23 rfl ?_
  obtain ⟨hi_7, h⟩ := h
  refine r_iald hc (kia_Hall_5 hh) hi_7 dX3_reaches_24 ?_
  refine r_ic_ge hc 32 dX3_reaches_25 (by decide) (fun q => ?_) (fun q => ?_)
  · have h := kif_t h q
    refine r_iconst (v := 0) hc dX3_reaches_32 rfl ?_
    exact r_zret (ls0 := []) hZ dX3_reaches_33 (Or.inl rfl) h
  · have h := kif_f h q
    refine r_iconst (v := 1) hc dX3_reaches_28 rfl ?_
    refine r_goto hc 33 dX3_reaches_29 (by decide) ?_
    exact r_zret (ls0 := []) hZ dX3_reaches_33 (Or.inr rfl) h
theorem m_X3_reaches {l : Launch} {g : kG} {N : Nat} {σ : kS} {c : Nat} {x1 : Int32} {x2 : Int32} {Q : Int32 → kS → Prop} (hh : kHall c) (h : w_X3_reaches N σ c x1 x2 Q) : kMi l g yX3_reaches cX3_reaches 4 (some .boolean) 3 [kz g c, .int x1, .int x2] σ Q :=
  k_met_z (by decide +kernel) rfl (Nat.le_of_ble_eq_true rfl) (fun X hl hc hZ => s_X3_reaches hc hZ hh h)
def w_X3_stringHeard (N : Nat) (σ : kS) (c : Nat) (x1 : Int32) (x2 : Int32) (Q : Int32 → kS → Prop) : Prop :=
  w_X3_around N σ c ((x1 - x2) + (σ c 7)) (fun (r_2 : Int32) (σ_1 : kS) => Q r_2 σ_1)
set_option maxHeartbeats 4000000 in
set_option maxRecDepth 100000 in
theorem s_X3_stringHeard {X : kX} {g : kG} {N : Nat} {Q : Int32 → kS → Prop} {c : Nat} (hc : kOk X g RX3 cX3_stringHeard 3 (some .int) 1) (hZ : kRi X g cX3_stringHeard Q) (hh : kHall c) {σ : kS} {x1 : Int32} {x2 : Int32} (h : w_X3_stringHeard N σ c x1 x2 Q) : kP X g 3 0 [(0, kz g c), (1, .int x1), (2, .int x2)] [] σ := by
  unfold w_X3_stringHeard at h
  refine r_aload_n hc 0 dX3_stringHeard_0 rfl ?_
  refine r_iload_n hc 1 dX3_stringHeard_1 rfl ?_
  refine r_iload_n hc 2 dX3_stringHeard_2 rfl ?_
  refine r_isub hc dX3_stringHeard_3 ?_
  refine r_aload_n hc 0 dX3_stringHeard_4 rfl ?_
  refine gf_X3_7 hc hh lf_X3_40 dX3_stringHeard_5 ?_
  refine r_iadd hc dX3_stringHeard_8 ?_
  refine r_callVi (d := 0) hc (m_X3_around hh h) cw_X3_around wi_X3_around ws_X3_around lm_X3_52 (by decide) (by decide) (rv_X3 hh) rfl rfl (Nat.le_of_ble_eq_true rfl) dX3_stringHeard_9 (fun r_2 σ_1 h => ?_)
  exact r_iret (ls0 := []) hZ dX3_stringHeard_12 h
theorem m_X3_stringHeard {l : Launch} {g : kG} {N : Nat} {σ : kS} {c : Nat} {x1 : Int32} {x2 : Int32} {Q : Int32 → kS → Prop} (hh : kHall c) (h : w_X3_stringHeard N σ c x1 x2 Q) : kMi l g yX3_stringHeard cX3_stringHeard 3 (some .int) 1 [kz g c, .int x1, .int x2] σ Q :=
  k_met_i (by decide +kernel) rfl (Nat.le_of_ble_eq_true rfl) (fun X hl hc hZ => s_X3_stringHeard hc hZ hh h)
def w_X3_isTold (N : Nat) (σ : kS) (c : Nat) (Q : Int32 → kS → Prop) : Prop :=
  if (σ c 5) ≤ 0 then (Q 0 σ) else (Q 1 σ)
set_option maxHeartbeats 4000000 in
set_option maxRecDepth 100000 in
theorem s_X3_isTold {X : kX} {g : kG} {N : Nat} {Q : Int32 → kS → Prop} {c : Nat} (hc : kOk X g RX3 cX3_isTold 1 (some .boolean) 0) (hZ : kRz X g cX3_isTold Q) (hh : kHall c) {σ : kS} (h : w_X3_isTold N σ c Q) : kP X g 1 0 [(0, kz g c)] [] σ := by
  unfold w_X3_isTold at h
  refine r_aload_n hc 0 dX3_isTold_0 rfl ?_
  refine gf_X3_5 hc hh lf_X3_27 dX3_isTold_1 ?_
  refine r_if_le hc 11 dX3_isTold_4 (by decide) (fun q => ?_) (fun q => ?_)
  · have h := kif_t h q
    refine r_iconst (v := 0) hc dX3_isTold_11 rfl ?_
    exact r_zret (ls0 := []) hZ dX3_isTold_12 (Or.inl rfl) h
  · have h := kif_f h q
    refine r_iconst (v := 1) hc dX3_isTold_7 rfl ?_
    refine r_goto hc 12 dX3_isTold_8 (by decide) ?_
    exact r_zret (ls0 := []) hZ dX3_isTold_12 (Or.inr rfl) h
theorem m_X3_isTold {l : Launch} {g : kG} {N : Nat} {σ : kS} {c : Nat} {Q : Int32 → kS → Prop} (hh : kHall c) (h : w_X3_isTold N σ c Q) : kMi l g yX3_isTold cX3_isTold 1 (some .boolean) 0 [kz g c] σ Q :=
  k_met_z (by decide +kernel) rfl (Nat.le_of_ble_eq_true rfl) (fun X hl hc hZ => s_X3_isTold hc hZ hh h)
def w_X3_hasPiece (N : Nat) (σ : kS) (c : Nat) (x1 : Int32) (Q : Int32 → kS → Prop) : Prop :=
  if x1 < 0 then (Q 0 σ) else (if (σ c 9) ≤ x1 then (Q 0 σ) else (Q 1 σ))
set_option maxHeartbeats 4000000 in
set_option maxRecDepth 100000 in
theorem s_X3_hasPiece {X : kX} {g : kG} {N : Nat} {Q : Int32 → kS → Prop} {c : Nat} (hc : kOk X g RX3 cX3_hasPiece 2 (some .boolean) 0) (hZ : kRz X g cX3_hasPiece Q) (hh : kHall c) {σ : kS} {x1 : Int32} (h : w_X3_hasPiece N σ c x1 Q) : kP X g 2 0 [(0, kz g c), (1, .int x1)] [] σ := by
  unfold w_X3_hasPiece at h
  refine r_iload_n hc 1 dX3_hasPiece_0 rfl ?_
  refine r_if_lt hc 16 dX3_hasPiece_1 (by decide) (fun q => ?_) (fun q => ?_)
  · have h := kif_t h q
    refine r_iconst (v := 0) hc dX3_hasPiece_16 rfl ?_
    exact r_zret (ls0 := []) hZ dX3_hasPiece_17 (Or.inl rfl) h
  · have h := kif_f h q
    refine r_iload_n hc 1 dX3_hasPiece_4 rfl ?_
    refine r_aload_n hc 0 dX3_hasPiece_5 rfl ?_
    refine gf_X3_9 hc hh lf_X3_31 dX3_hasPiece_6 ?_
    refine r_ic_ge hc 16 dX3_hasPiece_9 (by decide) (fun q => ?_) (fun q => ?_)
    · have h := kif_t h q
      refine r_iconst (v := 0) hc dX3_hasPiece_16 rfl ?_
      exact r_zret (ls0 := []) hZ dX3_hasPiece_17 (Or.inl rfl) h
    · have h := kif_f h q
      refine r_iconst (v := 1) hc dX3_hasPiece_12 rfl ?_
      refine r_goto hc 17 dX3_hasPiece_13 (by decide) ?_
      exact r_zret (ls0 := []) hZ dX3_hasPiece_17 (Or.inr rfl) h
theorem m_X3_hasPiece {l : Launch} {g : kG} {N : Nat} {σ : kS} {c : Nat} {x1 : Int32} {Q : Int32 → kS → Prop} (hh : kHall c) (h : w_X3_hasPiece N σ c x1 Q) : kMi l g yX3_hasPiece cX3_hasPiece 2 (some .boolean) 0 [kz g c, .int x1] σ Q :=
  k_met_z (by decide +kernel) rfl (Nat.le_of_ble_eq_true rfl) (fun X hl hc hZ => s_X3_hasPiece hc hZ hh h)
def w_X3_hasPupil (N : Nat) (σ : kS) (c : Nat) (x1 : Int32) (Q : Int32 → kS → Prop) : Prop :=
  if x1 < 0 then (Q 0 σ) else (if (σ c 10) ≤ x1 then (Q 0 σ) else (Q 1 σ))
set_option maxHeartbeats 4000000 in
set_option maxRecDepth 100000 in
theorem s_X3_hasPupil {X : kX} {g : kG} {N : Nat} {Q : Int32 → kS → Prop} {c : Nat} (hc : kOk X g RX3 cX3_hasPupil 2 (some .boolean) 0) (hZ : kRz X g cX3_hasPupil Q) (hh : kHall c) {σ : kS} {x1 : Int32} (h : w_X3_hasPupil N σ c x1 Q) : kP X g 2 0 [(0, kz g c), (1, .int x1)] [] σ := by
  unfold w_X3_hasPupil at h
  refine r_iload_n hc 1 dX3_hasPupil_0 rfl ?_
  refine r_if_lt hc 16 dX3_hasPupil_1 (by decide) (fun q => ?_) (fun q => ?_)
  · have h := kif_t h q
    refine r_iconst (v := 0) hc dX3_hasPupil_16 rfl ?_
    exact r_zret (ls0 := []) hZ dX3_hasPupil_17 (Or.inl rfl) h
  · have h := kif_f h q
    refine r_iload_n hc 1 dX3_hasPupil_4 rfl ?_
    refine r_aload_n hc 0 dX3_hasPupil_5 rfl ?_
    refine gf_X3_10 hc hh lf_X3_34 dX3_hasPupil_6 ?_
    refine r_ic_ge hc 16 dX3_hasPupil_9 (by decide) (fun q => ?_) (fun q => ?_)
    · have h := kif_t h q
      refine r_iconst (v := 0) hc dX3_hasPupil_16 rfl ?_
      exact r_zret (ls0 := []) hZ dX3_hasPupil_17 (Or.inl rfl) h
    · have h := kif_f h q
      refine r_iconst (v := 1) hc dX3_hasPupil_12 rfl ?_
      refine r_goto hc 17 dX3_hasPupil_13 (by decide) ?_
      exact r_zret (ls0 := []) hZ dX3_hasPupil_17 (Or.inr rfl) h
theorem m_X3_hasPupil {l : Launch} {g : kG} {N : Nat} {σ : kS} {c : Nat} {x1 : Int32} {Q : Int32 → kS → Prop} (hh : kHall c) (h : w_X3_hasPupil N σ c x1 Q) : kMi l g yX3_hasPupil cX3_hasPupil 2 (some .boolean) 0 [kz g c, .int x1] σ Q :=
  k_met_z (by decide +kernel) rfl (Nat.le_of_ble_eq_true rfl) (fun X hl hc hZ => s_X3_hasPupil hc hZ hh h)
def w_X3_become (N : Nat) (σ : kS) (c : Nat) (a1 : Nat) (Q : kS → Prop) : Prop :=
  ∀ σ_1 : kS, σ_1 = st2 σ c 5 (σ a1 5) → (∀ σ_2 : kS, σ_2 = st2 σ_1 c 6 (σ_1 a1 6) → (∀ σ_3 : kS, σ_3 = st2 σ_2 c 7 (σ_2 a1 7) → (∀ σ_4 : kS, σ_4 = st2 σ_3 c 8 (σ_3 a1 8) → (∀ σ_5 : kS, σ_5 = st2 σ_4 c 9 (σ_4 a1 9) → (∀ σ_6 : kS, σ_6 = st2 σ_5 c 10 (σ_5 a1 10) → ((¬ (0 : Int32) < 0 ∧ ¬ (0 : Int32) < 0 ∧ ¬ (4 : Int32) < 0 ∧ (0 : Int32).toNatClampNeg + (4 : Int32).toNatClampNeg ≤ 4 ∧ (0 : Int32).toNatClampNeg + (4 : Int32).toNatClampNeg ≤ 4) ∧ (∀ σ_12 : kS, σ_12 = va_up σ_6 (c + 1) (va_cpy (σ_6 (a1 + 1)) (σ_6 (c + 1)) ((0 : Int32).toNatClampNeg) ((0 : Int32).toNatClampNeg) ((4 : Int32).toNatClampNeg)) → ((¬ (0 : Int32) < 0 ∧ ¬ (0 : Int32) < 0 ∧ ¬ (32 : Int32) < 0 ∧ (0 : Int32).toNatClampNeg + (32 : Int32).toNatClampNeg ≤ 32 ∧ (0 : Int32).toNatClampNeg + (32 : Int32).toNatClampNeg ≤ 32) ∧ (∀ σ_18 : kS, σ_18 = va_up σ_12 (c + 2) (va_cpy (σ_12 (a1 + 2)) (σ_12 (c + 2)) ((0 : Int32).toNatClampNeg) ((0 : Int32).toNatClampNeg) ((32 : Int32).toNatClampNeg)) → ((¬ (0 : Int32) < 0 ∧ ¬ (0 : Int32) < 0 ∧ ¬ (5 : Int32) < 0 ∧ (0 : Int32).toNatClampNeg + (5 : Int32).toNatClampNeg ≤ 5 ∧ (0 : Int32).toNatClampNeg + (5 : Int32).toNatClampNeg ≤ 5) ∧ (∀ σ_24 : kS, σ_24 = va_up σ_18 (c + 3) (va_cpy (σ_18 (a1 + 3)) (σ_18 (c + 3)) ((0 : Int32).toNatClampNeg) ((0 : Int32).toNatClampNeg) ((5 : Int32).toNatClampNeg)) → ((¬ (0 : Int32) < 0 ∧ ¬ (0 : Int32) < 0 ∧ ¬ (5 : Int32) < 0 ∧ (0 : Int32).toNatClampNeg + (5 : Int32).toNatClampNeg ≤ 5 ∧ (0 : Int32).toNatClampNeg + (5 : Int32).toNatClampNeg ≤ 5) ∧ (∀ σ_30 : kS, σ_30 = va_up σ_24 (c + 4) (va_cpy (σ_24 (a1 + 4)) (σ_24 (c + 4)) ((0 : Int32).toNatClampNeg) ((0 : Int32).toNatClampNeg) ((5 : Int32).toNatClampNeg)) → ((¬ (0 : Int32) < 0 ∧ ¬ (0 : Int32) < 0 ∧ ¬ (5 : Int32) < 0 ∧ (0 : Int32).toNatClampNeg + (5 : Int32).toNatClampNeg ≤ 5 ∧ (0 : Int32).toNatClampNeg + (5 : Int32).toNatClampNeg ≤ 5) ∧ (∀ σ_36 : kS, σ_36 = va_up σ_30 (c + 5) (va_cpy (σ_30 (a1 + 5)) (σ_30 (c + 5)) ((0 : Int32).toNatClampNeg) ((0 : Int32).toNatClampNeg) ((5 : Int32).toNatClampNeg)) → (Q σ_36))))))))))))))))
set_option maxHeartbeats 4000000 in
set_option maxRecDepth 100000 in
theorem s_X3_become {X : kX} {g : kG} {N : Nat} {Q : kS → Prop} {c : Nat} {a1 : Nat} (hc : kOk X g RX3 cX3_become 2 none 1) (hZ : kRw X g cX3_become Q) (hh : kHall c) (ha1 : kHall a1) {σ : kS} (h : w_X3_become N σ c a1 Q) : kP X g 2 0 [(0, kz g c), (1, kz g a1)] [] σ := by
  unfold w_X3_become at h
  refine r_aload_n hc 0 dX3_become_0 rfl ?_
  refine r_aload_n hc 1 dX3_become_1 rfl ?_
  refine gf_X3_5 hc ha1 lf_X3_27 dX3_become_2 ?_
  refine pf_X3_5 hc hh lf_X3_27 dX3_become_5 ?_
  refine r_nmS (fun σ_1 eσ_1 => ?_)
  have h := h σ_1 eσ_1
  refine r_aload_n hc 0 dX3_become_8 rfl ?_
  refine r_aload_n hc 1 dX3_become_9 rfl ?_
  refine gf_X3_6 hc ha1 lf_X3_37 dX3_become_10 ?_
  refine pf_X3_6 hc hh lf_X3_37 dX3_become_13 ?_
  refine r_nmS (fun σ_2 eσ_2 => ?_)
  have h := h σ_2 eσ_2
  refine r_aload_n hc 0 dX3_become_16 rfl ?_
  refine r_aload_n hc 1 dX3_become_17 rfl ?_
  refine gf_X3_7 hc ha1 lf_X3_40 dX3_become_18 ?_
  refine pf_X3_7 hc hh lf_X3_40 dX3_become_21 ?_
  refine r_nmS (fun σ_3 eσ_3 => ?_)
  have h := h σ_3 eσ_3
  refine r_aload_n hc 0 dX3_become_24 rfl ?_
  refine r_aload_n hc 1 dX3_become_25 rfl ?_
  refine gf_X3_8 hc ha1 lf_X3_43 dX3_become_26 ?_
  refine pf_X3_8 hc hh lf_X3_43 dX3_become_29 ?_
  refine r_nmS (fun σ_4 eσ_4 => ?_)
  have h := h σ_4 eσ_4
  refine r_aload_n hc 0 dX3_become_32 rfl ?_
  refine r_aload_n hc 1 dX3_become_33 rfl ?_
  refine gf_X3_9 hc ha1 lf_X3_31 dX3_become_34 ?_
  refine pf_X3_9 hc hh lf_X3_31 dX3_become_37 ?_
  refine r_nmS (fun σ_5 eσ_5 => ?_)
  have h := h σ_5 eσ_5
  refine r_aload_n hc 0 dX3_become_40 rfl ?_
  refine r_aload_n hc 1 dX3_become_41 rfl ?_
  refine gf_X3_10 hc ha1 lf_X3_34 dX3_become_42 ?_
  refine pf_X3_10 hc hh lf_X3_34 dX3_become_45 ?_
  refine r_nmS (fun σ_6 eσ_6 => ?_)
  have h := h σ_6 eσ_6
  refine r_aload_n hc 1 dX3_become_48 rfl ?_
  refine gf_X3_0 hc ha1 lf_X3_11 dX3_become_49 ?_
  refine r_iconst (v := 0) hc dX3_become_52 rfl ?_
  refine r_aload_n hc 0 dX3_become_53 rfl ?_
  refine gf_X3_0 hc hh lf_X3_11 dX3_become_54 ?_
  refine r_iconst (v := 0) hc dX3_become_57 rfl ?_
  refine r_iconst (v := 4) hc dX3_become_58 rfl ?_
  obtain ⟨⟨hc_7, hc_8, hc_9, hc_10, hc_11⟩, h⟩ := h
  refine r_copy hc (kia_Hall_1 ha1) (kia_Hall_1 hh) lm_X3_46 (by decide) hc_7 hc_8 hc_9 hc_10 hc_11 (Nat.le_of_ble_eq_true rfl) dX3_become_59 ?_
  refine r_nmS (fun σ_12 eσ_12 => ?_)
  have h := h σ_12 eσ_12
  refine r_aload_n hc 1 dX3_become_62 rfl ?_
  refine gf_X3_1 hc ha1 lf_X3_15 dX3_become_63 ?_
  refine r_iconst (v := 0) hc dX3_become_66 rfl ?_
  refine r_aload_n hc 0 dX3_become_67 rfl ?_
  refine gf_X3_1 hc hh lf_X3_15 dX3_become_68 ?_
  refine r_iconst (v := 0) hc dX3_become_71 rfl ?_
  refine r_bipush (v := 32) hc dX3_become_72 rfl ?_
  obtain ⟨⟨hc_13, hc_14, hc_15, hc_16, hc_17⟩, h⟩ := h
  refine r_copy hc (kia_Hall_2 ha1) (kia_Hall_2 hh) lm_X3_46 (by decide) hc_13 hc_14 hc_15 hc_16 hc_17 (Nat.le_of_ble_eq_true rfl) dX3_become_74 ?_
  refine r_nmS (fun σ_18 eσ_18 => ?_)
  have h := h σ_18 eσ_18
  refine r_aload_n hc 1 dX3_become_77 rfl ?_
  refine gf_X3_2 hc ha1 lf_X3_18 dX3_become_78 ?_
  refine r_iconst (v := 0) hc dX3_become_81 rfl ?_
  refine r_aload_n hc 0 dX3_become_82 rfl ?_
  refine gf_X3_2 hc hh lf_X3_18 dX3_become_83 ?_
  refine r_iconst (v := 0) hc dX3_become_86 rfl ?_
  refine r_iconst (v := 5) hc dX3_become_87 rfl ?_
  obtain ⟨⟨hc_19, hc_20, hc_21, hc_22, hc_23⟩, h⟩ := h
  refine r_copy hc (kia_Hall_3 ha1) (kia_Hall_3 hh) lm_X3_46 (by decide) hc_19 hc_20 hc_21 hc_22 hc_23 (Nat.le_of_ble_eq_true rfl) dX3_become_88 ?_
  refine r_nmS (fun σ_24 eσ_24 => ?_)
  have h := h σ_24 eσ_24
  refine r_aload_n hc 1 dX3_become_91 rfl ?_
  refine gf_X3_3 hc ha1 lf_X3_21 dX3_become_92 ?_
  refine r_iconst (v := 0) hc dX3_become_95 rfl ?_
  refine r_aload_n hc 0 dX3_become_96 rfl ?_
  refine gf_X3_3 hc hh lf_X3_21 dX3_become_97 ?_
  refine r_iconst (v := 0) hc dX3_become_100 rfl ?_
  refine r_iconst (v := 5) hc dX3_become_101 rfl ?_
  obtain ⟨⟨hc_25, hc_26, hc_27, hc_28, hc_29⟩, h⟩ := h
  refine r_copy hc (kia_Hall_4 ha1) (kia_Hall_4 hh) lm_X3_46 (by decide) hc_25 hc_26 hc_27 hc_28 hc_29 (Nat.le_of_ble_eq_true rfl) dX3_become_102 ?_
  refine r_nmS (fun σ_30 eσ_30 => ?_)
  have h := h σ_30 eσ_30
  refine r_aload_n hc 1 dX3_become_105 rfl ?_
  refine gf_X3_4 hc ha1 lf_X3_24 dX3_become_106 ?_
  refine r_iconst (v := 0) hc dX3_become_109 rfl ?_
  refine r_aload_n hc 0 dX3_become_110 rfl ?_
  refine gf_X3_4 hc hh lf_X3_24 dX3_become_111 ?_
  refine r_iconst (v := 0) hc dX3_become_114 rfl ?_
  refine r_iconst (v := 5) hc dX3_become_115 rfl ?_
  obtain ⟨⟨hc_31, hc_32, hc_33, hc_34, hc_35⟩, h⟩ := h
  refine r_copy hc (kia_Hall_5 ha1) (kia_Hall_5 hh) lm_X3_46 (by decide) hc_31 hc_32 hc_33 hc_34 hc_35 (Nat.le_of_ble_eq_true rfl) dX3_become_116 ?_
  refine r_nmS (fun σ_36 eσ_36 => ?_)
  have h := h σ_36 eσ_36
  exact r_vret (ls0 := []) hZ dX3_become_119 h
theorem m_X3_become {l : Launch} {g : kG} {N : Nat} {σ : kS} {c : Nat} {a1 : Nat} {Q : kS → Prop} (hh : kHall c) (ha1 : kHall a1) (h : w_X3_become N σ c a1 Q) : kMv l g yX3_become cX3_become 2 none 1 [kz g c, kz g a1] σ Q :=
  k_met_v (by decide +kernel) rfl (Nat.le_of_ble_eq_true rfl) (fun X hl hc hZ => s_X3_become hc hZ hh ha1 h)
def w_X4_isLane (N : Nat) (σ : kS) (x0 : Int32) (Q : Int32 → kS → Prop) : Prop :=
  if x0 < 0 then (Q 0 σ) else (if 2 < x0 then (Q 0 σ) else (Q 1 σ))
set_option maxHeartbeats 4000000 in
set_option maxRecDepth 100000 in
theorem s_X4_isLane {X : kX} {g : kG} {N : Nat} {Q : Int32 → kS → Prop} (hc : kOk X g RX4 cX4_isLane 1 (some .boolean) 0) (hZ : kRz X g cX4_isLane Q) {σ : kS} {x0 : Int32} (h : w_X4_isLane N σ x0 Q) : kP X g 1 0 [(0, .int x0)] [] σ := by
  unfold w_X4_isLane at h
  refine r_iload_n hc 0 dX4_isLane_0 rfl ?_
  refine r_if_lt hc 13 dX4_isLane_1 (by decide) (fun q => ?_) (fun q => ?_)
  · have h := kif_t h q
    refine r_iconst (v := 0) hc dX4_isLane_13 rfl ?_
    exact r_zret (ls0 := []) hZ dX4_isLane_14 (Or.inl rfl) h
  · have h := kif_f h q
    refine r_iload_n hc 0 dX4_isLane_4 rfl ?_
    refine r_iconst (v := 2) hc dX4_isLane_5 rfl ?_
    refine r_ic_gt hc 13 dX4_isLane_6 (by decide) (fun q => ?_) (fun q => ?_)
    · have h := kif_t h q
      refine r_iconst (v := 0) hc dX4_isLane_13 rfl ?_
      exact r_zret (ls0 := []) hZ dX4_isLane_14 (Or.inl rfl) h
    · have h := kif_f h q
      refine r_iconst (v := 1) hc dX4_isLane_9 rfl ?_
      refine r_goto hc 14 dX4_isLane_10 (by decide) ?_
      exact r_zret (ls0 := []) hZ dX4_isLane_14 (Or.inr rfl) h
theorem m_X4_isLane {l : Launch} {g : kG} {N : Nat} {σ : kS} {x0 : Int32} {Q : Int32 → kS → Prop} (h : w_X4_isLane N σ x0 Q) : kMi l g yX4_isLane cX4_isLane 1 (some .boolean) 0 [.int x0] σ Q :=
  k_met_z (by decide +kernel) rfl (Nat.le_of_ble_eq_true rfl) (fun X hl hc hZ => s_X4_isLane hc hZ h)
def w_X4_isMissing (N : Nat) (σ : kS) (c : Nat) (Q : Int32 → kS → Prop) : Prop :=
  if (σ c 1) = (-1) then (Q 1 σ) else (Q 0 σ)
set_option maxHeartbeats 4000000 in
set_option maxRecDepth 100000 in
theorem s_X4_isMissing {X : kX} {g : kG} {N : Nat} {Q : Int32 → kS → Prop} {c : Nat} (hc : kOk X g RX4 cX4_isMissing 1 (some .boolean) 0) (hZ : kRz X g cX4_isMissing Q) (hh : kRow c) {σ : kS} (h : w_X4_isMissing N σ c Q) : kP X g 1 0 [(0, kz g c)] [] σ := by
  unfold w_X4_isMissing at h
  refine r_aload_n hc 0 dX4_isMissing_0 rfl ?_
  refine gf_X4_1 hc hh lf_X4_13 dX4_isMissing_1 ?_
  refine r_iconst (v := (-1)) hc dX4_isMissing_4 rfl ?_
  refine r_ic_ne hc 12 dX4_isMissing_5 (by decide) (fun q => ?_) (fun q => ?_)
  · have h := kif_t h q
    refine r_iconst (v := 1) hc dX4_isMissing_8 rfl ?_
    refine r_goto hc 13 dX4_isMissing_9 (by decide) ?_
    exact r_zret (ls0 := []) hZ dX4_isMissing_13 (Or.inr rfl) h
  · have h := kif_f h q
    refine r_iconst (v := 0) hc dX4_isMissing_12 rfl ?_
    exact r_zret (ls0 := []) hZ dX4_isMissing_13 (Or.inl rfl) h
theorem m_X4_isMissing {l : Launch} {g : kG} {N : Nat} {σ : kS} {c : Nat} {Q : Int32 → kS → Prop} (hh : kRow c) (h : w_X4_isMissing N σ c Q) : kMi l g yX4_isMissing cX4_isMissing 1 (some .boolean) 0 [kz g c] σ Q :=
  k_met_z (by decide +kernel) rfl (Nat.le_of_ble_eq_true rfl) (fun X hl hc hZ => s_X4_isMissing hc hZ hh h)
def w_X4_begin (N : Nat) (σ : kS) (c : Nat) (x1 : Int32) (x2 : Int32) (Q : kS → Prop) : Prop :=
  w_J7_fill_53178 N σ (c + 1) 0 (fun (σ_1 : kS) => ∀ σ_3 : kS, σ_3 = st2 σ_1 c 1 x1 → (∀ σ_4 : kS, σ_4 = st2 σ_3 c 2 x2 → (Q σ_4)))
set_option maxHeartbeats 4000000 in
set_option maxRecDepth 100000 in
theorem s_X4_begin {X : kX} {g : kG} {N : Nat} {Q : kS → Prop} {c : Nat} (hc : kOk X g RX4 cX4_begin 3 none 1) (hZ : kRw X g cX4_begin Q) (hh : kRow c) {σ : kS} {x1 : Int32} {x2 : Int32} (h : w_X4_begin N σ c x1 x2 Q) : kP X g 3 0 [(0, kz g c), (1, .int x1), (2, .int x2)] [] σ := by
  unfold w_X4_begin at h
  refine r_aload_n hc 0 dX4_begin_0 rfl ?_
  refine gf_X4_0 hc hh lf_X4_9 dX4_begin_1 ?_
  refine r_iconst (v := 0) hc dX4_begin_4 rfl ?_
  refine r_callSv (d := 0) hc (m_J7_fill_53178 (kia_Row hh) h) cw_J7_fill_53178 wt_J7_fill_53178 lm_X4_17 (by decide) (by decide) rfl rfl (Nat.le_of_ble_eq_true rfl) dX4_begin_5 (fun σ_1 h => ?_)
  refine r_aload_n hc 0 dX4_begin_8 rfl ?_
  refine r_iload_n hc 1 dX4_begin_9 rfl ?_
  refine pf_X4_1 hc hh lf_X4_13 dX4_begin_10 ?_
  refine r_nmS (fun σ_3 eσ_3 => ?_)
  have h := h σ_3 eσ_3
  refine r_aload_n hc 0 dX4_begin_13 rfl ?_
  refine r_iload_n hc 2 dX4_begin_14 rfl ?_
  refine pf_X4_2 hc hh lf_X4_23 dX4_begin_15 ?_
  refine r_nmS (fun σ_4 eσ_4 => ?_)
  have h := h σ_4 eσ_4
  exact r_vret (ls0 := []) hZ dX4_begin_18 h
theorem m_X4_begin {l : Launch} {g : kG} {N : Nat} {σ : kS} {c : Nat} {x1 : Int32} {x2 : Int32} {Q : kS → Prop} (hh : kRow c) (h : w_X4_begin N σ c x1 x2 Q) : kMv l g yX4_begin cX4_begin 3 none 1 [kz g c, .int x1, .int x2] σ Q :=
  k_met_v (by decide +kernel) rfl (Nat.le_of_ble_eq_true rfl) (fun X hl hc hZ => s_X4_begin hc hZ hh h)
def w_X4_lose (N : Nat) (σ : kS) (c : Nat) (Q : kS → Prop) : Prop :=
  ∀ σ_1 : kS, σ_1 = st2 σ c 1 (-1) → (∀ σ_2 : kS, σ_2 = st2 σ_1 c 2 0 → (Q σ_2))
set_option maxHeartbeats 4000000 in
set_option maxRecDepth 100000 in
theorem s_X4_lose {X : kX} {g : kG} {N : Nat} {Q : kS → Prop} {c : Nat} (hc : kOk X g RX4 cX4_lose 1 none 0) (hZ : kRw X g cX4_lose Q) (hh : kRow c) {σ : kS} (h : w_X4_lose N σ c Q) : kP X g 1 0 [(0, kz g c)] [] σ := by
  unfold w_X4_lose at h
  refine r_aload_n hc 0 dX4_lose_0 rfl ?_
  refine r_iconst (v := (-1)) hc dX4_lose_1 rfl ?_
  refine pf_X4_1 hc hh lf_X4_13 dX4_lose_2 ?_
  refine r_nmS (fun σ_1 eσ_1 => ?_)
  have h := h σ_1 eσ_1
  refine r_aload_n hc 0 dX4_lose_5 rfl ?_
  refine r_iconst (v := 0) hc dX4_lose_6 rfl ?_
  refine pf_X4_2 hc hh lf_X4_23 dX4_lose_7 ?_
  refine r_nmS (fun σ_2 eσ_2 => ?_)
  have h := h σ_2 eσ_2
  exact r_vret (ls0 := []) hZ dX4_lose_10 h
theorem m_X4_lose {l : Launch} {g : kG} {N : Nat} {σ : kS} {c : Nat} {Q : kS → Prop} (hh : kRow c) (h : w_X4_lose N σ c Q) : kMv l g yX4_lose cX4_lose 1 none 0 [kz g c] σ Q :=
  k_met_v (by decide +kernel) rfl (Nat.le_of_ble_eq_true rfl) (fun X hl hc hZ => s_X4_lose hc hZ hh h)
def w_X4_hasPlaces (N : Nat) (σ : kS) (c : Nat) (x1 : Int32) (x2 : Int32) (Q : Int32 → kS → Prop) : Prop :=
  if x1 < 0 then (Q 0 σ) else (if x2 < 0 then (Q 0 σ) else (if ((σ c 2) - x2) < x1 then (Q 0 σ) else (Q 1 σ)))
set_option maxHeartbeats 4000000 in
set_option maxRecDepth 100000 in
theorem s_X4_hasPlaces {X : kX} {g : kG} {N : Nat} {Q : Int32 → kS → Prop} {c : Nat} (hc : kOk X g RX4 cX4_hasPlaces 3 (some .boolean) 0) (hZ : kRz X g cX4_hasPlaces Q) (hh : kRow c) {σ : kS} {x1 : Int32} {x2 : Int32} (h : w_X4_hasPlaces N σ c x1 x2 Q) : kP X g 3 0 [(0, kz g c), (1, .int x1), (2, .int x2)] [] σ := by
  unfold w_X4_hasPlaces at h
  refine r_iload_n hc 1 dX4_hasPlaces_0 rfl ?_
  refine r_if_lt hc 22 dX4_hasPlaces_1 (by decide) (fun q => ?_) (fun q => ?_)
  · have h := kif_t h q
    refine r_iconst (v := 0) hc dX4_hasPlaces_22 rfl ?_
    exact r_zret (ls0 := []) hZ dX4_hasPlaces_23 (Or.inl rfl) h
  · have h := kif_f h q
    refine r_iload_n hc 2 dX4_hasPlaces_4 rfl ?_
    refine r_if_lt hc 22 dX4_hasPlaces_5 (by decide) (fun q => ?_) (fun q => ?_)
    · have h := kif_t h q
      refine r_iconst (v := 0) hc dX4_hasPlaces_22 rfl ?_
      exact r_zret (ls0 := []) hZ dX4_hasPlaces_23 (Or.inl rfl) h
    · have h := kif_f h q
      refine r_iload_n hc 1 dX4_hasPlaces_8 rfl ?_
      refine r_aload_n hc 0 dX4_hasPlaces_9 rfl ?_
      refine gf_X4_2 hc hh lf_X4_23 dX4_hasPlaces_10 ?_
      refine r_iload_n hc 2 dX4_hasPlaces_13 rfl ?_
      refine r_isub hc dX4_hasPlaces_14 ?_
      refine r_ic_gt hc 22 dX4_hasPlaces_15 (by decide) (fun q => ?_) (fun q => ?_)
      · have h := kif_t h q
        refine r_iconst (v := 0) hc dX4_hasPlaces_22 rfl ?_
        exact r_zret (ls0 := []) hZ dX4_hasPlaces_23 (Or.inl rfl) h
      · have h := kif_f h q
        refine r_iconst (v := 1) hc dX4_hasPlaces_18 rfl ?_
        refine r_goto hc 23 dX4_hasPlaces_19 (by decide) ?_
        exact r_zret (ls0 := []) hZ dX4_hasPlaces_23 (Or.inr rfl) h
theorem m_X4_hasPlaces {l : Launch} {g : kG} {N : Nat} {σ : kS} {c : Nat} {x1 : Int32} {x2 : Int32} {Q : Int32 → kS → Prop} (hh : kRow c) (h : w_X4_hasPlaces N σ c x1 x2 Q) : kMi l g yX4_hasPlaces cX4_hasPlaces 3 (some .boolean) 0 [kz g c, .int x1, .int x2] σ Q :=
  k_met_z (by decide +kernel) rfl (Nat.le_of_ble_eq_true rfl) (fun X hl hc hZ => s_X4_hasPlaces hc hZ hh h)
def w_X4_lowestBits (N : Nat) (σ : kS) (c : Nat) (x1 : Int32) (Q : Int32 → kS → Prop) : Prop :=
  if (σ c 1) = 0 then (Q (x1.toInt8.toInt32) σ) else (if (σ c 1) = 1 then (Q (x1.toInt16.toInt32) σ) else (Q x1 σ))
set_option maxHeartbeats 4000000 in
set_option maxRecDepth 100000 in
theorem s_X4_lowestBits {X : kX} {g : kG} {N : Nat} {Q : Int32 → kS → Prop} {c : Nat} (hc : kOk X g RX4 cX4_lowestBits 2 (some .int) 0) (hZ : kRi X g cX4_lowestBits Q) (hh : kRow c) {σ : kS} {x1 : Int32} (h : w_X4_lowestBits N σ c x1 Q) : kP X g 2 0 [(0, kz g c), (1, .int x1)] [] σ := by
  unfold w_X4_lowestBits at h
  refine r_aload_n hc 0 dX4_lowestBits_0 rfl ?_
  refine gf_X4_1 hc hh lf_X4_13 dX4_lowestBits_1 ?_
  refine r_if_ne hc 10 dX4_lowestBits_4 (by decide) (fun q => ?_) (fun q => ?_)
  · have h := kif_t h q
    refine r_iload_n hc 1 dX4_lowestBits_7 rfl ?_
    refine r_i2b hc dX4_lowestBits_8 ?_
    exact r_iret (ls0 := []) hZ dX4_lowestBits_9 h
  · have h := kif_f h q
    refine r_aload_n hc 0 dX4_lowestBits_10 rfl ?_
    refine gf_X4_1 hc hh lf_X4_13 dX4_lowestBits_11 ?_
    refine r_iconst (v := 1) hc dX4_lowestBits_14 rfl ?_
    refine r_ic_ne hc 23 dX4_lowestBits_15 (by decide) (fun q => ?_) (fun q => ?_)
    · have h := kif_t h q
      refine r_iload_n hc 1 dX4_lowestBits_18 rfl ?_
      refine r_i2s hc dX4_lowestBits_19 ?_
      refine r_goto hc 24 dX4_lowestBits_20 (by decide) ?_
      exact r_iret (ls0 := []) hZ dX4_lowestBits_24 h
    · have h := kif_f h q
      refine r_iload_n hc 1 dX4_lowestBits_23 rfl ?_
      exact r_iret (ls0 := []) hZ dX4_lowestBits_24 h
theorem m_X4_lowestBits {l : Launch} {g : kG} {N : Nat} {σ : kS} {c : Nat} {x1 : Int32} {Q : Int32 → kS → Prop} (hh : kRow c) (h : w_X4_lowestBits N σ c x1 Q) : kMi l g yX4_lowestBits cX4_lowestBits 2 (some .int) 0 [kz g c, .int x1] σ Q :=
  k_met_i (by decide +kernel) rfl (Nat.le_of_ble_eq_true rfl) (fun X hl hc hZ => s_X4_lowestBits hc hZ hh h)
def w_X4_put (N : Nat) (σ : kS) (c : Nat) (x1 : Int32) (x2 : Int32) (Q : Int32 → kS → Prop) : Prop :=
  w_X4_lowestBits N σ c x2 (fun (r_2 : Int32) (σ_1 : kS) => vp_in x1 40 ∧ (∀ σ_4 : kS, σ_4 = st2 σ_1 (c + 1) (x1.toNatClampNeg) r_2 → (vp_in x1 40 ∧ (Q (σ_4 (c + 1) x1.toNatClampNeg) σ_4))))
set_option maxHeartbeats 4000000 in
set_option maxRecDepth 100000 in
theorem s_X4_put {X : kX} {g : kG} {N : Nat} {Q : Int32 → kS → Prop} {c : Nat} (hc : kOk X g RX4 cX4_put 3 (some .int) 1) (hZ : kRi X g cX4_put Q) (hh : kRow c) {σ : kS} {x1 : Int32} {x2 : Int32} (h : w_X4_put N σ c x1 x2 Q) : kP X g 3 0 [(0, kz g c), (1, .int x1), (2, .int x2)] [] σ := by
  unfold w_X4_put at h
  refine r_aload_n hc 0 dX4_put_0 rfl ?_
  refine gf_X4_0 hc hh lf_X4_9 dX4_put_1 ?_
  refine r_iload_n hc 1 dX4_put_4 rfl ?_
  refine r_aload_n hc 0 dX4_put_5 rfl ?_
  refine r_iload_n hc 2 dX4_put_6 rfl ?_
  refine r_callVi (d := 0) hc (m_X4_lowestBits hh h) cw_X4_lowestBits wi_X4_lowestBits ws_X4_lowestBits lm_X4_26 (by decide) (by decide) (rv_X4 hh) rfl rfl (Nat.le_of_ble_eq_true rfl) dX4_put_7 (fun r_2 σ_1 h => ?_)
  obtain ⟨hi_3, h⟩ := h
  refine r_iast hc (kia_Row hh) hi_3 dX4_put_10 ?_
  refine r_nmS (fun σ_4 eσ_4 => ?_)
  have h := h σ_4 eσ_4
  refine r_aload_n hc 0 dX4_put_11 rfl ?_
  refine gf_X4_0 hc hh lf_X4_9 dX4_put_12 ?_
  refine r_iload_n hc 1 dX4_put_15 rfl ?_
  obtain ⟨hi_5, h⟩ := h
  refine r_iald hc (kia_Row hh) hi_5 dX4_put_16 ?_
  exact r_iret (ls0 := []) hZ dX4_put_17 h
theorem m_X4_put {l : Launch} {g : kG} {N : Nat} {σ : kS} {c : Nat} {x1 : Int32} {x2 : Int32} {Q : Int32 → kS → Prop} (hh : kRow c) (h : w_X4_put N σ c x1 x2 Q) : kMi l g yX4_put cX4_put 3 (some .int) 1 [kz g c, .int x1, .int x2] σ Q :=
  k_met_i (by decide +kernel) rfl (Nat.le_of_ble_eq_true rfl) (fun X hl hc hZ => s_X4_put hc hZ hh h)
