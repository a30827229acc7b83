def w_X7_biasOf (N : Nat) (σ : kS) (x1 : Int32) (Q : Int32 → kS → Prop) : Prop :=
  vp_in (42 + x1) 57 ∧ (vp_in (47 + x1) 57 ∧ (w_X7_biasBy N σ (σ 59 (42 + x1).toNatClampNeg) (σ 59 (47 + x1).toNatClampNeg) (fun (r_4 : Int32) (σ_3 : kS) => Q r_4 σ_3)))
set_option maxHeartbeats 4000000 in
set_option maxRecDepth 100000 in
theorem s_X7_biasOf {X : kX} {g : kG} {N : Nat} {Q : Int32 → kS → Prop} (hc : kOk X g RX7 cX7_biasOf 2 (some .int) 2) (hZ : kRi X g cX7_biasOf Q) {σ : kS} {x1 : Int32} (h : w_X7_biasOf N σ x1 Q) : kP X g 2 0 [(0, kz g 55), (1, .int x1)] [] σ := by
  unfold w_X7_biasOf at h
  refine r_aload_n hc 0 dX7_biasOf_0 rfl ?_
  refine r_aload_n hc 0 dX7_biasOf_1 rfl ?_
  refine gf_X7_5 hc lf_X7_19 dX7_biasOf_2 ?_
  refine r_bipush (v := 42) hc dX7_biasOf_5 rfl ?_
  refine r_iload_n hc 1 dX7_biasOf_7 rfl ?_
  refine r_iadd hc dX7_biasOf_8 ?_
  obtain ⟨hi_1, h⟩ := h
  refine r_iald hc kia_59 hi_1 dX7_biasOf_9 ?_
  refine r_aload_n hc 0 dX7_biasOf_10 rfl ?_
  refine gf_X7_5 hc lf_X7_19 dX7_biasOf_11 ?_
  refine r_bipush (v := 47) hc dX7_biasOf_14 rfl ?_
  refine r_iload_n hc 1 dX7_biasOf_16 rfl ?_
  refine r_iadd hc dX7_biasOf_17 ?_
  obtain ⟨hi_2, h⟩ := h
  refine r_iald hc kia_59 hi_2 dX7_biasOf_18 ?_
  refine r_callVi (d := 1) hc (m_X7_biasBy h) cw_X7_biasBy wi_X7_biasBy ws_X7_biasBy lm_X7_166 (by decide) (by decide) rv_X7 rfl rfl (Nat.le_of_ble_eq_true rfl) dX7_biasOf_19 (fun r_4 σ_3 h => ?_)
  exact r_iret (ls0 := []) hZ dX7_biasOf_22 h
theorem m_X7_biasOf {l : Launch} {g : kG} {N : Nat} {σ : kS} {x1 : Int32} {Q : Int32 → kS → Prop} (h : w_X7_biasOf N σ x1 Q) : kMi l g yX7_biasOf cX7_biasOf 2 (some .int) 2 [kz g 55, .int x1] σ Q :=
  k_met_i (by decide +kernel) rfl (Nat.le_of_ble_eq_true rfl) (fun X hl hc hZ => s_X7_biasOf hc hZ h)
def w_X7_pupil (N : Nat) (σ : kS) (x1 : Int32) (x2 : Int32) (Q : Int32 → kS → Prop) : Prop :=
  w_X7_isPupil N σ x1 (fun (r_2 : Int32) (σ_1 : kS) => if r_2 = 0 then (Q (-1000001) σ_1) else (if x2 = 0 then (vp_in (47 + x1) 57 ∧ (Q (σ_1 59 (47 + x1).toNatClampNeg) σ_1)) else (if x2 = 1 then (vp_in (52 + x1) 57 ∧ (Q (σ_1 59 (52 + x1).toNatClampNeg) σ_1)) else (if x2 = 2 then (w_X7_biasOf N σ_1 x1 (fun (r_8 : Int32) (σ_7 : kS) => Q r_8 σ_7)) else (if x2 = 3 then (w_X7_biasOf N σ_1 x1 (fun (r_11 : Int32) (σ_10 : kS) => vp_in 2 57 ∧ (if r_11 = (σ_10 59 (2 : Int32).toNatClampNeg) then (Q 1 σ_10) else (Q 0 σ_10)))) else (Q (-1000001) σ_1))))))
set_option maxHeartbeats 4000000 in
set_option maxRecDepth 100000 in
theorem s_X7_pupil {X : kX} {g : kG} {N : Nat} {Q : Int32 → kS → Prop} (hc : kOk X g RX7 cX7_pupil 3 (some .int) 3) (hZ : kRi X g cX7_pupil Q) {σ : kS} {x1 : Int32} {x2 : Int32} (h : w_X7_pupil N σ x1 x2 Q) : kP X g 3 0 [(0, kz g 55), (1, .int x1), (2, .int x2)] [] σ := by
  unfold w_X7_pupil at h
  refine r_aload_n hc 0 dX7_pupil_0 rfl ?_
  refine r_iload_n hc 1 dX7_pupil_1 rfl ?_
  refine r_callVi (d := 1) hc (m_X7_isPupil h) cw_X7_isPupil wi_X7_isPupil ws_X7_isPupil lm_X7_159 (by decide) (by decide) rv_X7 rfl rfl (Nat.le_of_ble_eq_true rfl) dX7_pupil_2 (fun r_2 σ_1 h => ?_)
  refine r_if_ne hc 11 dX7_pupil_5 (by decide) (fun q => ?_) (fun q => ?_)
  · have h := kif_t h q
    refine r_ldc hc lk_X7_67 dX7_pupil_8 ?_
    exact r_iret (ls0 := []) hZ dX7_pupil_10 h
  · have h := kif_f h q
    refine r_iload_n hc 2 dX7_pupil_11 rfl ?_
    by_cases q_4 : x2 = 0
    · have h := kif_t h q_4
      refine r_tabIn hc 44 dX7_pupil_12 (by rw [q_4]; decide) (by rw [q_4]; decide) (by rw [q_4] <;> rfl) (by decide) ?_
      refine r_aload_n hc 0 dX7_pupil_44 rfl ?_
      refine gf_X7_5 hc lf_X7_19 dX7_pupil_45 ?_
      refine r_bipush (v := 47) hc dX7_pupil_48 rfl ?_
      refine r_iload_n hc 1 dX7_pupil_50 rfl ?_
      refine r_iadd hc dX7_pupil_51 ?_
      obtain ⟨hi_3, h⟩ := h
      refine r_iald hc kia_59 hi_3 dX7_pupil_52 ?_
      exact r_iret (ls0 := []) hZ dX7_pupil_53 h
    have h := kif_f h q_4
    have zq_4 : x2.toInt ≠ 0 := ktne q_4
    by_cases q_6 : x2 = 1
    · have h := kif_t h q_6
      refine r_tabIn hc 54 dX7_pupil_12 (by rw [q_6]; decide) (by rw [q_6]; decide) (by rw [q_6] <;> rfl) (by decide) ?_
      refine r_aload_n hc 0 dX7_pupil_54 rfl ?_
      refine gf_X7_5 hc lf_X7_19 dX7_pupil_55 ?_
      refine r_bipush (v := 52) hc dX7_pupil_58 rfl ?_
      refine r_iload_n hc 1 dX7_pupil_60 rfl ?_
      refine r_iadd hc dX7_pupil_61 ?_
      obtain ⟨hi_5, h⟩ := h
      refine r_iald hc kia_59 hi_5 dX7_pupil_62 ?_
      exact r_iret (ls0 := []) hZ dX7_pupil_63 h
    have h := kif_f h q_6
    have zq_6 : x2.toInt ≠ 1 := ktne q_6
    by_cases q_9 : x2 = 2
    · have h := kif_t h q_9
      refine r_tabIn hc 64 dX7_pupil_12 (by rw [q_9]; decide) (by rw [q_9]; decide) (by rw [q_9] <;> rfl) (by decide) ?_
      refine r_aload_n hc 0 dX7_pupil_64 rfl ?_
      refine r_iload_n hc 1 dX7_pupil_65 rfl ?_
      refine r_callVi (d := 2) hc (m_X7_biasOf h) cw_X7_biasOf wi_X7_biasOf ws_X7_biasOf lm_X7_169 (by decide) (by decide) rv_X7 rfl rfl (Nat.le_of_ble_eq_true rfl) dX7_pupil_66 (fun r_8 σ_7 h => ?_)
      exact r_iret (ls0 := []) hZ dX7_pupil_69 h
    have h := kif_f h q_9
    have zq_9 : x2.toInt ≠ 2 := ktne q_9
    by_cases q_13 : x2 = 3
    · have h := kif_t h q_13
      refine r_tabIn hc 70 dX7_pupil_12 (by rw [q_13]; decide) (by rw [q_13]; decide) (by rw [q_13] <;> rfl) (by decide) ?_
      refine r_aload_n hc 0 dX7_pupil_70 rfl ?_
      refine r_iload_n hc 1 dX7_pupil_71 rfl ?_
      refine r_callVi (d := 2) hc (m_X7_biasOf h) cw_X7_biasOf wi_X7_biasOf ws_X7_biasOf lm_X7_169 (by decide) (by decide) rv_X7 rfl rfl (Nat.le_of_ble_eq_true rfl) dX7_pupil_72 (fun r_11 σ_10 h => ?_)
      refine r_aload_n hc 0 dX7_pupil_75 rfl ?_
      refine gf_X7_5 hc lf_X7_19 dX7_pupil_76 ?_
      refine r_iconst (v := 2) hc dX7_pupil_79 rfl ?_
      obtain ⟨hi_12, h⟩ := h
      refine r_iald hc kia_59 hi_12 dX7_pupil_80 ?_
      refine r_ic_ne hc 88 dX7_pupil_81 (by decide) (fun q => ?_) (fun q => ?_)
      · have h := kif_t h q
        refine r_iconst (v := 1) hc dX7_pupil_84 rfl ?_
        refine r_goto hc 89 dX7_pupil_85 (by decide) ?_
        exact r_iret (ls0 := []) hZ dX7_pupil_89 h
      · have h := kif_f h q
        refine r_iconst (v := 0) hc dX7_pupil_88 rfl ?_
        exact r_iret (ls0 := []) hZ dX7_pupil_89 h
    have h := kif_f h q_13
    have zq_13 : x2.toInt ≠ 3 := ktne q_13
    refine r_tabOut hc 90 dX7_pupil_12 (by omega) (by decide) ?_
    refine r_ldc hc lk_X7_67 dX7_pupil_90 ?_
    exact r_iret (ls0 := []) hZ dX7_pupil_92 h
theorem m_X7_pupil {l : Launch} {g : kG} {N : Nat} {σ : kS} {x1 : Int32} {x2 : Int32} {Q : Int32 → kS → Prop} (h : w_X7_pupil N σ x1 x2 Q) : kMi l g yX7_pupil cX7_pupil 3 (some .int) 3 [kz g 55, .int x1, .int x2] σ Q :=
  k_met_i (by decide +kernel) rfl (Nat.le_of_ble_eq_true rfl) (fun X hl hc hZ => s_X7_pupil hc hZ h)
def j_X7_reaches_71 (N : Nat) (Q : Int32 → kS → Prop) (x1 : Int32) (x2 : Int32) (x3 : Int32) (x4 : Int32) (s0 : Int32) (K : Int32 → kS → Prop) (σ : kS) : Prop :=
  ∀ σ_9 : kS, σ_9 = st2 σ 55 18 s0 → (if x4 ≤ (σ_9 55 19) then (∀ σ_10 : kS, σ_10 = st2 σ_9 55 19 (σ_9 55 19) → (∀ x3_11 : Int32, x3_11 = x3 + 1 → (K x3_11 σ_10))) else (∀ σ_12 : kS, σ_12 = st2 σ_9 55 19 x4 → (∀ x3_13 : Int32, x3_13 = x3 + 1 → (K x3_13 σ_12))))
set_option maxHeartbeats 4000000 in
set_option maxRecDepth 100000 in
theorem sj_X7_reaches_71 {X : kX} {g : kG} {N : Nat} {Q : Int32 → kS → Prop} (hc : kOk X g RX7 cX7_reaches 5 (some .boolean) 3) (hZ : kRz X g cX7_reaches Q) {x1 : Int32} {x2 : Int32} {x3 : Int32} {x4 : Int32} {s0 : Int32} {K : Int32 → kS → Prop} (hK : ∀ (x3 : Int32) (τ : kS), K x3 τ → kP X g 5 13 [(0, kz g 55), (1, .int x1), (2, .int x2), (3, .int x3)] [] τ) {σ : kS} (h : j_X7_reaches_71 N Q x1 x2 x3 x4 s0 K σ) : kP X g 5 71 [(0, kz g 55), (1, .int x1), (2, .int x2), (3, .int x3), (4, .int x4)] [.int s0, kz g 55] σ := by
  unfold j_X7_reaches_71 at h
  refine pf_X7_18 hc lf_X7_172 dX7_reaches_71 ?_
  refine r_nmS (fun σ_9 eσ_9 => ?_)
  have h := h σ_9 eσ_9
  refine r_aload_n hc 0 dX7_reaches_74 rfl ?_
  refine r_iload hc 4 dX7_reaches_75 rfl ?_
  refine r_aload_n hc 0 dX7_reaches_77 rfl ?_
  refine gf_X7_19 hc lf_X7_175 dX7_reaches_78 ?_
  refine r_ic_le hc 89 dX7_reaches_81 (by decide) (fun q => ?_) (fun q => ?_)
  · have h := kif_t h q
    refine r_aload_n hc 0 dX7_reaches_89 rfl ?_
    refine gf_X7_19 hc lf_X7_175 dX7_reaches_90 ?_
    refine pf_X7_19 hc lf_X7_175 dX7_reaches_93 ?_
    refine r_nmS (fun σ_10 eσ_10 => ?_)
    have h := h σ_10 eσ_10
    obtain ⟨x3_11, ex3_11⟩ : ∃ v : Int32, v = x3 + 1 := ⟨_, rfl⟩
    have h := h x3_11 ex3_11
    refine r_iinc (v := x3_11) hc 3 [(3, .int x3_11), (0, kz g 55), (1, .int x1), (2, .int x2), (4, .int x4)] dX7_reaches_96 rfl (by rw [ex3_11]; rfl) (by decide) rfl ?_
    refine r_goto hc 13 dX7_reaches_99 (by decide) ?_
    refine r_sub [1, 2, 3, 0] rfl ?_
    exact hK _ _ h
  · have h := kif_f h q
    refine r_iload hc 4 dX7_reaches_84 rfl ?_
    refine r_goto hc 93 dX7_reaches_86 (by decide) ?_
    refine pf_X7_19 hc lf_X7_175 dX7_reaches_93 ?_
    refine r_nmS (fun σ_12 eσ_12 => ?_)
    have h := h σ_12 eσ_12
    obtain ⟨x3_13, ex3_13⟩ : ∃ v : Int32, v = x3 + 1 := ⟨_, rfl⟩
    have h := h x3_13 ex3_13
    refine r_iinc (v := x3_13) hc 3 [(3, .int x3_13), (0, kz g 55), (1, .int x1), (2, .int x2), (4, .int x4)] dX7_reaches_96 rfl (by rw [ex3_13]; rfl) (by decide) rfl ?_
    refine r_goto hc 13 dX7_reaches_99 (by decide) ?_
    refine r_sub [1, 2, 3, 0] rfl ?_
    exact hK _ _ h
def b_X7_reaches_13 (N : Nat) (Q : Int32 → kS → Prop) (x1 : Int32) (x2 : Int32) (E102 : kS → Prop) (K : Int32 → kS → Prop) (x3 : Int32) (σ : kS) : Prop :=
  vp_in (6 + x2) 57 ∧ (if (σ 59 (6 + x2).toNatClampNeg) ≤ x3 then (E102 σ) else (vp_in ((10 + (8 * x2)) + x3) 57 ∧ (w_X7_biasOf N σ x1 (fun (r_6 : Int32) (σ_5 : kS) => w_X7_over N σ_5 ((σ 59 ((10 + (8 * x2)) + x3).toNatClampNeg) - r_6) (fun (r_8 : Int32) (σ_7 : kS) => if (σ_7 55 18) ≤ r_8 then (j_X7_reaches_71 N Q x1 x2 x3 r_8 (σ_7 55 18) K σ_7) else (j_X7_reaches_71 N Q x1 x2 x3 r_8 r_8 K σ_7))))))
def l_X7_reaches_13 (N : Nat) (Q : Int32 → kS → Prop) (x1 : Int32) (x2 : Int32) (E102 : kS → Prop) : Nat → Int32 → kS → Prop
  | 0 => fun _ _ => False
  | n + 1 => b_X7_reaches_13 N Q x1 x2 E102 (l_X7_reaches_13 N Q x1 x2 E102 n)
set_option maxHeartbeats 4000000 in
set_option maxRecDepth 100000 in
theorem sb_X7_reaches_13 {X : kX} {g : kG} {N : Nat} {Q : Int32 → kS → Prop} (hc : kOk X g RX7 cX7_reaches 5 (some .boolean) 3) (hZ : kRz X g cX7_reaches Q) {x1 : Int32} {x2 : Int32} {E102 : kS → Prop} (hE102 : ∀ (τ : kS), E102 τ → kP X g 5 102 [(0, kz g 55), (1, .int x1)] [] τ) {K : Int32 → kS → Prop} (hK : ∀ (x3 : Int32) (τ : kS), K x3 τ → kP X g 5 13 [(0, kz g 55), (1, .int x1), (2, .int x2), (3, .int x3)] [] τ) {x3 : Int32} {σ : kS} (h : b_X7_reaches_13 N Q x1 x2 E102 K x3 σ) : kP X g 5 13 [(0, kz g 55), (1, .int x1), (2, .int x2), (3, .int x3)] [] σ := by
  unfold b_X7_reaches_13 at h
  refine r_iload_n hc 3 dX7_reaches_13 rfl ?_
  refine r_aload_n hc 0 dX7_reaches_14 rfl ?_
  refine gf_X7_5 hc lf_X7_19 dX7_reaches_15 ?_
  refine r_bipush (v := 6) hc dX7_reaches_18 rfl ?_
  refine r_iload_n hc 2 dX7_reaches_20 rfl ?_
  refine r_iadd hc dX7_reaches_21 ?_
  obtain ⟨hi_3, h⟩ := h
  refine r_iald hc kia_59 hi_3 dX7_reaches_22 ?_
  refine r_ic_ge hc 102 dX7_reaches_23 (by decide) (fun q => ?_) (fun q => ?_)
  · have h := kif_t h q
    refine r_sub [0, 1] rfl ?_
    exact hE102 _ h
  · have h := kif_f h q
    refine r_aload_n hc 0 dX7_reaches_26 rfl ?_
    refine r_aload_n hc 0 dX7_reaches_27 rfl ?_
    refine gf_X7_5 hc lf_X7_19 dX7_reaches_28 ?_
    refine r_bipush (v := 10) hc dX7_reaches_31 rfl ?_
    refine r_bipush (v := 8) hc dX7_reaches_33 rfl ?_
    refine r_iload_n hc 2 dX7_reaches_35 rfl ?_
    refine r_imul hc dX7_reaches_36 ?_
    refine r_iadd hc dX7_reaches_37 ?_
    refine r_iload_n hc 3 dX7_reaches_38 rfl ?_
    refine r_iadd hc dX7_reaches_39 ?_
    obtain ⟨hi_4, h⟩ := h
    refine r_iald hc kia_59 hi_4 dX7_reaches_40 ?_
    refine r_aload_n hc 0 dX7_reaches_41 rfl ?_
    refine r_iload_n hc 1 dX7_reaches_42 rfl ?_
    refine r_callVi (d := 2) hc (m_X7_biasOf h) cw_X7_biasOf wi_X7_biasOf ws_X7_biasOf lm_X7_169 (by decide) (by decide) rv_X7 rfl rfl (Nat.le_of_ble_eq_true rfl) dX7_reaches_43 (fun r_6 σ_5 h => ?_)
    refine r_isub hc dX7_reaches_46 ?_
    refine r_callVi (d := 0) hc (m_X7_over h) cw_X7_over wi_X7_over ws_X7_over lm_X7_146 (by decide) (by decide) rv_X7 rfl rfl (Nat.le_of_ble_eq_true rfl) dX7_reaches_47 (fun r_8 σ_7 h => ?_)
    refine r_istore hc [(4, .int r_8), (0, kz g 55), (1, .int x1), (2, .int x2), (3, .int x3)] dX7_reaches_50 (by decide) rfl ?_
    refine r_aload_n hc 1 dX7_reaches_52 rfl ?_
    refine r_iload hc 0 dX7_reaches_53 rfl ?_
    refine r_aload_n hc 1 dX7_reaches_55 rfl ?_
    refine gf_X7_18 hc lf_X7_172 dX7_reaches_56 ?_
    refine r_ic_ge hc 67 dX7_reaches_59 (by decide) (fun q => ?_) (fun q => ?_)
    · have h := kif_t h q
      refine r_aload_n hc 1 dX7_reaches_67 rfl ?_
      refine gf_X7_18 hc lf_X7_172 dX7_reaches_68 ?_
      refine r_sub [1, 2, 3, 4, 0] rfl ?_
      exact sj_X7_reaches_71 hc hZ hK h
    · have h := kif_f h q
      refine r_iload hc 0 dX7_reaches_62 rfl ?_
      refine r_goto hc 71 dX7_reaches_64 (by decide) ?_
      refine r_sub [1, 2, 3, 4, 0] rfl ?_
      exact sj_X7_reaches_71 hc hZ hK h
theorem sl_X7_reaches_13 {X : kX} {g : kG} {N : Nat} {Q : Int32 → kS → Prop} (hc : kOk X g RX7 cX7_reaches 5 (some .boolean) 3) (hZ : kRz X g cX7_reaches Q) {x1 : Int32} {x2 : Int32} {E102 : kS → Prop} (hE102 : ∀ (τ : kS), E102 τ → kP X g 5 102 [(0, kz g 55), (1, .int x1)] [] τ) : ∀ (n : Nat) (x3 : Int32) (σ : kS), l_X7_reaches_13 N Q x1 x2 E102 n x3 σ → kP X g 5 13 [(0, kz g 55), (1, .int x1), (2, .int x2), (3, .int x3)] [] σ := by
  intro n
  induction n with
  | zero => intro x3 σ h; exact h.elim
  | succ n ih => intro x3 σ h; exact sb_X7_reaches_13 hc hZ hE102 ih h
def w_X7_reaches (N : Nat) (σ : kS) (x1 : Int32) (x2 : Int32) (Q : Int32 → kS → Prop) : Prop :=
  ∀ σ_1 : kS, σ_1 = st2 σ 55 18 12 → (∀ σ_2 : kS, σ_2 = st2 σ_1 55 19 (-1) → (l_X7_reaches_13 N Q x1 x2 (fun (σ_14 : kS) => vp_in (52 + x1) 57 ∧ (if (σ_14 59 (52 + x1).toNatClampNeg) ≤ ((σ_14 55 19) - (σ_14 55 18)) then (Q 0 σ_14) else (Q 1 σ_14))) N 0 σ_2))
set_option maxHeartbeats 4000000 in
set_option maxRecDepth 100000 in
theorem s_X7_reaches {X : kX} {g : kG} {N : Nat} {Q : Int32 → kS → Prop} (hc : kOk X g RX7 cX7_reaches 5 (some .boolean) 3) (hZ : kRz X g cX7_reaches Q) {σ : kS} {x1 : Int32} {x2 : Int32} (h : w_X7_reaches N σ x1 x2 Q) : kP X g 5 0 [(0, kz g 55), (1, .int x1), (2, .int x2)] [] σ := by
  unfold w_X7_reaches at h
  refine r_aload_n hc 0 dX7_reaches_0 rfl ?_
  refine r_bipush (v := 12) hc dX7_reaches_1 rfl ?_
  refine pf_X7_18 hc lf_X7_172 dX7_reaches_3 ?_
  refine r_nmS (fun σ_1 eσ_1 => ?_)
  have h := h σ_1 eσ_1
  refine r_aload_n hc 0 dX7_reaches_6 rfl ?_
  refine r_iconst (v := (-1)) hc dX7_reaches_7 rfl ?_
  refine pf_X7_19 hc lf_X7_175 dX7_reaches_8 ?_
  refine r_nmS (fun σ_2 eσ_2 => ?_)
  have h := h σ_2 eσ_2
  refine r_iconst (v := 0) hc dX7_reaches_11 rfl ?_
  refine r_istore_n hc [(3, .int 0), (0, kz g 55), (1, .int x1), (2, .int x2)] dX7_reaches_12 (by decide) rfl ?_
  refine r_sub [1, 2, 3, 0] rfl ?_
  refine sl_X7_reaches_13 hc hZ (fun σ_14 h => ?_) _ _ _ h
  refine r_aload_n hc 0 dX7_reaches_102 rfl ?_
  refine gf_X7_19 hc lf_X7_175 dX7_reaches_103 ?_
  refine r_aload_n hc 0 dX7_reaches_106 rfl ?_
  refine gf_X7_18 hc lf_X7_172 dX7_reaches_107 ?_
  refine r_isub hc dX7_reaches_110 ?_
  refine r_aload_n hc 0 dX7_reaches_111 rfl ?_
  refine gf_X7_5 hc lf_X7_19 dX7_reaches_112 ?_
  refine r_bipush (v := 52) hc dX7_reaches_115 rfl ?_
  refine r_iload_n hc 1 dX7_reaches_117 rfl ?_
  refine r_iadd hc dX7_reaches_118 ?_
  obtain ⟨hi_15, h⟩ := h
  refine r_iald hc kia_59 hi_15 dX7_reaches_119 ?_
  refine r_ic_ge hc 127 dX7_reaches_120 (by decide) (fun q => ?_) (fun q => ?_)
  · have h := kif_t h q
    refine r_iconst (v := 0) hc dX7_reaches_127 rfl ?_
    exact r_zret (ls0 := []) hZ dX7_reaches_128 (Or.inl rfl) h
  · have h := kif_f h q
    refine r_iconst (v := 1) hc dX7_reaches_123 rfl ?_
    refine r_goto hc 128 dX7_reaches_124 (by decide) ?_
    exact r_zret (ls0 := []) hZ dX7_reaches_128 (Or.inr rfl) h
theorem m_X7_reaches {l : Launch} {g : kG} {N : Nat} {σ : kS} {x1 : Int32} {x2 : Int32} {Q : Int32 → kS → Prop} (h : w_X7_reaches N σ x1 x2 Q) : kMi l g yX7_reaches cX7_reaches 5 (some .boolean) 3 [kz g 55, .int x1, .int x2] σ Q :=
  k_met_z (by decide +kernel) rfl (Nat.le_of_ble_eq_true rfl) (fun X hl hc hZ => s_X7_reaches hc hZ h)
def w_X7_plays (N : Nat) (σ : kS) (x1 : Int32) (x2 : Int32) (x3 : Int32) (Q : Int32 → kS → Prop) : Prop :=
  w_X7_isPupil N σ x1 (fun (r_2 : Int32) (σ_1 : kS) => if r_2 = 0 then (Q (-1000001) σ_1) else (w_X7_isPiece N σ_1 x2 (fun (r_4 : Int32) (σ_3 : kS) => if r_4 = 0 then (Q (-1000001) σ_3) else (w_X7_in N σ_3 (x3.toInt64) 0 2 (fun (r_6 : Int32) (σ_5 : kS) => if r_6 = 0 then (Q (-1000001) σ_5) else (w_X7_reaches N σ_5 x1 x2 (fun (r_8 : Int32) (σ_7 : kS) => if x3 = 0 then (if r_8 = 0 then (Q 0 σ_7) else (Q 1 σ_7)) else (if x3 = 1 then (Q (σ_7 55 18) σ_7) else (Q (σ_7 55 19) σ_7)))))))))
set_option maxHeartbeats 4000000 in
set_option maxRecDepth 100000 in
theorem s_X7_plays {X : kX} {g : kG} {N : Nat} {Q : Int32 → kS → Prop} (hc : kOk X g RX7 cX7_plays 5 (some .int) 4) (hZ : kRi X g cX7_plays Q) {σ : kS} {x1 : Int32} {x2 : Int32} {x3 : Int32} (h : w_X7_plays N σ x1 x2 x3 Q) : kP X g 5 0 [(0, kz g 55), (1, .int x1), (2, .int x2), (3, .int x3)] [] σ := by
  unfold w_X7_plays at h
  refine r_aload_n hc 0 dX7_plays_0 rfl ?_
  refine r_iload_n hc 1 dX7_plays_1 rfl ?_
  refine r_callVi (d := 1) hc (m_X7_isPupil h) cw_X7_isPupil wi_X7_isPupil ws_X7_isPupil lm_X7_159 (by decide) (by decide) rv_X7 rfl rfl (Nat.le_of_ble_eq_true rfl) dX7_plays_2 (fun r_2 σ_1 h => ?_)
  refine r_if_eq hc 28 dX7_plays_5 (by decide) (fun q => ?_) (fun q => ?_)
  · have h := kif_t h q
    refine r_ldc hc lk_X7_67 dX7_plays_28 ?_
    exact r_iret (ls0 := []) hZ dX7_plays_30 h
  · have h := kif_f h q
    refine r_aload_n hc 0 dX7_plays_8 rfl ?_
    refine r_iload_n hc 2 dX7_plays_9 rfl ?_
    refine r_callVi (d := 1) hc (m_X7_isPiece h) cw_X7_isPiece wi_X7_isPiece ws_X7_isPiece lm_X7_162 (by decide) (by decide) rv_X7 rfl rfl (Nat.le_of_ble_eq_true rfl) dX7_plays_10 (fun r_4 σ_3 h => ?_)
    refine r_if_eq hc 28 dX7_plays_13 (by decide) (fun q => ?_) (fun q => ?_)
    · have h := kif_t h q
      refine r_ldc hc lk_X7_67 dX7_plays_28 ?_
      exact r_iret (ls0 := []) hZ dX7_plays_30 h
    · have h := kif_f h q
      refine r_iload_n hc 3 dX7_plays_16 rfl ?_
      refine r_i2l hc dX7_plays_17 ?_
      refine r_lconst (v := 0) hc dX7_plays_18 rfl ?_
      refine r_ldc2_w hc lK_X7_65 dX7_plays_19 ?_
      refine r_callSi (d := 0) hc (m_X7_in h) cw_X7_in wt_X7_in lm_X7_57 (by decide) (by decide) rfl rfl (Nat.le_of_ble_eq_true rfl) dX7_plays_22 (fun r_6 σ_5 h => ?_)
      refine r_if_ne hc 31 dX7_plays_25 (by decide) (fun q => ?_) (fun q => ?_)
      · have h := kif_t h q
        refine r_ldc hc lk_X7_67 dX7_plays_28 ?_
        exact r_iret (ls0 := []) hZ dX7_plays_30 h
      · have h := kif_f h q
        refine r_aload_n hc 0 dX7_plays_31 rfl ?_
        refine r_iload_n hc 1 dX7_plays_32 rfl ?_
        refine r_iload_n hc 2 dX7_plays_33 rfl ?_
        refine r_callVi (d := 3) hc (m_X7_reaches h) cw_X7_reaches wi_X7_reaches ws_X7_reaches lm_X7_178 (by decide) (by decide) rv_X7 rfl rfl (Nat.le_of_ble_eq_true rfl) dX7_plays_34 (fun r_8 σ_7 h => ?_)
        refine r_istore hc [(4, .int r_8), (0, kz g 55), (1, .int x1), (2, .int x2), (3, .int x3)] dX7_plays_37 (by decide) rfl ?_
        refine r_iload_n hc 4 dX7_plays_39 rfl ?_
        refine r_if_ne hc 56 dX7_plays_40 (by decide) (fun q => ?_) (fun q => ?_)
        · have h := kif_t h q
          refine r_iload hc 0 dX7_plays_43 rfl ?_
          refine r_if_eq hc 52 dX7_plays_45 (by decide) (fun q => ?_) (fun q => ?_)
          · have h := kif_t h q
            refine r_iconst (v := 0) hc dX7_plays_52 rfl ?_
            refine r_goto hc 72 dX7_plays_53 (by decide) ?_
            exact r_iret (ls0 := []) hZ dX7_plays_72 h
          · have h := kif_f h q
            refine r_iconst (v := 1) hc dX7_plays_48 rfl ?_
            refine r_goto hc 72 dX7_plays_49 (by decide) ?_
            exact r_iret (ls0 := []) hZ dX7_plays_72 h
        · have h := kif_f h q
          refine r_iload_n hc 4 dX7_plays_56 rfl ?_
          refine r_iconst (v := 1) hc dX7_plays_57 rfl ?_
          refine r_ic_ne hc 68 dX7_plays_58 (by decide) (fun q => ?_) (fun q => ?_)
          · have h := kif_t h q
            refine r_aload_n hc 1 dX7_plays_61 rfl ?_
            refine gf_X7_18 hc lf_X7_172 dX7_plays_62 ?_
            refine r_goto hc 72 dX7_plays_65 (by decide) ?_
            exact r_iret (ls0 := []) hZ dX7_plays_72 h
          · have h := kif_f h q
            refine r_aload_n hc 1 dX7_plays_68 rfl ?_
            refine gf_X7_19 hc lf_X7_175 dX7_plays_69 ?_
            exact r_iret (ls0 := []) hZ dX7_plays_72 h
theorem m_X7_plays {l : Launch} {g : kG} {N : Nat} {σ : kS} {x1 : Int32} {x2 : Int32} {x3 : Int32} {Q : Int32 → kS → Prop} (h : w_X7_plays N σ x1 x2 x3 Q) : kMi l g yX7_plays cX7_plays 5 (some .int) 4 [kz g 55, .int x1, .int x2, .int x3] σ Q :=
  k_met_i (by decide +kernel) rfl (Nat.le_of_ble_eq_true rfl) (fun X hl hc hZ => s_X7_plays hc hZ h)
def w_X7_heardBy (N : Nat) (σ : kS) (x1 : Int32) (x2 : Int32) (x3 : Int32) (Q : Int32 → kS → Prop) : Prop :=
  vp_in ((10 + (8 * x2)) + x3) 57 ∧ (vp_in 2 57 ∧ (w_X7_over N σ (((σ 59 ((10 + (8 * x2)) + x3).toNatClampNeg) - x1) + (σ 59 (2 : Int32).toNatClampNeg)) (fun (r_4 : Int32) (σ_3 : kS) => Q r_4 σ_3)))
set_option maxHeartbeats 4000000 in
set_option maxRecDepth 100000 in
theorem s_X7_heardBy {X : kX} {g : kG} {N : Nat} {Q : Int32 → kS → Prop} (hc : kOk X g RX7 cX7_heardBy 4 (some .int) 1) (hZ : kRi X g cX7_heardBy Q) {σ : kS} {x1 : Int32} {x2 : Int32} {x3 : Int32} (h : w_X7_heardBy N σ x1 x2 x3 Q) : kP X g 4 0 [(0, kz g 55), (1, .int x1), (2, .int x2), (3, .int x3)] [] σ := by
  unfold w_X7_heardBy at h
  refine r_aload_n hc 0 dX7_heardBy_0 rfl ?_
  refine r_aload_n hc 0 dX7_heardBy_1 rfl ?_
  refine gf_X7_5 hc lf_X7_19 dX7_heardBy_2 ?_
  refine r_bipush (v := 10) hc dX7_heardBy_5 rfl ?_
  refine r_bipush (v := 8) hc dX7_heardBy_7 rfl ?_
  refine r_iload_n hc 2 dX7_heardBy_9 rfl ?_
  refine r_imul hc dX7_heardBy_10 ?_
  refine r_iadd hc dX7_heardBy_11 ?_
  refine r_iload_n hc 3 dX7_heardBy_12 rfl ?_
  refine r_iadd hc dX7_heardBy_13 ?_
  obtain ⟨hi_1, h⟩ := h
  refine r_iald hc kia_59 hi_1 dX7_heardBy_14 ?_
  refine r_iload_n hc 1 dX7_heardBy_15 rfl ?_
  refine r_isub hc dX7_heardBy_16 ?_
  refine r_aload_n hc 0 dX7_heardBy_17 rfl ?_
  refine gf_X7_5 hc lf_X7_19 dX7_heardBy_18 ?_
  refine r_iconst (v := 2) hc dX7_heardBy_21 rfl ?_
  obtain ⟨hi_2, h⟩ := h
  refine r_iald hc kia_59 hi_2 dX7_heardBy_22 ?_
  refine r_iadd hc dX7_heardBy_23 ?_
  refine r_callVi (d := 0) hc (m_X7_over h) cw_X7_over wi_X7_over ws_X7_over lm_X7_146 (by decide) (by decide) rv_X7 rfl rfl (Nat.le_of_ble_eq_true rfl) dX7_heardBy_24 (fun r_4 σ_3 h => ?_)
  exact r_iret (ls0 := []) hZ dX7_heardBy_27 h
theorem m_X7_heardBy {l : Launch} {g : kG} {N : Nat} {σ : kS} {x1 : Int32} {x2 : Int32} {x3 : Int32} {Q : Int32 → kS → Prop} (h : w_X7_heardBy N σ x1 x2 x3 Q) : kMi l g yX7_heardBy cX7_heardBy 4 (some .int) 1 [kz g 55, .int x1, .int x2, .int x3] σ Q :=
  k_met_i (by decide +kernel) rfl (Nat.le_of_ble_eq_true rfl) (fun X hl hc hZ => s_X7_heardBy hc hZ h)
def w_X7_heard (N : Nat) (σ : kS) (x1 : Int32) (x2 : Int32) (x3 : Int32) (Q : Int32 → kS → Prop) : Prop :=
  w_X7_isPupil N σ x1 (fun (r_2 : Int32) (σ_1 : kS) => if r_2 = 0 then (Q (-1000001) σ_1) else (w_X7_isPiece N σ_1 x2 (fun (r_4 : Int32) (σ_3 : kS) => if r_4 = 0 then (Q (-1000001) σ_3) else (vp_in (6 + x2) 57 ∧ (w_X7_in N σ_3 (x3.toInt64) 0 (((σ_3 59 (6 + x2).toNatClampNeg) - 1).toInt64) (fun (r_7 : Int32) (σ_6 : kS) => if r_7 = 0 then (Q (-1000001) σ_6) else (w_X7_biasOf N σ_6 x1 (fun (r_9 : Int32) (σ_8 : kS) => w_X7_heardBy N σ_8 r_9 x2 x3 (fun (r_11 : Int32) (σ_10 : kS) => Q r_11 σ_10)))))))))
set_option maxHeartbeats 4000000 in
set_option maxRecDepth 100000 in
theorem s_X7_heard {X : kX} {g : kG} {N : Nat} {Q : Int32 → kS → Prop} (hc : kOk X g RX7 cX7_heard 4 (some .int) 3) (hZ : kRi X g cX7_heard Q) {σ : kS} {x1 : Int32} {x2 : Int32} {x3 : Int32} (h : w_X7_heard N σ x1 x2 x3 Q) : kP X g 4 0 [(0, kz g 55), (1, .int x1), (2, .int x2), (3, .int x3)] [] σ := by
  unfold w_X7_heard at h
  refine r_aload_n hc 0 dX7_heard_0 rfl ?_
  refine r_iload_n hc 1 dX7_heard_1 rfl ?_
  refine r_callVi (d := 1) hc (m_X7_isPupil h) cw_X7_isPupil wi_X7_isPupil ws_X7_isPupil lm_X7_159 (by decide) (by decide) rv_X7 rfl rfl (Nat.le_of_ble_eq_true rfl) dX7_heard_2 (fun r_2 σ_1 h => ?_)
  refine r_if_eq hc 37 dX7_heard_5 (by decide) (fun q => ?_) (fun q => ?_)
  · have h := kif_t h q
    refine r_ldc hc lk_X7_67 dX7_heard_37 ?_
    exact r_iret (ls0 := []) hZ dX7_heard_39 h
  · have h := kif_f h q
    refine r_aload_n hc 0 dX7_heard_8 rfl ?_
    refine r_iload_n hc 2 dX7_heard_9 rfl ?_
    refine r_callVi (d := 1) hc (m_X7_isPiece h) cw_X7_isPiece wi_X7_isPiece ws_X7_isPiece lm_X7_162 (by decide) (by decide) rv_X7 rfl rfl (Nat.le_of_ble_eq_true rfl) dX7_heard_10 (fun r_4 σ_3 h => ?_)
    refine r_if_eq hc 37 dX7_heard_13 (by decide) (fun q => ?_) (fun q => ?_)
    · have h := kif_t h q
      refine r_ldc hc lk_X7_67 dX7_heard_37 ?_
      exact r_iret (ls0 := []) hZ dX7_heard_39 h
    · have h := kif_f h q
      refine r_iload_n hc 3 dX7_heard_16 rfl ?_
      refine r_i2l hc dX7_heard_17 ?_
      refine r_lconst (v := 0) hc dX7_heard_18 rfl ?_
      refine r_aload_n hc 0 dX7_heard_19 rfl ?_
      refine gf_X7_5 hc lf_X7_19 dX7_heard_20 ?_
      refine r_bipush (v := 6) hc dX7_heard_23 rfl ?_
      refine r_iload_n hc 2 dX7_heard_25 rfl ?_
      refine r_iadd hc dX7_heard_26 ?_
      obtain ⟨hi_5, h⟩ := h
      refine r_iald hc kia_59 hi_5 dX7_heard_27 ?_
      refine r_iconst (v := 1) hc dX7_heard_28 rfl ?_
      refine r_isub hc dX7_heard_29 ?_
      refine r_i2l hc dX7_heard_30 ?_
      refine r_callSi (d := 0) hc (m_X7_in h) cw_X7_in wt_X7_in lm_X7_57 (by decide) (by decide) rfl rfl (Nat.le_of_ble_eq_true rfl) dX7_heard_31 (fun r_7 σ_6 h => ?_)
      refine r_if_ne hc 40 dX7_heard_34 (by decide) (fun q => ?_) (fun q => ?_)
      · have h := kif_t h q
        refine r_ldc hc lk_X7_67 dX7_heard_37 ?_
        exact r_iret (ls0 := []) hZ dX7_heard_39 h
      · have h := kif_f h q
        refine r_aload_n hc 0 dX7_heard_40 rfl ?_
        refine r_aload_n hc 0 dX7_heard_41 rfl ?_
        refine r_iload_n hc 1 dX7_heard_42 rfl ?_
        refine r_callVi (d := 2) hc (m_X7_biasOf h) cw_X7_biasOf wi_X7_biasOf ws_X7_biasOf lm_X7_169 (by decide) (by decide) rv_X7 rfl rfl (Nat.le_of_ble_eq_true rfl) dX7_heard_43 (fun r_9 σ_8 h => ?_)
        refine r_iload_n hc 2 dX7_heard_46 rfl ?_
        refine r_iload_n hc 3 dX7_heard_47 rfl ?_
        refine r_callVi (d := 1) hc (m_X7_heardBy h) cw_X7_heardBy wi_X7_heardBy ws_X7_heardBy lm_X7_182 (by decide) (by decide) rv_X7 rfl rfl (Nat.le_of_ble_eq_true rfl) dX7_heard_48 (fun r_11 σ_10 h => ?_)
        exact r_iret (ls0 := []) hZ dX7_heard_51 h
theorem m_X7_heard {l : Launch} {g : kG} {N : Nat} {σ : kS} {x1 : Int32} {x2 : Int32} {x3 : Int32} {Q : Int32 → kS → Prop} (h : w_X7_heard N σ x1 x2 x3 Q) : kMi l g yX7_heard cX7_heard 4 (some .int) 3 [kz g 55, .int x1, .int x2, .int x3] σ Q :=
  k_met_i (by decide +kernel) rfl (Nat.le_of_ble_eq_true rfl) (fun X hl hc hZ => s_X7_heard hc hZ h)
def w_X7_strike (N : Nat) (σ : kS) (x1 : Int32) (Q : Int32 → kS → Prop) : Prop :=
  if (σ 55 4) = 0 then (Q (-1000002) σ) else (vp_in 0 57 ∧ (w_X7_in N σ (x1.toInt64) 0 (((σ 59 (0 : Int32).toNatClampNeg) - 1).toInt64) (fun (r_3 : Int32) (σ_2 : kS) => if r_3 = 0 then (Q (-1000001) σ_2) else (vp_in 2 57 ∧ (w_X7_over N σ_2 (x1 + (σ_2 59 (2 : Int32).toNatClampNeg)) (fun (r_6 : Int32) (σ_5 : kS) => Q r_6 σ_5))))))
set_option maxHeartbeats 4000000 in
set_option maxRecDepth 100000 in
theorem s_X7_strike {X : kX} {g : kG} {N : Nat} {Q : Int32 → kS → Prop} (hc : kOk X g RX7 cX7_strike 2 (some .int) 1) (hZ : kRi X g cX7_strike Q) {σ : kS} {x1 : Int32} (h : w_X7_strike N σ x1 Q) : kP X g 2 0 [(0, kz g 55), (1, .int x1)] [] σ := by
  unfold w_X7_strike at h
  refine r_aload_n hc 0 dX7_strike_0 rfl ?_
  refine gf_X7_4 hc lf_X7_138 dX7_strike_1 ?_
  refine r_if_ne hc 10 dX7_strike_4 (by decide) (fun q => ?_) (fun q => ?_)
  · have h := kif_t h q
    refine r_ldc hc lk_X7_145 dX7_strike_7 ?_
    exact r_iret (ls0 := []) hZ dX7_strike_9 h
  · have h := kif_f h q
    refine r_iload_n hc 1 dX7_strike_10 rfl ?_
    refine r_i2l hc dX7_strike_11 ?_
    refine r_lconst (v := 0) hc dX7_strike_12 rfl ?_
    refine r_aload_n hc 0 dX7_strike_13 rfl ?_
    refine gf_X7_5 hc lf_X7_19 dX7_strike_14 ?_
    refine r_iconst (v := 0) hc dX7_strike_17 rfl ?_
    obtain ⟨hi_1, h⟩ := h
    refine r_iald hc kia_59 hi_1 dX7_strike_18 ?_
    refine r_iconst (v := 1) hc dX7_strike_19 rfl ?_
    refine r_isub hc dX7_strike_20 ?_
    refine r_i2l hc dX7_strike_21 ?_
    refine r_callSi (d := 0) hc (m_X7_in h) cw_X7_in wt_X7_in lm_X7_57 (by decide) (by decide) rfl rfl (Nat.le_of_ble_eq_true rfl) dX7_strike_22 (fun r_3 σ_2 h => ?_)
    refine r_if_eq hc 43 dX7_strike_25 (by decide) (fun q => ?_) (fun q => ?_)
    · have h := kif_t h q
      refine r_ldc hc lk_X7_67 dX7_strike_43 ?_
      exact r_iret (ls0 := []) hZ dX7_strike_45 h
    · have h := kif_f h q
      refine r_aload_n hc 0 dX7_strike_28 rfl ?_
      refine r_iload_n hc 1 dX7_strike_29 rfl ?_
      refine r_aload_n hc 0 dX7_strike_30 rfl ?_
      refine gf_X7_5 hc lf_X7_19 dX7_strike_31 ?_
      refine r_iconst (v := 2) hc dX7_strike_34 rfl ?_
      obtain ⟨hi_4, h⟩ := h
      refine r_iald hc kia_59 hi_4 dX7_strike_35 ?_
      refine r_iadd hc dX7_strike_36 ?_
      refine r_callVi (d := 0) hc (m_X7_over h) cw_X7_over wi_X7_over ws_X7_over lm_X7_146 (by decide) (by decide) rv_X7 rfl rfl (Nat.le_of_ble_eq_true rfl) dX7_strike_37 (fun r_6 σ_5 h => ?_)
      refine r_goto hc 45 dX7_strike_40 (by decide) ?_
      exact r_iret (ls0 := []) hZ dX7_strike_45 h
theorem m_X7_strike {l : Launch} {g : kG} {N : Nat} {σ : kS} {x1 : Int32} {Q : Int32 → kS → Prop} (h : w_X7_strike N σ x1 Q) : kMi l g yX7_strike cX7_strike 2 (some .int) 1 [kz g 55, .int x1] σ Q :=
  k_met_i (by decide +kernel) rfl (Nat.le_of_ble_eq_true rfl) (fun X hl hc hZ => s_X7_strike hc hZ h)
def b_X7_soonBy_2 (N : Nat) (Q : Int32 → kS → Prop) (x1 : Int32) (x2 : Int32) (K : Int32 → kS → Prop) (x3 : Int32) (σ : kS) : Prop :=
  if 60 < x3 then (Q (-1000000) σ) else (w_X7_shiftIn N σ x3 (fun (r_2 : Int32) (σ_1 : kS) => if r_2 = x1 then (if x1 = x2 then (Q x3 σ_1) else (∀ x3_3 : Int32, x3_3 = x3 + 1 → (K x3_3 σ_1))) else (∀ x3_4 : Int32, x3_4 = x3 + 1 → (K x3_4 σ_1))))
def l_X7_soonBy_2 (N : Nat) (Q : Int32 → kS → Prop) (x1 : Int32) (x2 : Int32) : Nat → Int32 → kS → Prop
  | 0 => fun _ _ => False
  | n + 1 => b_X7_soonBy_2 N Q x1 x2 (l_X7_soonBy_2 N Q x1 x2 n)
set_option maxHeartbeats 4000000 in
set_option maxRecDepth 100000 in
theorem sb_X7_soonBy_2 {X : kX} {g : kG} {N : Nat} {Q : Int32 → kS → Prop} (hc : kOk X g RX7 cX7_soonBy 4 (some .int) 2) (hZ : kRi X g cX7_soonBy Q) {x1 : Int32} {x2 : Int32} {K : Int32 → kS → Prop} (hK : ∀ (x3 : Int32) (τ : kS), K x3 τ → kP X g 4 2 [(0, kz g 55), (1, .int x1), (2, .int x2), (3, .int x3)] [] τ) {x3 : Int32} {σ : kS} (h : b_X7_soonBy_2 N Q x1 x2 K x3 σ) : kP X g 4 2 [(0, kz g 55), (1, .int x1), (2, .int x2), (3, .int x3)] [] σ := by
  unfold b_X7_soonBy_2 at h
  refine r_iload_n hc 3 dX7_soonBy_2 rfl ?_
  refine r_bipush (v := 60) hc dX7_soonBy_3 rfl ?_
  refine r_ic_gt hc 30 dX7_soonBy_5 (by decide) (fun q => ?_) (fun q => ?_)
  · have h := kif_t h q
    refine r_ldc hc lk_X7_165 dX7_soonBy_30 ?_
    exact r_iret (ls0 := []) hZ dX7_soonBy_32 h
  · have h := kif_f h q
    refine r_aload_n hc 0 dX7_soonBy_8 rfl ?_
    refine r_iload_n hc 3 dX7_soonBy_9 rfl ?_
    refine r_callVi (d := 1) hc (m_X7_shiftIn h) cw_X7_shiftIn wi_X7_shiftIn ws_X7_shiftIn lm_X7_154 (by decide) (by decide) rv_X7 rfl rfl (Nat.le_of_ble_eq_true rfl) dX7_soonBy_10 (fun r_2 σ_1 h => ?_)
    refine r_iload_n hc 1 dX7_soonBy_13 rfl ?_
    refine r_ic_ne hc 24 dX7_soonBy_14 (by decide) (fun q => ?_) (fun q => ?_)
    · have h := kif_t h q
      refine r_iload_n hc 1 dX7_soonBy_17 rfl ?_
      refine r_iload_n hc 2 dX7_soonBy_18 rfl ?_
      refine r_ic_ne hc 24 dX7_soonBy_19 (by decide) (fun q => ?_) (fun q => ?_)
      · have h := kif_t h q
        refine r_iload_n hc 3 dX7_soonBy_22 rfl ?_
        exact r_iret (ls0 := []) hZ dX7_soonBy_23 h
      · have h := kif_f h q
        obtain ⟨x3_3, ex3_3⟩ : ∃ v : Int32, v = x3 + 1 := ⟨_, rfl⟩
        have h := h x3_3 ex3_3
        refine r_iinc (v := x3_3) hc 3 [(3, .int x3_3), (0, kz g 55), (1, .int x1), (2, .int x2)] dX7_soonBy_24 rfl (by rw [ex3_3]; rfl) (by decide) rfl ?_
        refine r_goto hc 2 dX7_soonBy_27 (by decide) ?_
        refine r_sub [1, 2, 3, 0] rfl ?_
        exact hK _ _ h
    · have h := kif_f h q
      obtain ⟨x3_4, ex3_4⟩ : ∃ v : Int32, v = x3 + 1 := ⟨_, rfl⟩
      have h := h x3_4 ex3_4
      refine r_iinc (v := x3_4) hc 3 [(3, .int x3_4), (0, kz g 55), (1, .int x1), (2, .int x2)] dX7_soonBy_24 rfl (by rw [ex3_4]; rfl) (by decide) rfl ?_
      refine r_goto hc 2 dX7_soonBy_27 (by decide) ?_
      refine r_sub [1, 2, 3, 0] rfl ?_
      exact hK _ _ h
theorem sl_X7_soonBy_2 {X : kX} {g : kG} {N : Nat} {Q : Int32 → kS → Prop} (hc : kOk X g RX7 cX7_soonBy 4 (some .int) 2) (hZ : kRi X g cX7_soonBy Q) {x1 : Int32} {x2 : Int32} : ∀ (n : Nat) (x3 : Int32) (σ : kS), l_X7_soonBy_2 N Q x1 x2 n x3 σ → kP X g 4 2 [(0, kz g 55), (1, .int x1), (2, .int x2), (3, .int x3)] [] σ := by
  intro n
  induction n with
  | zero => intro x3 σ h; exact h.elim
  | succ n ih => intro x3 σ h; exact sb_X7_soonBy_2 hc hZ ih h
def w_X7_soonBy (N : Nat) (σ : kS) (x1 : Int32) (x2 : Int32) (Q : Int32 → kS → Prop) : Prop :=
  l_X7_soonBy_2 N Q x1 x2  N 0 σ
set_option maxHeartbeats 4000000 in
set_option maxRecDepth 100000 in
theorem s_X7_soonBy {X : kX} {g : kG} {N : Nat} {Q : Int32 → kS → Prop} (hc : kOk X g RX7 cX7_soonBy 4 (some .int) 2) (hZ : kRi X g cX7_soonBy Q) {σ : kS} {x1 : Int32} {x2 : Int32} (h : w_X7_soonBy N σ x1 x2 Q) : kP X g 4 0 [(0, kz g 55), (1, .int x1), (2, .int x2)] [] σ := by
  unfold w_X7_soonBy at h
  refine r_iconst (v := 0) hc dX7_soonBy_0 rfl ?_
  refine r_istore_n hc [(3, .int 0), (0, kz g 55), (1, .int x1), (2, .int x2)] dX7_soonBy_1 (by decide) rfl ?_
  refine r_sub [1, 2, 3, 0] rfl ?_
  refine sl_X7_soonBy_2 hc hZ _ _ _ h
theorem m_X7_soonBy {l : Launch} {g : kG} {N : Nat} {σ : kS} {x1 : Int32} {x2 : Int32} {Q : Int32 → kS → Prop} (h : w_X7_soonBy N σ x1 x2 Q) : kMi l g yX7_soonBy cX7_soonBy 4 (some .int) 2 [kz g 55, .int x1, .int x2] σ Q :=
  k_met_i (by decide +kernel) rfl (Nat.le_of_ble_eq_true rfl) (fun X hl hc hZ => s_X7_soonBy hc hZ h)
def w_X7_soon (N : Nat) (σ : kS) (x1 : Int32) (Q : Int32 → kS → Prop) : Prop :=
  w_X7_isPupil N σ x1 (fun (r_2 : Int32) (σ_1 : kS) => if r_2 = 0 then (Q (-1000001) σ_1) else (w_X7_biasOf N σ_1 x1 (fun (r_4 : Int32) (σ_3 : kS) => w_X7_biasOf N σ_3 x1 (fun (r_6 : Int32) (σ_5 : kS) => w_X7_soonBy N σ_5 r_4 r_6 (fun (r_8 : Int32) (σ_7 : kS) => Q r_8 σ_7)))))
set_option maxHeartbeats 4000000 in
set_option maxRecDepth 100000 in
theorem s_X7_soon {X : kX} {g : kG} {N : Nat} {Q : Int32 → kS → Prop} (hc : kOk X g RX7 cX7_soon 2 (some .int) 3) (hZ : kRi X g cX7_soon Q) {σ : kS} {x1 : Int32} (h : w_X7_soon N σ x1 Q) : kP X g 2 0 [(0, kz g 55), (1, .int x1)] [] σ := by
  unfold w_X7_soon at h
  refine r_aload_n hc 0 dX7_soon_0 rfl ?_
  refine r_iload_n hc 1 dX7_soon_1 rfl ?_
  refine r_callVi (d := 1) hc (m_X7_isPupil h) cw_X7_isPupil wi_X7_isPupil ws_X7_isPupil lm_X7_159 (by decide) (by decide) rv_X7 rfl rfl (Nat.le_of_ble_eq_true rfl) dX7_soon_2 (fun r_2 σ_1 h => ?_)
  refine r_if_eq hc 25 dX7_soon_5 (by decide) (fun q => ?_) (fun q => ?_)
  · have h := kif_t h q
    refine r_ldc hc lk_X7_67 dX7_soon_25 ?_
    exact r_iret (ls0 := []) hZ dX7_soon_27 h
  · have h := kif_f h q
    refine r_aload_n hc 0 dX7_soon_8 rfl ?_
    refine r_aload_n hc 0 dX7_soon_9 rfl ?_
    refine r_iload_n hc 1 dX7_soon_10 rfl ?_
    refine r_callVi (d := 2) hc (m_X7_biasOf h) cw_X7_biasOf wi_X7_biasOf ws_X7_biasOf lm_X7_169 (by decide) (by decide) rv_X7 rfl rfl (Nat.le_of_ble_eq_true rfl) dX7_soon_11 (fun r_4 σ_3 h => ?_)
    refine r_aload_n hc 0 dX7_soon_14 rfl ?_
    refine r_iload_n hc 1 dX7_soon_15 rfl ?_
    refine r_callVi (d := 2) hc (m_X7_biasOf h) cw_X7_biasOf wi_X7_biasOf ws_X7_biasOf lm_X7_169 (by decide) (by decide) rv_X7 rfl rfl (Nat.le_of_ble_eq_true rfl) dX7_soon_16 (fun r_6 σ_5 h => ?_)
    refine r_callVi (d := 2) hc (m_X7_soonBy h) cw_X7_soonBy wi_X7_soonBy ws_X7_soonBy lm_X7_186 (by decide) (by decide) rv_X7 rfl rfl (Nat.le_of_ble_eq_true rfl) dX7_soon_19 (fun r_8 σ_7 h => ?_)
    refine r_goto hc 27 dX7_soon_22 (by decide) ?_
    exact r_iret (ls0 := []) hZ dX7_soon_27 h
theorem m_X7_soon {l : Launch} {g : kG} {N : Nat} {σ : kS} {x1 : Int32} {Q : Int32 → kS → Prop} (h : w_X7_soon N σ x1 Q) : kMi l g yX7_soon cX7_soon 2 (some .int) 3 [kz g 55, .int x1] σ Q :=
  k_met_i (by decide +kernel) rfl (Nat.le_of_ble_eq_true rfl) (fun X hl hc hZ => s_X7_soon hc hZ h)
def w_X7_together (N : Nat) (σ : kS) (x1 : Int32) (x2 : Int32) (Q : Int32 → kS → Prop) : Prop :=
  w_X7_isPupil N σ x1 (fun (r_2 : Int32) (σ_1 : kS) => if r_2 = 0 then (Q (-1000001) σ_1) else (w_X7_isPupil N σ_1 x2 (fun (r_4 : Int32) (σ_3 : kS) => if r_4 = 0 then (Q (-1000001) σ_3) else (if x1 = x2 then (Q (-1000001) σ_3) else (w_X7_biasOf N σ_3 x1 (fun (r_6 : Int32) (σ_5 : kS) => w_X7_biasOf N σ_5 x2 (fun (r_8 : Int32) (σ_7 : kS) => w_X7_soonBy N σ_7 r_6 r_8 (fun (r_10 : Int32) (σ_9 : kS) => Q r_10 σ_9))))))))
set_option maxHeartbeats 4000000 in
set_option maxRecDepth 100000 in
theorem s_X7_together {X : kX} {g : kG} {N : Nat} {Q : Int32 → kS → Prop} (hc : kOk X g RX7 cX7_together 3 (some .int) 3) (hZ : kRi X g cX7_together Q) {σ : kS} {x1 : Int32} {x2 : Int32} (h : w_X7_together N σ x1 x2 Q) : kP X g 3 0 [(0, kz g 55), (1, .int x1), (2, .int x2)] [] σ := by
  unfold w_X7_together at h
  refine r_aload_n hc 0 dX7_together_0 rfl ?_
  refine r_iload_n hc 1 dX7_together_1 rfl ?_
  refine r_callVi (d := 1) hc (m_X7_isPupil h) cw_X7_isPupil wi_X7_isPupil ws_X7_isPupil lm_X7_159 (by decide) (by decide) rv_X7 rfl rfl (Nat.le_of_ble_eq_true rfl) dX7_together_2 (fun r_2 σ_1 h => ?_)
  refine r_if_eq hc 38 dX7_together_5 (by decide) (fun q => ?_) (fun q => ?_)
  · have h := kif_t h q
    refine r_ldc hc lk_X7_67 dX7_together_38 ?_
    exact r_iret (ls0 := []) hZ dX7_together_40 h
  · have h := kif_f h q
    refine r_aload_n hc 0 dX7_together_8 rfl ?_
    refine r_iload_n hc 2 dX7_together_9 rfl ?_
    refine r_callVi (d := 1) hc (m_X7_isPupil h) cw_X7_isPupil wi_X7_isPupil ws_X7_isPupil lm_X7_159 (by decide) (by decide) rv_X7 rfl rfl (Nat.le_of_ble_eq_true rfl) dX7_together_10 (fun r_4 σ_3 h => ?_)
    refine r_if_eq hc 38 dX7_together_13 (by decide) (fun q => ?_) (fun q => ?_)
    · have h := kif_t h q
      refine r_ldc hc lk_X7_67 dX7_together_38 ?_
      exact r_iret (ls0 := []) hZ dX7_together_40 h
    · have h := kif_f h q
      refine r_iload_n hc 1 dX7_together_16 rfl ?_
      refine r_iload_n hc 2 dX7_together_17 rfl ?_
      refine r_ic_eq hc 38 dX7_together_18 (by decide) (fun q => ?_) (fun q => ?_)
      · have h := kif_t h q
        refine r_ldc hc lk_X7_67 dX7_together_38 ?_
        exact r_iret (ls0 := []) hZ dX7_together_40 h
      · have h := kif_f h q
        refine r_aload_n hc 0 dX7_together_21 rfl ?_
        refine r_aload_n hc 0 dX7_together_22 rfl ?_
        refine r_iload_n hc 1 dX7_together_23 rfl ?_
        refine r_callVi (d := 2) hc (m_X7_biasOf h) cw_X7_biasOf wi_X7_biasOf ws_X7_biasOf lm_X7_169 (by decide) (by decide) rv_X7 rfl rfl (Nat.le_of_ble_eq_true rfl) dX7_together_24 (fun r_6 σ_5 h => ?_)
        refine r_aload_n hc 0 dX7_together_27 rfl ?_
        refine r_iload_n hc 2 dX7_together_28 rfl ?_
        refine r_callVi (d := 2) hc (m_X7_biasOf h) cw_X7_biasOf wi_X7_biasOf ws_X7_biasOf lm_X7_169 (by decide) (by decide) rv_X7 rfl rfl (Nat.le_of_ble_eq_true rfl) dX7_together_29 (fun r_8 σ_7 h => ?_)
        refine r_callVi (d := 2) hc (m_X7_soonBy h) cw_X7_soonBy wi_X7_soonBy ws_X7_soonBy lm_X7_186 (by decide) (by decide) rv_X7 rfl rfl (Nat.le_of_ble_eq_true rfl) dX7_together_32 (fun r_10 σ_9 h => ?_)
        refine r_goto hc 40 dX7_together_35 (by decide) ?_
        exact r_iret (ls0 := []) hZ dX7_together_40 h
theorem m_X7_together {l : Launch} {g : kG} {N : Nat} {σ : kS} {x1 : Int32} {x2 : Int32} {Q : Int32 → kS → Prop} (h : w_X7_together N σ x1 x2 Q) : kMi l g yX7_together cX7_together 3 (some .int) 3 [kz g 55, .int x1, .int x2] σ Q :=
  k_met_i (by decide +kernel) rfl (Nat.le_of_ble_eq_true rfl) (fun X hl hc hZ => s_X7_together hc hZ h)
def w_X7_itself (N : Nat) (σ : kS) (Q : Int32 → kS → Prop) : Prop :=
  if (σ 55 4) = 0 then (Q (-1000002) σ) else (w_X7_soonBy N σ 0 0 (fun (r_2 : Int32) (σ_1 : kS) => Q r_2 σ_1))
set_option maxHeartbeats 4000000 in
set_option maxRecDepth 100000 in
theorem s_X7_itself {X : kX} {g : kG} {N : Nat} {Q : Int32 → kS → Prop} (hc : kOk X g RX7 cX7_itself 1 (some .int) 3) (hZ : kRi X g cX7_itself Q) {σ : kS} (h : w_X7_itself N σ Q) : kP X g 1 0 [(0, kz g 55)] [] σ := by
  unfold w_X7_itself at h
  refine r_aload_n hc 0 dX7_itself_0 rfl ?_
  refine gf_X7_4 hc lf_X7_138 dX7_itself_1 ?_
  refine r_if_eq hc 16 dX7_itself_4 (by decide) (fun q => ?_) (fun q => ?_)
  · have h := kif_t h q
    refine r_ldc hc lk_X7_145 dX7_itself_16 ?_
    exact r_iret (ls0 := []) hZ dX7_itself_18 h
  · have h := kif_f h q
    refine r_aload_n hc 0 dX7_itself_7 rfl ?_
    refine r_iconst (v := 0) hc dX7_itself_8 rfl ?_
    refine r_iconst (v := 0) hc dX7_itself_9 rfl ?_
    refine r_callVi (d := 2) hc (m_X7_soonBy h) cw_X7_soonBy wi_X7_soonBy ws_X7_soonBy lm_X7_186 (by decide) (by decide) rv_X7 rfl rfl (Nat.le_of_ble_eq_true rfl) dX7_itself_10 (fun r_2 σ_1 h => ?_)
    refine r_goto hc 18 dX7_itself_13 (by decide) ?_
    exact r_iret (ls0 := []) hZ dX7_itself_18 h
theorem m_X7_itself {l : Launch} {g : kG} {N : Nat} {σ : kS} {Q : Int32 → kS → Prop} (h : w_X7_itself N σ Q) : kMi l g yX7_itself cX7_itself 1 (some .int) 3 [kz g 55] σ Q :=
  k_met_i (by decide +kernel) rfl (Nat.le_of_ble_eq_true rfl) (fun X hl hc hZ => s_X7_itself hc hZ h)
def b_X7_nightsOf_28 (N : Nat) (Q : Int32 → kS → Prop) (x1 : Int32) (x2 : Int32) (K : Int32 → Int32 → kS → Prop) (x3 : Int32) (x4 : Int32) (σ : kS) : Prop :=
  if x2 ≤ x4 then (Q x3 σ) else (w_X7_shiftIn N σ x4 (fun (r_6 : Int32) (σ_5 : kS) => w_X7_biasOf N σ_5 x1 (fun (r_8 : Int32) (σ_7 : kS) => if r_6 = r_8 then (∀ x3_9 : Int32, x3_9 = x3 ||| (1 <<< (x4 &&& 31)) → (∀ x4_10 : Int32, x4_10 = x4 + 1 → (K x3_9 x4_10 σ_7))) else (∀ x3_11 : Int32, x3_11 = x3 ||| 0 → (∀ x4_12 : Int32, x4_12 = x4 + 1 → (K x3_11 x4_12 σ_7))))))
def l_X7_nightsOf_28 (N : Nat) (Q : Int32 → kS → Prop) (x1 : Int32) (x2 : Int32) : Nat → Int32 → Int32 → kS → Prop
  | 0 => fun _ _ _ => False
  | n + 1 => b_X7_nightsOf_28 N Q x1 x2 (l_X7_nightsOf_28 N Q x1 x2 n)
set_option maxHeartbeats 4000000 in
set_option maxRecDepth 100000 in
theorem sb_X7_nightsOf_28 {X : kX} {g : kG} {N : Nat} {Q : Int32 → kS → Prop} (hc : kOk X g RX7 cX7_nightsOf 5 (some .int) 3) (hZ : kRi X g cX7_nightsOf Q) {x1 : Int32} {x2 : Int32} {K : Int32 → Int32 → kS → Prop} (hK : ∀ (x3 : Int32) (x4 : Int32) (τ : kS), K x3 x4 τ → kP X g 5 28 [(0, kz g 55), (1, .int x1), (2, .int x2), (3, .int x3), (4, .int x4)] [] τ) {x3 : Int32} {x4 : Int32} {σ : kS} (h : b_X7_nightsOf_28 N Q x1 x2 K x3 x4 σ) : kP X g 5 28 [(0, kz g 55), (1, .int x1), (2, .int x2), (3, .int x3), (4, .int x4)] [] σ := by
  unfold b_X7_nightsOf_28 at h
  refine r_iload hc 4 dX7_nightsOf_28 rfl ?_
  refine r_iload_n hc 2 dX7_nightsOf_30 rfl ?_
  refine r_ic_ge hc 65 dX7_nightsOf_31 (by decide) (fun q => ?_) (fun q => ?_)
  · have h := kif_t h q
    refine r_iload_n hc 3 dX7_nightsOf_65 rfl ?_
    exact r_iret (ls0 := []) hZ dX7_nightsOf_66 h
  · have h := kif_f h q
    refine r_iload_n hc 3 dX7_nightsOf_34 rfl ?_
    refine r_aload_n hc 0 dX7_nightsOf_35 rfl ?_
    refine r_iload hc 4 dX7_nightsOf_36 rfl ?_
    refine r_callVi (d := 1) hc (m_X7_shiftIn h) cw_X7_shiftIn wi_X7_shiftIn ws_X7_shiftIn lm_X7_154 (by decide) (by decide) rv_X7 rfl rfl (Nat.le_of_ble_eq_true rfl) dX7_nightsOf_38 (fun r_6 σ_5 h => ?_)
    refine r_aload_n hc 0 dX7_nightsOf_41 rfl ?_
    refine r_iload_n hc 1 dX7_nightsOf_42 rfl ?_
    refine r_callVi (d := 2) hc (m_X7_biasOf h) cw_X7_biasOf wi_X7_biasOf ws_X7_biasOf lm_X7_169 (by decide) (by decide) rv_X7 rfl rfl (Nat.le_of_ble_eq_true rfl) dX7_nightsOf_43 (fun r_8 σ_7 h => ?_)
    refine r_ic_ne hc 56 dX7_nightsOf_46 (by decide) (fun q => ?_) (fun q => ?_)
    · have h := kif_t h q
      refine r_iconst (v := 1) hc dX7_nightsOf_49 rfl ?_
      refine r_iload hc 4 dX7_nightsOf_50 rfl ?_
      refine r_ishl hc dX7_nightsOf_52 ?_
      refine r_goto hc 57 dX7_nightsOf_53 (by decide) ?_
      refine r_ior hc dX7_nightsOf_57 ?_
      refine r_nmI (fun x3_9 ex3_9 => ?_)
      have h := h x3_9 ex3_9
      refine r_istore_n hc [(3, .int x3_9), (0, kz g 55), (1, .int x1), (2, .int x2), (4, .int x4)] dX7_nightsOf_58 (by decide) rfl ?_
      obtain ⟨x4_10, ex4_10⟩ : ∃ v : Int32, v = x4 + 1 := ⟨_, rfl⟩
      have h := h x4_10 ex4_10
      refine r_iinc (v := x4_10) hc 4 [(4, .int x4_10), (3, .int x3_9), (0, kz g 55), (1, .int x1), (2, .int x2)] dX7_nightsOf_59 rfl (by rw [ex4_10]; rfl) (by decide) rfl ?_
      refine r_goto hc 28 dX7_nightsOf_62 (by decide) ?_
      refine r_sub [2, 3, 4, 1, 0] rfl ?_
      exact hK _ _ _ h
    · have h := kif_f h q
      refine r_iconst (v := 0) hc dX7_nightsOf_56 rfl ?_
      refine r_ior hc dX7_nightsOf_57 ?_
      refine r_nmI (fun x3_11 ex3_11 => ?_)
      have h := h x3_11 ex3_11
      refine r_istore_n hc [(3, .int x3_11), (0, kz g 55), (1, .int x1), (2, .int x2), (4, .int x4)] dX7_nightsOf_58 (by decide) rfl ?_
      obtain ⟨x4_12, ex4_12⟩ : ∃ v : Int32, v = x4 + 1 := ⟨_, rfl⟩
      have h := h x4_12 ex4_12
      refine r_iinc (v := x4_12) hc 4 [(4, .int x4_12), (3, .int x3_11), (0, kz g 55), (1, .int x1), (2, .int x2)] dX7_nightsOf_59 rfl (by rw [ex4_12]; rfl) (by decide) rfl ?_
      refine r_goto hc 28 dX7_nightsOf_62 (by decide) ?_
      refine r_sub [2, 3, 4, 1, 0] rfl ?_
      exact hK _ _ _ h
theorem sl_X7_nightsOf_28 {X : kX} {g : kG} {N : Nat} {Q : Int32 → kS → Prop} (hc : kOk X g RX7 cX7_nightsOf 5 (some .int) 3) (hZ : kRi X g cX7_nightsOf Q) {x1 : Int32} {x2 : Int32} : ∀ (n : Nat) (x3 : Int32) (x4 : Int32) (σ : kS), l_X7_nightsOf_28 N Q x1 x2 n x3 x4 σ → kP X g 5 28 [(0, kz g 55), (1, .int x1), (2, .int x2), (3, .int x3), (4, .int x4)] [] σ := by
  intro n
  induction n with
  | zero => intro x3 x4 σ h; exact h.elim
  | succ n ih => intro x3 x4 σ h; exact sb_X7_nightsOf_28 hc hZ ih h
def w_X7_nightsOf (N : Nat) (σ : kS) (x1 : Int32) (x2 : Int32) (Q : Int32 → kS → Prop) : Prop :=
  w_X7_isPupil N σ x1 (fun (r_2 : Int32) (σ_1 : kS) => if r_2 = 0 then (Q (-1000001) σ_1) else (w_X7_in N σ_1 (x2.toInt64) 1 24 (fun (r_4 : Int32) (σ_3 : kS) => if r_4 = 0 then (Q (-1000001) σ_3) else (l_X7_nightsOf_28 N Q x1 x2  N 0 0 σ_3))))
set_option maxHeartbeats 4000000 in
set_option maxRecDepth 100000 in
theorem s_X7_nightsOf {X : kX} {g : kG} {N : Nat} {Q : Int32 → kS → Prop} (hc : kOk X g RX7 cX7_nightsOf 5 (some .int) 3) (hZ : kRi X g cX7_nightsOf Q) {σ : kS} {x1 : Int32} {x2 : Int32} (h : w_X7_nightsOf N σ x1 x2 Q) : kP X g 5 0 [(0, kz g 55), (1, .int x1), (2, .int x2)] [] σ := by
  unfold w_X7_nightsOf at h
  refine r_aload_n hc 0 dX7_nightsOf_0 rfl ?_
  refine r_iload_n hc 1 dX7_nightsOf_1 rfl ?_
  refine r_callVi (d := 1) hc (m_X7_isPupil h) cw_X7_isPupil wi_X7_isPupil ws_X7_isPupil lm_X7_159 (by decide) (by decide) rv_X7 rfl rfl (Nat.le_of_ble_eq_true rfl) dX7_nightsOf_2 (fun r_2 σ_1 h => ?_)
  refine r_if_eq hc 20 dX7_nightsOf_5 (by decide) (fun q => ?_) (fun q => ?_)
  · have h := kif_t h q
    refine r_ldc hc lk_X7_67 dX7_nightsOf_20 ?_
    exact r_iret (ls0 := []) hZ dX7_nightsOf_22 h
  · have h := kif_f h q
    refine r_iload_n hc 2 dX7_nightsOf_8 rfl ?_
    refine r_i2l hc dX7_nightsOf_9 ?_
    refine r_lconst (v := 1) hc dX7_nightsOf_10 rfl ?_
    refine r_ldc2_w hc lK_X7_149 dX7_nightsOf_11 ?_
    refine r_callSi (d := 0) hc (m_X7_in h) cw_X7_in wt_X7_in lm_X7_57 (by decide) (by decide) rfl rfl (Nat.le_of_ble_eq_true rfl) dX7_nightsOf_14 (fun r_4 σ_3 h => ?_)
    refine r_if_ne hc 23 dX7_nightsOf_17 (by decide) (fun q => ?_) (fun q => ?_)
    · have h := kif_t h q
      refine r_ldc hc lk_X7_67 dX7_nightsOf_20 ?_
      exact r_iret (ls0 := []) hZ dX7_nightsOf_22 h
    · have h := kif_f h q
      refine r_iconst (v := 0) hc dX7_nightsOf_23 rfl ?_
      refine r_istore_n hc [(3, .int 0), (0, kz g 55), (1, .int x1), (2, .int x2)] dX7_nightsOf_24 (by decide) rfl ?_
      refine r_iconst (v := 0) hc dX7_nightsOf_25 rfl ?_
      refine r_istore hc [(4, .int 0), (3, .int 0), (0, kz g 55), (1, .int x1), (2, .int x2)] dX7_nightsOf_26 (by decide) rfl ?_
      refine r_sub [2, 3, 4, 1, 0] rfl ?_
      refine sl_X7_nightsOf_28 hc hZ _ _ _ _ h
theorem m_X7_nightsOf {l : Launch} {g : kG} {N : Nat} {σ : kS} {x1 : Int32} {x2 : Int32} {Q : Int32 → kS → Prop} (h : w_X7_nightsOf N σ x1 x2 Q) : kMi l g yX7_nightsOf cX7_nightsOf 5 (some .int) 3 [kz g 55, .int x1, .int x2] σ Q :=
  k_met_i (by decide +kernel) rfl (Nat.le_of_ble_eq_true rfl) (fun X hl hc hZ => s_X7_nightsOf hc hZ h)
def w_X7_lacks (N : Nat) (σ : kS) (x1 : Int32) (x2 : Int32) (x3 : Int32) (Q : Int32 → kS → Prop) : Prop :=
  vp_in x1 8 ∧ (if 0 ≤ (σ 57 x1.toNatClampNeg) then (vp_in x1 8 ∧ (w_X7_in N σ (x2.toInt64) 0 (((σ 57 x1.toNatClampNeg) - x3).toInt64) (fun (r_4 : Int32) (σ_3 : kS) => if r_4 = 0 then (w_X7_find N σ_3 2 (fun (r_6 : Int32) (σ_5 : kS) => Q r_6 σ_5)) else (Q 0 σ_3)))) else (w_X7_find N σ 1 (fun (r_8 : Int32) (σ_7 : kS) => Q r_8 σ_7)))
set_option maxHeartbeats 4000000 in
set_option maxRecDepth 100000 in
theorem s_X7_lacks {X : kX} {g : kG} {N : Nat} {Q : Int32 → kS → Prop} (hc : kOk X g RX7 cX7_lacks 4 (some .int) 1) (hZ : kRi X g cX7_lacks Q) {σ : kS} {x1 : Int32} {x2 : Int32} {x3 : Int32} (h : w_X7_lacks N σ x1 x2 x3 Q) : kP X g 4 0 [(0, kz g 55), (1, .int x1), (2, .int x2), (3, .int x3)] [] σ := by
  unfold w_X7_lacks at h
  refine r_aload_n hc 0 dX7_lacks_0 rfl ?_
  refine gf_X7_1 hc lf_X7_13 dX7_lacks_1 ?_
  refine r_iload_n hc 1 dX7_lacks_4 rfl ?_
  obtain ⟨hi_1, h⟩ := h
  refine r_iald hc kia_57 hi_1 dX7_lacks_5 ?_
  refine r_if_ge hc 15 dX7_lacks_6 (by decide) (fun q => ?_) (fun q => ?_)
  · have h := kif_t h q
    refine r_iload_n hc 2 dX7_lacks_15 rfl ?_
    refine r_i2l hc dX7_lacks_16 ?_
    refine r_lconst (v := 0) hc dX7_lacks_17 rfl ?_
    refine r_aload_n hc 0 dX7_lacks_18 rfl ?_
    refine gf_X7_1 hc lf_X7_13 dX7_lacks_19 ?_
    refine r_iload_n hc 1 dX7_lacks_22 rfl ?_
    obtain ⟨hi_2, h⟩ := h
    refine r_iald hc kia_57 hi_2 dX7_lacks_23 ?_
    refine r_iload_n hc 3 dX7_lacks_24 rfl ?_
    refine r_isub hc dX7_lacks_25 ?_
    refine r_i2l hc dX7_lacks_26 ?_
    refine r_callSi (d := 0) hc (m_X7_in h) cw_X7_in wt_X7_in lm_X7_57 (by decide) (by decide) rfl rfl (Nat.le_of_ble_eq_true rfl) dX7_lacks_27 (fun r_4 σ_3 h => ?_)
    refine r_if_eq hc 37 dX7_lacks_30 (by decide) (fun q => ?_) (fun q => ?_)
    · have h := kif_t h q
      refine r_aload_n hc 0 dX7_lacks_37 rfl ?_
      refine r_iconst (v := 2) hc dX7_lacks_38 rfl ?_
      refine r_callVi (d := 0) hc (m_X7_find h) cw_X7_find wi_X7_find ws_X7_find lm_X7_68 (by decide) (by decide) rv_X7 rfl rfl (Nat.le_of_ble_eq_true rfl) dX7_lacks_39 (fun r_6 σ_5 h => ?_)
      exact r_iret (ls0 := []) hZ dX7_lacks_42 h
    · have h := kif_f h q
      refine r_iconst (v := 0) hc dX7_lacks_33 rfl ?_
      refine r_goto hc 42 dX7_lacks_34 (by decide) ?_
      exact r_iret (ls0 := []) hZ dX7_lacks_42 h
  · have h := kif_f h q
    refine r_aload_n hc 0 dX7_lacks_9 rfl ?_
    refine r_iconst (v := 1) hc dX7_lacks_10 rfl ?_
    refine r_callVi (d := 0) hc (m_X7_find h) cw_X7_find wi_X7_find ws_X7_find lm_X7_68 (by decide) (by decide) rv_X7 rfl rfl (Nat.le_of_ble_eq_true rfl) dX7_lacks_11 (fun r_8 σ_7 h => ?_)
    exact r_iret (ls0 := []) hZ dX7_lacks_14 h
theorem m_X7_lacks {l : Launch} {g : kG} {N : Nat} {σ : kS} {x1 : Int32} {x2 : Int32} {x3 : Int32} {Q : Int32 → kS → Prop} (h : w_X7_lacks N σ x1 x2 x3 Q) : kMi l g yX7_lacks cX7_lacks 4 (some .int) 1 [kz g 55, .int x1, .int x2, .int x3] σ Q :=
  k_met_i (by decide +kernel) rfl (Nat.le_of_ble_eq_true rfl) (fun X hl hc hZ => s_X7_lacks hc hZ h)
def j_X7_struck_167 (N : Nat) (Q : Int32 → kS → Prop) (x1 : Int32) (x2 : Int32) (x3 : Int32) (x4 : Int32) (x6 : Int32) (x7 : Int32) (x8 : Int32) (x9 : Int32) (s0 : Int32) (K : Int32 → Int32 → kS → Prop) (σ : kS) : Prop :=
  if s0 = 0 then (∀ x8_17 : Int32, x8_17 = x8 + 1 → (∀ x9_18 : Int32, x9_18 = x9 + 1 → (K x8_17 x9_18 σ))) else (∀ x8_19 : Int32, x8_19 = x8 + 0 → (∀ x9_20 : Int32, x9_20 = x9 + 1 → (K x8_19 x9_20 σ)))
set_option maxHeartbeats 4000000 in
set_option maxRecDepth 100000 in
theorem sj_X7_struck_167 {X : kX} {g : kG} {N : Nat} {Q : Int32 → kS → Prop} (hc : kOk X g RX7 cX7_struck 13 (some .int) 2) (hZ : kRi X g cX7_struck Q) {x1 : Int32} {x2 : Int32} {x3 : Int32} {x4 : Int32} {x6 : Int32} {x7 : Int32} {x8 : Int32} {x9 : Int32} {s0 : Int32} {K : Int32 → Int32 → kS → Prop} (hK : ∀ (x8 : Int32) (x9 : Int32) (τ : kS), K x8 x9 τ → kP X g 13 85 [(0, kz g 55), (1, .int x1), (2, .int x2), (3, .int x3), (4, .int x4), (6, .int x6), (7, .int x7), (8, .int x8), (9, .int x9)] [] τ) {σ : kS} (h : j_X7_struck_167 N Q x1 x2 x3 x4 x6 x7 x8 x9 s0 K σ) : kP X g 13 167 [(0, kz g 55), (1, .int x1), (2, .int x2), (3, .int x3), (4, .int x4), (6, .int x6), (7, .int x7), (8, .int x8), (9, .int x9)] [.int s0] σ := by
  unfold j_X7_struck_167 at h
  refine r_istore hc [(12, .int s0), (0, kz g 55), (1, .int x1), (2, .int x2), (3, .int x3), (4, .int x4), (6, .int x6), (7, .int x7), (8, .int x8), (9, .int x9)] dX7_struck_167 (by decide) rfl ?_
  refine r_iload hc 8 dX7_struck_169 rfl ?_
  refine r_iload hc 0 dX7_struck_171 rfl ?_
  refine r_if_eq hc 180 dX7_struck_173 (by decide) (fun q => ?_) (fun q => ?_)
  · have h := kif_t h q
    refine r_iconst (v := 1) hc dX7_struck_180 rfl ?_
    refine r_iadd hc dX7_struck_181 ?_
    refine r_nmI (fun x8_17 ex8_17 => ?_)
    have h := h x8_17 ex8_17
    refine r_istore hc [(8, .int x8_17), (12, .int s0), (0, kz g 55), (1, .int x1), (2, .int x2), (3, .int x3), (4, .int x4), (6, .int x6), (7, .int x7), (9, .int x9)] dX7_struck_182 (by decide) rfl ?_
    obtain ⟨x9_18, ex9_18⟩ : ∃ v : Int32, v = x9 + 1 := ⟨_, rfl⟩
    have h := h x9_18 ex9_18
    refine r_iinc (v := x9_18) hc 9 [(9, .int x9_18), (8, .int x8_17), (12, .int s0), (0, kz g 55), (1, .int x1), (2, .int x2), (3, .int x3), (4, .int x4), (6, .int x6), (7, .int x7)] dX7_struck_184 rfl (by rw [ex9_18]; rfl) (by decide) rfl ?_
    refine r_goto hc 85 dX7_struck_187 (by decide) ?_
    refine r_sub [3, 4, 5, 6, 7, 8, 9, 1, 0] rfl ?_
    exact hK _ _ _ h
  · have h := kif_f h q
    refine r_iconst (v := 0) hc dX7_struck_176 rfl ?_
    refine r_goto hc 181 dX7_struck_177 (by decide) ?_
    refine r_iadd hc dX7_struck_181 ?_
    refine r_nmI (fun x8_19 ex8_19 => ?_)
    have h := h x8_19 ex8_19
    refine r_istore hc [(8, .int x8_19), (12, .int s0), (0, kz g 55), (1, .int x1), (2, .int x2), (3, .int x3), (4, .int x4), (6, .int x6), (7, .int x7), (9, .int x9)] dX7_struck_182 (by decide) rfl ?_
    obtain ⟨x9_20, ex9_20⟩ : ∃ v : Int32, v = x9 + 1 := ⟨_, rfl⟩
    have h := h x9_20 ex9_20
    refine r_iinc (v := x9_20) hc 9 [(9, .int x9_20), (8, .int x8_19), (12, .int s0), (0, kz g 55), (1, .int x1), (2, .int x2), (3, .int x3), (4, .int x4), (6, .int x6), (7, .int x7)] dX7_struck_184 rfl (by rw [ex9_20]; rfl) (by decide) rfl ?_
    refine r_goto hc 85 dX7_struck_187 (by decide) ?_
    refine r_sub [3, 4, 5, 6, 7, 8, 9, 1, 0] rfl ?_
    exact hK _ _ _ h
def j_X7_struck_166 (N : Nat) (Q : Int32 → kS → Prop) (x1 : Int32) (x2 : Int32) (x3 : Int32) (x4 : Int32) (x6 : Int32) (x7 : Int32) (x8 : Int32) (x9 : Int32) (K : Int32 → Int32 → kS → Prop) (σ : kS) : Prop :=
  j_X7_struck_167 N Q x1 x2 x3 x4 x6 x7 x8 x9 0 K σ
set_option maxHeartbeats 4000000 in
set_option maxRecDepth 100000 in
theorem sj_X7_struck_166 {X : kX} {g : kG} {N : Nat} {Q : Int32 → kS → Prop} (hc : kOk X g RX7 cX7_struck 13 (some .int) 2) (hZ : kRi X g cX7_struck Q) {x1 : Int32} {x2 : Int32} {x3 : Int32} {x4 : Int32} {x6 : Int32} {x7 : Int32} {x8 : Int32} {x9 : Int32} {K : Int32 → Int32 → kS → Prop} (hK : ∀ (x8 : Int32) (x9 : Int32) (τ : kS), K x8 x9 τ → kP X g 13 85 [(0, kz g 55), (1, .int x1), (2, .int x2), (3, .int x3), (4, .int x4), (6, .int x6), (7, .int x7), (8, .int x8), (9, .int x9)] [] τ) {σ : kS} (h : j_X7_struck_166 N Q x1 x2 x3 x4 x6 x7 x8 x9 K σ) : kP X g 13 166 [(0, kz g 55), (1, .int x1), (2, .int x2), (3, .int x3), (4, .int x4), (6, .int x6), (7, .int x7), (8, .int x8), (9, .int x9)] [] σ := by
  unfold j_X7_struck_166 at h
  refine r_iconst (v := 0) hc dX7_struck_166 rfl ?_
  exact sj_X7_struck_167 hc hZ hK h
def b_X7_struck_85 (N : Nat) (Q : Int32 → kS → Prop) (x1 : Int32) (x2 : Int32) (x3 : Int32) (x4 : Int32) (x6 : Int32) (x7 : Int32) (E190 : Int32 → kS → Prop) (K : Int32 → Int32 → kS → Prop) (x8 : Int32) (x9 : Int32) (σ : kS) : Prop :=
  if x3 ≤ x9 then (E190 x8 σ) else (vp_in (((40 * x1) + x2) + (2 * x9)) 320 ∧ (∀ x10_11 : Int32, x10_11 = σ 58 (((40 * x1) + x2) + (2 * x9)).toNatClampNeg → (vp_in ((((40 * x1) + x2) + (2 * x9)) + 1) 320 ∧ (∀ x11_13 : Int32, x11_13 = σ 58 ((((40 * x1) + x2) + (2 * x9)) + 1).toNatClampNeg → (vp_in 0 57 ∧ (w_X7_in N σ (x10_11.toInt64) 0 (((σ 59 (0 : Int32).toNatClampNeg) - 1).toInt64) (fun (r_16 : Int32) (σ_15 : kS) => if r_16 = 0 then (j_X7_struck_166 N Q x1 x2 x3 x4 x6 x7 x8 x9 K σ_15) else (w_X7_over N σ_15 (x10_11 + x7) (fun (r_22 : Int32) (σ_21 : kS) => if x11_13 = r_22 then (j_X7_struck_167 N Q x1 x2 x3 x4 x6 x7 x8 x9 1 K σ_21) else (j_X7_struck_166 N Q x1 x2 x3 x4 x6 x7 x8 x9 K σ_21))))))))))
def l_X7_struck_85 (N : Nat) (Q : Int32 → kS → Prop) (x1 : Int32) (x2 : Int32) (x3 : Int32) (x4 : Int32) (x6 : Int32) (x7 : Int32) (E190 : Int32 → kS → Prop) : Nat → Int32 → Int32 → kS → Prop
  | 0 => fun _ _ _ => False
  | n + 1 => b_X7_struck_85 N Q x1 x2 x3 x4 x6 x7 E190 (l_X7_struck_85 N Q x1 x2 x3 x4 x6 x7 E190 n)
set_option maxHeartbeats 4000000 in
set_option maxRecDepth 100000 in
theorem sb_X7_struck_85 {X : kX} {g : kG} {N : Nat} {Q : Int32 → kS → Prop} (hc : kOk X g RX7 cX7_struck 13 (some .int) 2) (hZ : kRi X g cX7_struck Q) {x1 : Int32} {x2 : Int32} {x3 : Int32} {x4 : Int32} {x6 : Int32} {x7 : Int32} {E190 : Int32 → kS → Prop} (hE190 : ∀ (x8 : Int32) (τ : kS), E190 x8 τ → kP X g 13 190 [(0, kz g 55), (1, .int x1), (2, .int x2), (3, .int x3), (4, .int x4), (6, .int x6), (7, .int x7), (8, .int x8)] [] τ) {K : Int32 → Int32 → kS → Prop} (hK : ∀ (x8 : Int32) (x9 : Int32) (τ : kS), K x8 x9 τ → kP X g 13 85 [(0, kz g 55), (1, .int x1), (2, .int x2), (3, .int x3), (4, .int x4), (6, .int x6), (7, .int x7), (8, .int x8), (9, .int x9)] [] τ) {x8 : Int32} {x9 : Int32} {σ : kS} (h : b_X7_struck_85 N Q x1 x2 x3 x4 x6 x7 E190 K x8 x9 σ) : kP X g 13 85 [(0, kz g 55), (1, .int x1), (2, .int x2), (3, .int x3), (4, .int x4), (6, .int x6), (7, .int x7), (8, .int x8), (9, .int x9)] [] σ := by
  unfold b_X7_struck_85 at h
  refine r_iload hc 8 dX7_struck_85 rfl ?_
  refine r_iload_n hc 3 dX7_struck_87 rfl ?_
  refine r_ic_ge hc 190 dX7_struck_88 (by decide) (fun q => ?_) (fun q => ?_)
  · have h := kif_t h q
    refine r_sub [0, 1, 2, 3, 4, 5, 6, 7] rfl ?_
    exact hE190 _ _ h
  · have h := kif_f h q
    refine r_aload_n hc 0 dX7_struck_91 rfl ?_
    refine gf_X7_2 hc lf_X7_16 dX7_struck_92 ?_
    refine r_bipush (v := 40) hc dX7_struck_95 rfl ?_
    refine r_iload_n hc 1 dX7_struck_97 rfl ?_
    refine r_imul hc dX7_struck_98 ?_
    refine r_iload_n hc 2 dX7_struck_99 rfl ?_
    refine r_iadd hc dX7_struck_100 ?_
    refine r_iconst (v := 2) hc dX7_struck_101 rfl ?_
    refine r_iload hc 8 dX7_struck_102 rfl ?_
    refine r_imul hc dX7_struck_104 ?_
    refine r_iadd hc dX7_struck_105 ?_
    obtain ⟨hi_10, h⟩ := h
    refine r_iald hc kia_58 hi_10 dX7_struck_106 ?_
    refine r_nmI (fun x10_11 ex10_11 => ?_)
    have h := h x10_11 ex10_11
    refine r_istore hc [(10, .int x10_11), (0, kz g 55), (1, .int x1), (2, .int x2), (3, .int x3), (4, .int x4), (6, .int x6), (7, .int x7), (8, .int x8), (9, .int x9)] dX7_struck_107 (by decide) rfl ?_
    refine r_aload_n hc 1 dX7_struck_109 rfl ?_
    refine gf_X7_2 hc lf_X7_16 dX7_struck_110 ?_
    refine r_bipush (v := 40) hc dX7_struck_113 rfl ?_
    refine r_iload_n hc 2 dX7_struck_115 rfl ?_
    refine r_imul hc dX7_struck_116 ?_
    refine r_iload_n hc 3 dX7_struck_117 rfl ?_
    refine r_iadd hc dX7_struck_118 ?_
    refine r_iconst (v := 2) hc dX7_struck_119 rfl ?_
    refine r_iload hc 9 dX7_struck_120 rfl ?_
    refine r_imul hc dX7_struck_122 ?_
    refine r_iadd hc dX7_struck_123 ?_
    refine r_iconst (v := 1) hc dX7_struck_124 rfl ?_
    refine r_iadd hc dX7_struck_125 ?_
    obtain ⟨hi_12, h⟩ := h
    refine r_iald hc kia_58 hi_12 dX7_struck_126 ?_
    refine r_nmI (fun x11_13 ex11_13 => ?_)
    have h := h x11_13 ex11_13
    refine r_istore hc [(11, .int x11_13), (10, .int x10_11), (0, kz g 55), (1, .int x1), (2, .int x2), (3, .int x3), (4, .int x4), (6, .int x6), (7, .int x7), (8, .int x8), (9, .int x9)] dX7_struck_127 (by decide) rfl ?_
    refine r_iload hc 1 dX7_struck_129 rfl ?_
    refine r_i2l hc dX7_struck_131 ?_
    refine r_lconst (v := 0) hc dX7_struck_132 rfl ?_
    refine r_aload_n hc 2 dX7_struck_133 rfl ?_
    refine gf_X7_5 hc lf_X7_19 dX7_struck_134 ?_
    refine r_iconst (v := 0) hc dX7_struck_137 rfl ?_
    obtain ⟨hi_14, h⟩ := h
    refine r_iald hc kia_59 hi_14 dX7_struck_138 ?_
    refine r_iconst (v := 1) hc dX7_struck_139 rfl ?_
    refine r_isub hc dX7_struck_140 ?_
    refine r_i2l hc dX7_struck_141 ?_
    refine r_callSi (d := 0) hc (m_X7_in h) cw_X7_in wt_X7_in lm_X7_57 (by decide) (by decide) rfl rfl (Nat.le_of_ble_eq_true rfl) dX7_struck_142 (fun r_16 σ_15 h => ?_)
    refine r_if_eq hc 166 dX7_struck_145 (by decide) (fun q => ?_) (fun q => ?_)
    · have h := kif_t h q
      refine r_sub [2, 3, 4, 5, 6, 7, 8, 9, 10] rfl ?_
      exact sj_X7_struck_166 hc hZ hK h
    · have h := kif_f h q
      refine r_iload hc 0 dX7_struck_148 rfl ?_
      refine r_aload_n hc 2 dX7_struck_150 rfl ?_
      refine r_iload hc 1 dX7_struck_151 rfl ?_
      refine r_iload hc 8 dX7_struck_153 rfl ?_
      refine r_iadd hc dX7_struck_155 ?_
      refine r_callVi (d := 0) hc (m_X7_over h) cw_X7_over wi_X7_over ws_X7_over lm_X7_146 (by decide) (by decide) rv_X7 rfl rfl (Nat.le_of_ble_eq_true rfl) dX7_struck_156 (fun r_22 σ_21 h => ?_)
      refine r_ic_ne hc 166 dX7_struck_159 (by decide) (fun q => ?_) (fun q => ?_)
      · have h := kif_t h q
        refine r_iconst (v := 1) hc dX7_struck_162 rfl ?_
        refine r_goto hc 167 dX7_struck_163 (by decide) ?_
        refine r_sub [2, 3, 4, 5, 6, 7, 8, 9, 10] rfl ?_
        exact sj_X7_struck_167 hc hZ hK h
      · have h := kif_f h q
        refine r_sub [2, 3, 4, 5, 6, 7, 8, 9, 10] rfl ?_
        exact sj_X7_struck_166 hc hZ hK h
theorem sl_X7_struck_85 {X : kX} {g : kG} {N : Nat} {Q : Int32 → kS → Prop} (hc : kOk X g RX7 cX7_struck 13 (some .int) 2) (hZ : kRi X g cX7_struck Q) {x1 : Int32} {x2 : Int32} {x3 : Int32} {x4 : Int32} {x6 : Int32} {x7 : Int32} {E190 : Int32 → kS → Prop} (hE190 : ∀ (x8 : Int32) (τ : kS), E190 x8 τ → kP X g 13 190 [(0, kz g 55), (1, .int x1), (2, .int x2), (3, .int x3), (4, .int x4), (6, .int x6), (7, .int x7), (8, .int x8)] [] τ) : ∀ (n : Nat) (x8 : Int32) (x9 : Int32) (σ : kS), l_X7_struck_85 N Q x1 x2 x3 x4 x6 x7 E190 n x8 x9 σ → kP X g 13 85 [(0, kz g 55), (1, .int x1), (2, .int x2), (3, .int x3), (4, .int x4), (6, .int x6), (7, .int x7), (8, .int x8), (9, .int x9)] [] σ := by
  intro n
  induction n with
  | zero => intro x8 x9 σ h; exact h.elim
  | succ n ih => intro x8 x9 σ h; exact sb_X7_struck_85 hc hZ hE190 ih h
def b_X7_struck_68 (N : Nat) (Q : Int32 → kS → Prop) (x1 : Int32) (x2 : Int32) (x3 : Int32) (x4 : Int32) (E216 : Int32 → kS → Prop) (K : Int32 → Int32 → kS → Prop) (x6 : Int32) (x7 : Int32) (σ : kS) : Prop :=
  vp_in 0 57 ∧ (if (σ 59 (0 : Int32).toNatClampNeg) ≤ x7 then (E216 x6 σ) else (l_X7_struck_85 N Q x1 x2 x3 x4 x6 x7 (fun (x8_23 : Int32) (σ_24 : kS) => if x4 < x8_23 then (∀ x6_25 : Int32, x6_25 = x6 ||| 0 → (∀ x7_26 : Int32, x7_26 = x7 + 1 → (K x6_25 x7_26 σ_24))) else (∀ x6_27 : Int32, x6_27 = x6 ||| (1 <<< (x7 &&& 31)) → (∀ x7_28 : Int32, x7_28 = x7 + 1 → (K x6_27 x7_28 σ_24)))) N 0 0 σ))
def l_X7_struck_68 (N : Nat) (Q : Int32 → kS → Prop) (x1 : Int32) (x2 : Int32) (x3 : Int32) (x4 : Int32) (E216 : Int32 → kS → Prop) : Nat → Int32 → Int32 → kS → Prop
  | 0 => fun _ _ _ => False
  | n + 1 => b_X7_struck_68 N Q x1 x2 x3 x4 E216 (l_X7_struck_68 N Q x1 x2 x3 x4 E216 n)
set_option maxHeartbeats 4000000 in
set_option maxRecDepth 100000 in
theorem sb_X7_struck_68 {X : kX} {g : kG} {N : Nat} {Q : Int32 → kS → Prop} (hc : kOk X g RX7 cX7_struck 13 (some .int) 2) (hZ : kRi X g cX7_struck Q) {x1 : Int32} {x2 : Int32} {x3 : Int32} {x4 : Int32} {E216 : Int32 → kS → Prop} (hE216 : ∀ (x6 : Int32) (τ : kS), E216 x6 τ → kP X g 13 216 [(0, kz g 55), (6, .int x6)] [] τ) {K : Int32 → Int32 → kS → Prop} (hK : ∀ (x6 : Int32) (x7 : Int32) (τ : kS), K x6 x7 τ → kP X g 13 68 [(0, kz g 55), (1, .int x1), (2, .int x2), (3, .int x3), (4, .int x4), (6, .int x6), (7, .int x7)] [] τ) {x6 : Int32} {x7 : Int32} {σ : kS} (h : b_X7_struck_68 N Q x1 x2 x3 x4 E216 K x6 x7 σ) : kP X g 13 68 [(0, kz g 55), (1, .int x1), (2, .int x2), (3, .int x3), (4, .int x4), (6, .int x6), (7, .int x7)] [] σ := by
  unfold b_X7_struck_68 at h
  refine r_iload hc 6 dX7_struck_68 rfl ?_
  refine r_aload_n hc 0 dX7_struck_70 rfl ?_
  refine gf_X7_5 hc lf_X7_19 dX7_struck_71 ?_
  refine r_iconst (v := 0) hc dX7_struck_74 rfl ?_
  obtain ⟨hi_9, h⟩ := h
  refine r_iald hc kia_59 hi_9 dX7_struck_75 ?_
  refine r_ic_ge hc 216 dX7_struck_76 (by decide) (fun q => ?_) (fun q => ?_)
  · have h := kif_t h q
    refine r_sub [0, 5] rfl ?_
    exact hE216 _ _ h
  · have h := kif_f h q
    refine r_iconst (v := 0) hc dX7_struck_79 rfl ?_
    refine r_istore hc [(8, .int 0), (0, kz g 55), (1, .int x1), (2, .int x2), (3, .int x3), (4, .int x4), (6, .int x6), (7, .int x7)] dX7_struck_80 (by decide) rfl ?_
    refine r_iconst (v := 0) hc dX7_struck_82 rfl ?_
    refine r_istore hc [(9, .int 0), (8, .int 0), (0, kz g 55), (1, .int x1), (2, .int x2), (3, .int x3), (4, .int x4), (6, .int x6), (7, .int x7)] dX7_struck_83 (by decide) rfl ?_
    refine r_sub [2, 3, 4, 5, 6, 7, 8, 1, 0] rfl ?_
    refine sl_X7_struck_85 hc hZ (fun x8_23 σ_24 h => ?_) _ _ _ _ h
    refine r_iload hc 5 dX7_struck_190 rfl ?_
    refine r_iload hc 7 dX7_struck_192 rfl ?_
    refine r_iload hc 4 dX7_struck_194 rfl ?_
    refine r_ic_gt hc 206 dX7_struck_196 (by decide) (fun q => ?_) (fun q => ?_)
    · have h := kif_t h q
      refine r_iconst (v := 0) hc dX7_struck_206 rfl ?_
      refine r_ior hc dX7_struck_207 ?_
      refine r_nmI (fun x6_25 ex6_25 => ?_)
      have h := h x6_25 ex6_25
      refine r_istore hc [(6, .int x6_25), (0, kz g 55), (1, .int x1), (2, .int x2), (3, .int x3), (4, .int x4), (7, .int x7), (8, .int x8_23)] dX7_struck_208 (by decide) rfl ?_
      obtain ⟨x7_26, ex7_26⟩ : ∃ v : Int32, v = x7 + 1 := ⟨_, rfl⟩
      have h := h x7_26 ex7_26
      refine r_iinc (v := x7_26) hc 6 [(7, .int x7_26), (6, .int x6_25), (0, kz g 55), (1, .int x1), (2, .int x2), (3, .int x3), (4, .int x4), (8, .int x8_23)] dX7_struck_210 rfl (by rw [ex7_26]; rfl) (by decide) rfl ?_
      refine r_goto hc 68 dX7_struck_213 (by decide) ?_
      refine r_sub [2, 3, 4, 5, 6, 1, 0] rfl ?_
      exact hK _ _ _ h
    · have h := kif_f h q
      refine r_iconst (v := 1) hc dX7_struck_199 rfl ?_
      refine r_iload hc 6 dX7_struck_200 rfl ?_
      refine r_ishl hc dX7_struck_202 ?_
      refine r_goto hc 207 dX7_struck_203 (by decide) ?_
      refine r_ior hc dX7_struck_207 ?_
      refine r_nmI (fun x6_27 ex6_27 => ?_)
      have h := h x6_27 ex6_27
      refine r_istore hc [(6, .int x6_27), (0, kz g 55), (1, .int x1), (2, .int x2), (3, .int x3), (4, .int x4), (7, .int x7), (8, .int x8_23)] dX7_struck_208 (by decide) rfl ?_
      obtain ⟨x7_28, ex7_28⟩ : ∃ v : Int32, v = x7 + 1 := ⟨_, rfl⟩
      have h := h x7_28 ex7_28
      refine r_iinc (v := x7_28) hc 6 [(7, .int x7_28), (6, .int x6_27), (0, kz g 55), (1, .int x1), (2, .int x2), (3, .int x3), (4, .int x4), (8, .int x8_23)] dX7_struck_210 rfl (by rw [ex7_28]; rfl) (by decide) rfl ?_
      refine r_goto hc 68 dX7_struck_213 (by decide) ?_
      refine r_sub [2, 3, 4, 5, 6, 1, 0] rfl ?_
      exact hK _ _ _ h
theorem sl_X7_struck_68 {X : kX} {g : kG} {N : Nat} {Q : Int32 → kS → Prop} (hc : kOk X g RX7 cX7_struck 13 (some .int) 2) (hZ : kRi X g cX7_struck Q) {x1 : Int32} {x2 : Int32} {x3 : Int32} {x4 : Int32} {E216 : Int32 → kS → Prop} (hE216 : ∀ (x6 : Int32) (τ : kS), E216 x6 τ → kP X g 13 216 [(0, kz g 55), (6, .int x6)] [] τ) : ∀ (n : Nat) (x6 : Int32) (x7 : Int32) (σ : kS), l_X7_struck_68 N Q x1 x2 x3 x4 E216 n x6 x7 σ → kP X g 13 68 [(0, kz g 55), (1, .int x1), (2, .int x2), (3, .int x3), (4, .int x4), (6, .int x6), (7, .int x7)] [] σ := by
  intro n
  induction n with
  | zero => intro x6 x7 σ h; exact h.elim
  | succ n ih => intro x6 x7 σ h; exact sb_X7_struck_68 hc hZ hE216 ih h
def w_X7_struck (N : Nat) (σ : kS) (x1 : Int32) (x2 : Int32) (x3 : Int32) (x4 : Int32) (Q : Int32 → kS → Prop) : Prop :=
  if (σ 55 4) = 0 then (Q (-1000002) σ) else (w_X7_isRow N σ x1 (fun (r_2 : Int32) (σ_1 : kS) => if r_2 = 0 then (Q (-1000001) σ_1) else (w_X7_in N σ_1 (x3.toInt64) 1 12 (fun (r_4 : Int32) (σ_3 : kS) => if r_4 = 0 then (Q (-1000001) σ_3) else (w_X7_in N σ_3 (x4.toInt64) 0 1 (fun (r_6 : Int32) (σ_5 : kS) => if r_6 = 0 then (Q (-1000001) σ_5) else (w_X7_lacks N σ_5 x1 x2 (2 * x3) (fun (r_8 : Int32) (σ_7 : kS) => if 0 ≤ r_8 then (l_X7_struck_68 N Q x1 x2 x3 x4 (fun (x6_29 : Int32) (σ_30 : kS) => w_X7_well N σ_30 x6_29 (fun (r_32 : Int32) (σ_31 : kS) => Q r_32 σ_31)) N 0 0 σ_7) else (Q r_8 σ_7)))))))))
set_option maxHeartbeats 4000000 in
set_option maxRecDepth 100000 in
theorem s_X7_struck {X : kX} {g : kG} {N : Nat} {Q : Int32 → kS → Prop} (hc : kOk X g RX7 cX7_struck 13 (some .int) 2) (hZ : kRi X g cX7_struck Q) {σ : kS} {x1 : Int32} {x2 : Int32} {x3 : Int32} {x4 : Int32} (h : w_X7_struck N σ x1 x2 x3 x4 Q) : kP X g 13 0 [(0, kz g 55), (1, .int x1), (2, .int x2), (3, .int x3), (4, .int x4)] [] σ := by
  unfold w_X7_struck at h
  refine r_aload_n hc 0 dX7_struck_0 rfl ?_
  refine gf_X7_4 hc lf_X7_138 dX7_struck_1 ?_
  refine r_if_ne hc 10 dX7_struck_4 (by decide) (fun q => ?_) (fun q => ?_)
  · have h := kif_t h q
    refine r_ldc hc lk_X7_145 dX7_struck_7 ?_
    exact r_iret (ls0 := []) hZ dX7_struck_9 h
  · have h := kif_f h q
    refine r_iload_n hc 1 dX7_struck_10 rfl ?_
    refine r_callSi (d := 1) hc (m_X7_isRow h) cw_X7_isRow wt_X7_isRow lm_X7_61 (by decide) (by decide) rfl rfl (Nat.le_of_ble_eq_true rfl) dX7_struck_11 (fun r_2 σ_1 h => ?_)
    refine r_if_eq hc 40 dX7_struck_14 (by decide) (fun q => ?_) (fun q => ?_)
    · have h := kif_t h q
      refine r_ldc hc lk_X7_67 dX7_struck_40 ?_
      exact r_iret (ls0 := []) hZ dX7_struck_42 h
    · have h := kif_f h q
      refine r_iload_n hc 3 dX7_struck_17 rfl ?_
      refine r_i2l hc dX7_struck_18 ?_
      refine r_lconst (v := 1) hc dX7_struck_19 rfl ?_
      refine r_ldc2_w hc lK_X7_189 dX7_struck_20 ?_
      refine r_callSi (d := 0) hc (m_X7_in h) cw_X7_in wt_X7_in lm_X7_57 (by decide) (by decide) rfl rfl (Nat.le_of_ble_eq_true rfl) dX7_struck_23 (fun r_4 σ_3 h => ?_)
      refine r_if_eq hc 40 dX7_struck_26 (by decide) (fun q => ?_) (fun q => ?_)
      · have h := kif_t h q
        refine r_ldc hc lk_X7_67 dX7_struck_40 ?_
        exact r_iret (ls0 := []) hZ dX7_struck_42 h
      · have h := kif_f h q
        refine r_iload hc 4 dX7_struck_29 rfl ?_
        refine r_i2l hc dX7_struck_31 ?_
        refine r_lconst (v := 0) hc dX7_struck_32 rfl ?_
        refine r_lconst (v := 1) hc dX7_struck_33 rfl ?_
        refine r_callSi (d := 0) hc (m_X7_in h) cw_X7_in wt_X7_in lm_X7_57 (by decide) (by decide) rfl rfl (Nat.le_of_ble_eq_true rfl) dX7_struck_34 (fun r_6 σ_5 h => ?_)
        refine r_if_ne hc 43 dX7_struck_37 (by decide) (fun q => ?_) (fun q => ?_)
        · have h := kif_t h q
          refine r_ldc hc lk_X7_67 dX7_struck_40 ?_
          exact r_iret (ls0 := []) hZ dX7_struck_42 h
        · have h := kif_f h q
          refine r_aload_n hc 0 dX7_struck_43 rfl ?_
          refine r_iload_n hc 1 dX7_struck_44 rfl ?_
          refine r_iload_n hc 2 dX7_struck_45 rfl ?_
          refine r_iconst (v := 2) hc dX7_struck_46 rfl ?_
          refine r_iload_n hc 3 dX7_struck_47 rfl ?_
          refine r_imul hc dX7_struck_48 ?_
          refine r_callVi (d := 1) hc (m_X7_lacks h) cw_X7_lacks wi_X7_lacks ws_X7_lacks lm_X7_191 (by decide) (by decide) rv_X7 rfl rfl (Nat.le_of_ble_eq_true rfl) dX7_struck_49 (fun r_8 σ_7 h => ?_)
          refine r_istore hc [(5, .int r_8), (0, kz g 55), (1, .int x1), (2, .int x2), (3, .int x3), (4, .int x4)] dX7_struck_52 (by decide) rfl ?_
          refine r_iload hc 0 dX7_struck_54 rfl ?_
          refine r_if_ge hc 62 dX7_struck_56 (by decide) (fun q => ?_) (fun q => ?_)
          · have h := kif_t h q
            refine r_iconst (v := 0) hc dX7_struck_62 rfl ?_
            refine r_istore hc [(6, .int 0), (5, .int r_8), (0, kz g 55), (1, .int x1), (2, .int x2), (3, .int x3), (4, .int x4)] dX7_struck_63 (by decide) rfl ?_
            refine r_iconst (v := 0) hc dX7_struck_65 rfl ?_
            refine r_istore hc [(7, .int 0), (6, .int 0), (5, .int r_8), (0, kz g 55), (1, .int x1), (2, .int x2), (3, .int x3), (4, .int x4)] dX7_struck_66 (by decide) rfl ?_
            refine r_sub [3, 4, 5, 6, 7, 1, 0] rfl ?_
            refine sl_X7_struck_68 hc hZ (fun x6_29 σ_30 h => ?_) _ _ _ _ h
            refine r_aload_n hc 0 dX7_struck_216 rfl ?_
            refine r_iload hc 1 dX7_struck_217 rfl ?_
            refine r_callVi (d := 0) hc (m_X7_well h) cw_X7_well wi_X7_well ws_X7_well lm_X7_72 (by decide) (by decide) rv_X7 rfl rfl (Nat.le_of_ble_eq_true rfl) dX7_struck_219 (fun r_32 σ_31 h => ?_)
            exact r_iret (ls0 := []) hZ dX7_struck_222 h
          · have h := kif_f h q
            refine r_iload hc 0 dX7_struck_59 rfl ?_
            exact r_iret (ls0 := []) hZ dX7_struck_61 h
theorem m_X7_struck {l : Launch} {g : kG} {N : Nat} {σ : kS} {x1 : Int32} {x2 : Int32} {x3 : Int32} {x4 : Int32} {Q : Int32 → kS → Prop} (h : w_X7_struck N σ x1 x2 x3 x4 Q) : kMi l g yX7_struck cX7_struck 13 (some .int) 2 [kz g 55, .int x1, .int x2, .int x3, .int x4] σ Q :=
  k_met_i (by decide +kernel) rfl (Nat.le_of_ble_eq_true rfl) (fun X hl hc hZ => s_X7_struck hc hZ h)
def j_X7_isLesson_70 (N : Nat) (Q : Int32 → kS → Prop) (x1 : Int32) (x2 : Int32) (x3 : Int32) (x4 : Int32) (x5 : Int32) (x6 : Int32) (s0 : Int32) (K : Int32 → Int32 → kS → Prop) (σ : kS) : Prop :=
  if x5 = 0 then (vp_in (42 + x6) 57 ∧ (w_X7_biasBy N σ (σ 59 (42 + x6).toNatClampNeg) s0 (fun (r_9 : Int32) (σ_8 : kS) => w_X7_shiftIn N σ_8 x4 (fun (r_11 : Int32) (σ_10 : kS) => if r_9 = r_11 then (∀ x6_12 : Int32, x6_12 = x6 + 1 → (K 1 x6_12 σ_10)) else (∀ x6_13 : Int32, x6_13 = x6 + 1 → (K 0 x6_13 σ_10)))))) else (∀ x6_14 : Int32, x6_14 = x6 + 1 → (K 1 x6_14 σ))
set_option maxHeartbeats 4000000 in
set_option maxRecDepth 100000 in
theorem sj_X7_isLesson_70 {X : kX} {g : kG} {N : Nat} {Q : Int32 → kS → Prop} (hc : kOk X g RX7 cX7_isLesson 8 (some .boolean) 2) (hZ : kRz X g cX7_isLesson Q) {x1 : Int32} {x2 : Int32} {x3 : Int32} {x4 : Int32} {x5 : Int32} {x6 : Int32} {s0 : Int32} {K : Int32 → Int32 → kS → Prop} (hK : ∀ (x5 : Int32) (x6 : Int32) (τ : kS), K x5 x6 τ → kP X g 8 31 [(0, kz g 55), (1, .int x1), (2, .int x2), (3, .int x3), (4, .int x4), (5, .int x5), (6, .int x6)] [] τ) {σ : kS} (h : j_X7_isLesson_70 N Q x1 x2 x3 x4 x5 x6 s0 K σ) : kP X g 8 70 [(0, kz g 55), (1, .int x1), (2, .int x2), (3, .int x3), (4, .int x4), (5, .int x5), (6, .int x6)] [.int s0] σ := by
  unfold j_X7_isLesson_70 at h
  refine r_istore hc [(7, .int s0), (0, kz g 55), (1, .int x1), (2, .int x2), (3, .int x3), (4, .int x4), (5, .int x5), (6, .int x6)] dX7_isLesson_70 (by decide) rfl ?_
  refine r_iload hc 6 dX7_isLesson_72 rfl ?_
  refine r_if_ne hc 102 dX7_isLesson_74 (by decide) (fun q => ?_) (fun q => ?_)
  · have h := kif_t h q
    refine r_aload_n hc 1 dX7_isLesson_77 rfl ?_
    refine r_aload_n hc 1 dX7_isLesson_78 rfl ?_
    refine gf_X7_5 hc lf_X7_19 dX7_isLesson_79 ?_
    refine r_bipush (v := 42) hc dX7_isLesson_82 rfl ?_
    refine r_iload hc 7 dX7_isLesson_84 rfl ?_
    refine r_iadd hc dX7_isLesson_86 ?_
    obtain ⟨hi_7, h⟩ := h
    refine r_iald hc kia_59 hi_7 dX7_isLesson_87 ?_
    refine r_iload hc 0 dX7_isLesson_88 rfl ?_
    refine r_callVi (d := 1) hc (m_X7_biasBy h) cw_X7_biasBy wi_X7_biasBy ws_X7_biasBy lm_X7_166 (by decide) (by decide) rv_X7 rfl rfl (Nat.le_of_ble_eq_true rfl) dX7_isLesson_90 (fun r_9 σ_8 h => ?_)
    refine r_aload_n hc 1 dX7_isLesson_93 rfl ?_
    refine r_iload hc 5 dX7_isLesson_94 rfl ?_
    refine r_callVi (d := 1) hc (m_X7_shiftIn h) cw_X7_shiftIn wi_X7_shiftIn ws_X7_shiftIn lm_X7_154 (by decide) (by decide) rv_X7 rfl rfl (Nat.le_of_ble_eq_true rfl) dX7_isLesson_96 (fun r_11 σ_10 h => ?_)
    refine r_ic_ne hc 106 dX7_isLesson_99 (by decide) (fun q => ?_) (fun q => ?_)
    · have h := kif_t h q
      refine r_iconst (v := 1) hc dX7_isLesson_102 rfl ?_
      refine r_goto hc 107 dX7_isLesson_103 (by decide) ?_
      refine r_istore hc [(5, .int 1), (7, .int s0), (0, kz g 55), (1, .int x1), (2, .int x2), (3, .int x3), (4, .int x4), (6, .int x6)] dX7_isLesson_107 (by decide) rfl ?_
      obtain ⟨x6_12, ex6_12⟩ : ∃ v : Int32, v = x6 + 1 := ⟨_, rfl⟩
      have h := h x6_12 ex6_12
      refine r_iinc (v := x6_12) hc 7 [(6, .int x6_12), (5, .int 1), (7, .int s0), (0, kz g 55), (1, .int x1), (2, .int x2), (3, .int x3), (4, .int x4)] dX7_isLesson_109 rfl (by rw [ex6_12]; rfl) (by decide) rfl ?_
      refine r_goto hc 31 dX7_isLesson_112 (by decide) ?_
      refine r_sub [3, 4, 5, 6, 7, 1, 0] rfl ?_
      exact hK _ _ _ h
    · have h := kif_f h q
      refine r_iconst (v := 0) hc dX7_isLesson_106 rfl ?_
      refine r_istore hc [(5, .int 0), (7, .int s0), (0, kz g 55), (1, .int x1), (2, .int x2), (3, .int x3), (4, .int x4), (6, .int x6)] dX7_isLesson_107 (by decide) rfl ?_
      obtain ⟨x6_13, ex6_13⟩ : ∃ v : Int32, v = x6 + 1 := ⟨_, rfl⟩
      have h := h x6_13 ex6_13
      refine r_iinc (v := x6_13) hc 7 [(6, .int x6_13), (5, .int 0), (7, .int s0), (0, kz g 55), (1, .int x1), (2, .int x2), (3, .int x3), (4, .int x4)] dX7_isLesson_109 rfl (by rw [ex6_13]; rfl) (by decide) rfl ?_
      refine r_goto hc 31 dX7_isLesson_112 (by decide) ?_
      refine r_sub [3, 4, 5, 6, 7, 1, 0] rfl ?_
      exact hK _ _ _ h
  · have h := kif_f h q
    refine r_iconst (v := 1) hc dX7_isLesson_102 rfl ?_
    refine r_goto hc 107 dX7_isLesson_103 (by decide) ?_
    refine r_istore hc [(5, .int 1), (7, .int s0), (0, kz g 55), (1, .int x1), (2, .int x2), (3, .int x3), (4, .int x4), (6, .int x6)] dX7_isLesson_107 (by decide) rfl ?_
    obtain ⟨x6_14, ex6_14⟩ : ∃ v : Int32, v = x6 + 1 := ⟨_, rfl⟩
    have h := h x6_14 ex6_14
    refine r_iinc (v := x6_14) hc 7 [(6, .int x6_14), (5, .int 1), (7, .int s0), (0, kz g 55), (1, .int x1), (2, .int x2), (3, .int x3), (4, .int x4)] dX7_isLesson_109 rfl (by rw [ex6_14]; rfl) (by decide) rfl ?_
    refine r_goto hc 31 dX7_isLesson_112 (by decide) ?_
    refine r_sub [3, 4, 5, 6, 7, 1, 0] rfl ?_
    exact hK _ _ _ h
def b_X7_isLesson_31 (N : Nat) (Q : Int32 → kS → Prop) (x1 : Int32) (x2 : Int32) (x3 : Int32) (x4 : Int32) (E115 : Int32 → kS → Prop) (K : Int32 → Int32 → kS → Prop) (x5 : Int32) (x6 : Int32) (σ : kS) : Prop :=
  vp_in 4 57 ∧ (if (σ 59 (4 : Int32).toNatClampNeg) ≤ x6 then (E115 x5 σ) else (w_X7_has N σ x2 x6 (fun (r_5 : Int32) (σ_4 : kS) => if r_5 = 0 then (vp_in (47 + x6) 57 ∧ (j_X7_isLesson_70 N Q x1 x2 x3 x4 x5 x6 (σ_4 59 (47 + x6).toNatClampNeg) K σ_4)) else (vp_in 2 57 ∧ (j_X7_isLesson_70 N Q x1 x2 x3 x4 x5 x6 (σ_4 59 (2 : Int32).toNatClampNeg) K σ_4)))))
def l_X7_isLesson_31 (N : Nat) (Q : Int32 → kS → Prop) (x1 : Int32) (x2 : Int32) (x3 : Int32) (x4 : Int32) (E115 : Int32 → kS → Prop) : Nat → Int32 → Int32 → kS → Prop
  | 0 => fun _ _ _ => False
  | n + 1 => b_X7_isLesson_31 N Q x1 x2 x3 x4 E115 (l_X7_isLesson_31 N Q x1 x2 x3 x4 E115 n)
set_option maxHeartbeats 4000000 in
set_option maxRecDepth 100000 in
theorem sb_X7_isLesson_31 {X : kX} {g : kG} {N : Nat} {Q : Int32 → kS → Prop} (hc : kOk X g RX7 cX7_isLesson 8 (some .boolean) 2) (hZ : kRz X g cX7_isLesson Q) {x1 : Int32} {x2 : Int32} {x3 : Int32} {x4 : Int32} {E115 : Int32 → kS → Prop} (hE115 : ∀ (x5 : Int32) (τ : kS), E115 x5 τ → kP X g 8 115 [(0, kz g 55), (1, .int x1), (2, .int x2), (3, .int x3), (4, .int x4), (5, .int x5)] [] τ) {K : Int32 → Int32 → kS → Prop} (hK : ∀ (x5 : Int32) (x6 : Int32) (τ : kS), K x5 x6 τ → kP X g 8 31 [(0, kz g 55), (1, .int x1), (2, .int x2), (3, .int x3), (4, .int x4), (5, .int x5), (6, .int x6)] [] τ) {x5 : Int32} {x6 : Int32} {σ : kS} (h : b_X7_isLesson_31 N Q x1 x2 x3 x4 E115 K x5 x6 σ) : kP X g 8 31 [(0, kz g 55), (1, .int x1), (2, .int x2), (3, .int x3), (4, .int x4), (5, .int x5), (6, .int x6)] [] σ := by
  unfold b_X7_isLesson_31 at h
  refine r_iload hc 6 dX7_isLesson_31 rfl ?_
  refine r_aload_n hc 0 dX7_isLesson_33 rfl ?_
  refine gf_X7_5 hc lf_X7_19 dX7_isLesson_34 ?_
  refine r_iconst (v := 4) hc dX7_isLesson_37 rfl ?_
  obtain ⟨hi_3, h⟩ := h
  refine r_iald hc kia_59 hi_3 dX7_isLesson_38 ?_
  refine r_ic_ge hc 115 dX7_isLesson_39 (by decide) (fun q => ?_) (fun q => ?_)
  · have h := kif_t h q
    refine r_sub [0, 1, 2, 3, 4, 5] rfl ?_
    exact hE115 _ _ h
  · have h := kif_f h q
    refine r_iload_n hc 2 dX7_isLesson_42 rfl ?_
    refine r_iload hc 6 dX7_isLesson_43 rfl ?_
    refine r_callSi (d := 0) hc (m_X7_has h) cw_X7_has wt_X7_has lm_X7_194 (by decide) (by decide) rfl rfl (Nat.le_of_ble_eq_true rfl) dX7_isLesson_45 (fun r_5 σ_4 h => ?_)
    refine r_if_eq hc 60 dX7_isLesson_48 (by decide) (fun q => ?_) (fun q => ?_)
    · have h := kif_t h q
      refine r_aload_n hc 0 dX7_isLesson_60 rfl ?_
      refine gf_X7_5 hc lf_X7_19 dX7_isLesson_61 ?_
      refine r_bipush (v := 47) hc dX7_isLesson_64 rfl ?_
      refine r_iload hc 6 dX7_isLesson_66 rfl ?_
      refine r_iadd hc dX7_isLesson_68 ?_
      obtain ⟨hi_6, h⟩ := h
      refine r_iald hc kia_59 hi_6 dX7_isLesson_69 ?_
      exact sj_X7_isLesson_70 hc hZ hK h
    · have h := kif_f h q
      refine r_aload_n hc 0 dX7_isLesson_51 rfl ?_
      refine gf_X7_5 hc lf_X7_19 dX7_isLesson_52 ?_
      refine r_iconst (v := 2) hc dX7_isLesson_55 rfl ?_
      obtain ⟨hi_15, h⟩ := h
      refine r_iald hc kia_59 hi_15 dX7_isLesson_56 ?_
      refine r_goto hc 70 dX7_isLesson_57 (by decide) ?_
      exact sj_X7_isLesson_70 hc hZ hK h
theorem sl_X7_isLesson_31 {X : kX} {g : kG} {N : Nat} {Q : Int32 → kS → Prop} (hc : kOk X g RX7 cX7_isLesson 8 (some .boolean) 2) (hZ : kRz X g cX7_isLesson Q) {x1 : Int32} {x2 : Int32} {x3 : Int32} {x4 : Int32} {E115 : Int32 → kS → Prop} (hE115 : ∀ (x5 : Int32) (τ : kS), E115 x5 τ → kP X g 8 115 [(0, kz g 55), (1, .int x1), (2, .int x2), (3, .int x3), (4, .int x4), (5, .int x5)] [] τ) : ∀ (n : Nat) (x5 : Int32) (x6 : Int32) (σ : kS), l_X7_isLesson_31 N Q x1 x2 x3 x4 E115 n x5 x6 σ → kP X g 8 31 [(0, kz g 55), (1, .int x1), (2, .int x2), (3, .int x3), (4, .int x4), (5, .int x5), (6, .int x6)] [] σ := by
  intro n
  induction n with
  | zero => intro x5 x6 σ h; exact h.elim
  | succ n ih => intro x5 x6 σ h; exact sb_X7_isLesson_31 hc hZ hE115 ih h
def b_X7_isLesson_5 (N : Nat) (Q : Int32 → kS → Prop) (x1 : Int32) (x2 : Int32) (K : Int32 → Int32 → kS → Prop) (x3 : Int32) (x4 : Int32) (σ : kS) : Prop :=
  if 24 ≤ x4 then ((x3 = 0 ∨ x3 = 1) ∧ Q x3 σ) else (w_X7_has N σ x1 x4 (fun (r_2 : Int32) (σ_1 : kS) => if r_2 = 0 then (l_X7_isLesson_31 N Q x1 x2 x3 x4 (fun (x5_16 : Int32) (σ_17 : kS) => if x3 = 0 then (∀ x4_18 : Int32, x4_18 = x4 + 1 → (K 0 x4_18 σ_17)) else (if x5_16 = 0 then (∀ x4_19 : Int32, x4_19 = x4 + 1 → (K 0 x4_19 σ_17)) else (∀ x4_20 : Int32, x4_20 = x4 + 1 → (K 1 x4_20 σ_17)))) N 1 0 σ_1) else (l_X7_isLesson_31 N Q x1 x2 x3 x4 (fun (x5_21 : Int32) (σ_22 : kS) => if x3 = 0 then (∀ x4_23 : Int32, x4_23 = x4 + 1 → (K 0 x4_23 σ_22)) else (if x5_21 = 0 then (∀ x4_24 : Int32, x4_24 = x4 + 1 → (K 0 x4_24 σ_22)) else (∀ x4_25 : Int32, x4_25 = x4 + 1 → (K 1 x4_25 σ_22)))) N 0 0 σ_1)))
def l_X7_isLesson_5 (N : Nat) (Q : Int32 → kS → Prop) (x1 : Int32) (x2 : Int32) : Nat → Int32 → Int32 → kS → Prop
  | 0 => fun _ _ _ => False
  | n + 1 => b_X7_isLesson_5 N Q x1 x2 (l_X7_isLesson_5 N Q x1 x2 n)
set_option maxHeartbeats 4000000 in
set_option maxRecDepth 100000 in
theorem sb_X7_isLesson_5 {X : kX} {g : kG} {N : Nat} {Q : Int32 → kS → Prop} (hc : kOk X g RX7 cX7_isLesson 8 (some .boolean) 2) (hZ : kRz X g cX7_isLesson Q) {x1 : Int32} {x2 : Int32} {K : Int32 → Int32 → kS → Prop} (hK : ∀ (x3 : Int32) (x4 : Int32) (τ : kS), K x3 x4 τ → kP X g 8 5 [(0, kz g 55), (1, .int x1), (2, .int x2), (3, .int x3), (4, .int x4)] [] τ) {x3 : Int32} {x4 : Int32} {σ : kS} (h : b_X7_isLesson_5 N Q x1 x2 K x3 x4 σ) : kP X g 8 5 [(0, kz g 55), (1, .int x1), (2, .int x2), (3, .int x3), (4, .int x4)] [] σ := by
  unfold b_X7_isLesson_5 at h
  refine r_iload hc 4 dX7_isLesson_5 rfl ?_
  refine r_bipush (v := 24) hc dX7_isLesson_7 rfl ?_
  refine r_ic_ge hc 136 dX7_isLesson_9 (by decide) (fun q => ?_) (fun q => ?_)
  · have h := kif_t h q
    refine r_iload_n hc 3 dX7_isLesson_136 rfl ?_
    exact r_zret (ls0 := []) hZ dX7_isLesson_137 h.1 h.2
  · have h := kif_f h q
    refine r_iload_n hc 1 dX7_isLesson_12 rfl ?_
    refine r_iload hc 4 dX7_isLesson_13 rfl ?_
    refine r_callSi (d := 0) hc (m_X7_has h) cw_X7_has wt_X7_has lm_X7_194 (by decide) (by decide) rfl rfl (Nat.le_of_ble_eq_true rfl) dX7_isLesson_15 (fun r_2 σ_1 h => ?_)
    refine r_if_ne hc 25 dX7_isLesson_18 (by decide) (fun q => ?_) (fun q => ?_)
    · have h := kif_t h q
      refine r_iconst (v := 1) hc dX7_isLesson_21 rfl ?_
      refine r_goto hc 26 dX7_isLesson_22 (by decide) ?_
      refine r_istore hc [(5, .int 1), (0, kz g 55), (1, .int x1), (2, .int x2), (3, .int x3), (4, .int x4)] dX7_isLesson_26 (by decide) rfl ?_
      refine r_iconst (v := 0) hc dX7_isLesson_28 rfl ?_
      refine r_istore hc [(6, .int 0), (5, .int 1), (0, kz g 55), (1, .int x1), (2, .int x2), (3, .int x3), (4, .int x4)] dX7_isLesson_29 (by decide) rfl ?_
      refine r_sub [2, 3, 4, 5, 6, 1, 0] rfl ?_
      refine sl_X7_isLesson_31 hc hZ (fun x5_16 σ_17 h => ?_) _ _ _ _ h
      refine r_iload_n hc 3 dX7_isLesson_115 rfl ?_
      refine r_if_eq hc 128 dX7_isLesson_116 (by decide) (fun q => ?_) (fun q => ?_)
      · have h := kif_t h q
        refine r_iconst (v := 0) hc dX7_isLesson_128 rfl ?_
        refine r_istore_n hc [(3, .int 0), (0, kz g 55), (1, .int x1), (2, .int x2), (4, .int x4), (5, .int x5_16)] dX7_isLesson_129 (by decide) rfl ?_
        obtain ⟨x4_18, ex4_18⟩ : ∃ v : Int32, v = x4 + 1 := ⟨_, rfl⟩
        have h := h x4_18 ex4_18
        refine r_iinc (v := x4_18) hc 4 [(4, .int x4_18), (3, .int 0), (0, kz g 55), (1, .int x1), (2, .int x2), (5, .int x5_16)] dX7_isLesson_130 rfl (by rw [ex4_18]; rfl) (by decide) rfl ?_
        refine r_goto hc 5 dX7_isLesson_133 (by decide) ?_
        refine r_sub [2, 3, 4, 1, 0] rfl ?_
        exact hK _ _ _ h
      · have h := kif_f h q
        refine r_iload hc 5 dX7_isLesson_119 rfl ?_
        refine r_if_eq hc 128 dX7_isLesson_121 (by decide) (fun q => ?_) (fun q => ?_)
        · have h := kif_t h q
          refine r_iconst (v := 0) hc dX7_isLesson_128 rfl ?_
          refine r_istore_n hc [(3, .int 0), (0, kz g 55), (1, .int x1), (2, .int x2), (4, .int x4), (5, .int x5_16)] dX7_isLesson_129 (by decide) rfl ?_
          obtain ⟨x4_19, ex4_19⟩ : ∃ v : Int32, v = x4 + 1 := ⟨_, rfl⟩
          have h := h x4_19 ex4_19
          refine r_iinc (v := x4_19) hc 4 [(4, .int x4_19), (3, .int 0), (0, kz g 55), (1, .int x1), (2, .int x2), (5, .int x5_16)] dX7_isLesson_130 rfl (by rw [ex4_19]; rfl) (by decide) rfl ?_
          refine r_goto hc 5 dX7_isLesson_133 (by decide) ?_
          refine r_sub [2, 3, 4, 1, 0] rfl ?_
          exact hK _ _ _ h
        · have h := kif_f h q
          refine r_iconst (v := 1) hc dX7_isLesson_124 rfl ?_
          refine r_goto hc 129 dX7_isLesson_125 (by decide) ?_
          refine r_istore_n hc [(3, .int 1), (0, kz g 55), (1, .int x1), (2, .int x2), (4, .int x4), (5, .int x5_16)] dX7_isLesson_129 (by decide) rfl ?_
          obtain ⟨x4_20, ex4_20⟩ : ∃ v : Int32, v = x4 + 1 := ⟨_, rfl⟩
          have h := h x4_20 ex4_20
          refine r_iinc (v := x4_20) hc 4 [(4, .int x4_20), (3, .int 1), (0, kz g 55), (1, .int x1), (2, .int x2), (5, .int x5_16)] dX7_isLesson_130 rfl (by rw [ex4_20]; rfl) (by decide) rfl ?_
          refine r_goto hc 5 dX7_isLesson_133 (by decide) ?_
          refine r_sub [2, 3, 4, 1, 0] rfl ?_
          exact hK _ _ _ h
    · have h := kif_f h q
      refine r_iconst (v := 0) hc dX7_isLesson_25 rfl ?_
      refine r_istore hc [(5, .int 0), (0, kz g 55), (1, .int x1), (2, .int x2), (3, .int x3), (4, .int x4)] dX7_isLesson_26 (by decide) rfl ?_
      refine r_iconst (v := 0) hc dX7_isLesson_28 rfl ?_
      refine r_istore hc [(6, .int 0), (5, .int 0), (0, kz g 55), (1, .int x1), (2, .int x2), (3, .int x3), (4, .int x4)] dX7_isLesson_29 (by decide) rfl ?_
      refine r_sub [2, 3, 4, 5, 6, 1, 0] rfl ?_
      refine sl_X7_isLesson_31 hc hZ (fun x5_21 σ_22 h => ?_) _ _ _ _ h
      refine r_iload_n hc 3 dX7_isLesson_115 rfl ?_
      refine r_if_eq hc 128 dX7_isLesson_116 (by decide) (fun q => ?_) (fun q => ?_)
      · have h := kif_t h q
        refine r_iconst (v := 0) hc dX7_isLesson_128 rfl ?_
        refine r_istore_n hc [(3, .int 0), (0, kz g 55), (1, .int x1), (2, .int x2), (4, .int x4), (5, .int x5_21)] dX7_isLesson_129 (by decide) rfl ?_
        obtain ⟨x4_23, ex4_23⟩ : ∃ v : Int32, v = x4 + 1 := ⟨_, rfl⟩
        have h := h x4_23 ex4_23
        refine r_iinc (v := x4_23) hc 4 [(4, .int x4_23), (3, .int 0), (0, kz g 55), (1, .int x1), (2, .int x2), (5, .int x5_21)] dX7_isLesson_130 rfl (by rw [ex4_23]; rfl) (by decide) rfl ?_
        refine r_goto hc 5 dX7_isLesson_133 (by decide) ?_
        refine r_sub [2, 3, 4, 1, 0] rfl ?_
        exact hK _ _ _ h
      · have h := kif_f h q
        refine r_iload hc 5 dX7_isLesson_119 rfl ?_
        refine r_if_eq hc 128 dX7_isLesson_121 (by decide) (fun q => ?_) (fun q => ?_)
        · have h := kif_t h q
          refine r_iconst (v := 0) hc dX7_isLesson_128 rfl ?_
          refine r_istore_n hc [(3, .int 0), (0, kz g 55), (1, .int x1), (2, .int x2), (4, .int x4), (5, .int x5_21)] dX7_isLesson_129 (by decide) rfl ?_
          obtain ⟨x4_24, ex4_24⟩ : ∃ v : Int32, v = x4 + 1 := ⟨_, rfl⟩
          have h := h x4_24 ex4_24
          refine r_iinc (v := x4_24) hc 4 [(4, .int x4_24), (3, .int 0), (0, kz g 55), (1, .int x1), (2, .int x2), (5, .int x5_21)] dX7_isLesson_130 rfl (by rw [ex4_24]; rfl) (by decide) rfl ?_
          refine r_goto hc 5 dX7_isLesson_133 (by decide) ?_
          refine r_sub [2, 3, 4, 1, 0] rfl ?_
          exact hK _ _ _ h
        · have h := kif_f h q
          refine r_iconst (v := 1) hc dX7_isLesson_124 rfl ?_
          refine r_goto hc 129 dX7_isLesson_125 (by decide) ?_
          refine r_istore_n hc [(3, .int 1), (0, kz g 55), (1, .int x1), (2, .int x2), (4, .int x4), (5, .int x5_21)] dX7_isLesson_129 (by decide) rfl ?_
          obtain ⟨x4_25, ex4_25⟩ : ∃ v : Int32, v = x4 + 1 := ⟨_, rfl⟩
          have h := h x4_25 ex4_25
          refine r_iinc (v := x4_25) hc 4 [(4, .int x4_25), (3, .int 1), (0, kz g 55), (1, .int x1), (2, .int x2), (5, .int x5_21)] dX7_isLesson_130 rfl (by rw [ex4_25]; rfl) (by decide) rfl ?_
          refine r_goto hc 5 dX7_isLesson_133 (by decide) ?_
          refine r_sub [2, 3, 4, 1, 0] rfl ?_
          exact hK _ _ _ h
theorem sl_X7_isLesson_5 {X : kX} {g : kG} {N : Nat} {Q : Int32 → kS → Prop} (hc : kOk X g RX7 cX7_isLesson 8 (some .boolean) 2) (hZ : kRz X g cX7_isLesson Q) {x1 : Int32} {x2 : Int32} : ∀ (n : Nat) (x3 : Int32) (x4 : Int32) (σ : kS), l_X7_isLesson_5 N Q x1 x2 n x3 x4 σ → kP X g 8 5 [(0, kz g 55), (1, .int x1), (2, .int x2), (3, .int x3), (4, .int x4)] [] σ := by
  intro n
  induction n with
  | zero => intro x3 x4 σ h; exact h.elim
  | succ n ih => intro x3 x4 σ h; exact sb_X7_isLesson_5 hc hZ ih h
def w_X7_isLesson (N : Nat) (σ : kS) (x1 : Int32) (x2 : Int32) (Q : Int32 → kS → Prop) : Prop :=
  l_X7_isLesson_5 N Q x1 x2  N 1 0 σ
set_option maxHeartbeats 4000000 in
set_option maxRecDepth 100000 in
theorem s_X7_isLesson {X : kX} {g : kG} {N : Nat} {Q : Int32 → kS → Prop} (hc : kOk X g RX7 cX7_isLesson 8 (some .boolean) 2) (hZ : kRz X g cX7_isLesson Q) {σ : kS} {x1 : Int32} {x2 : Int32} (h : w_X7_isLesson N σ x1 x2 Q) : kP X g 8 0 [(0, kz g 55), (1, .int x1), (2, .int x2)] [] σ := by
  unfold w_X7_isLesson at h
  refine r_iconst (v := 1) hc dX7_isLesson_0 rfl ?_
  refine r_istore_n hc [(3, .int 1), (0, kz g 55), (1, .int x1), (2, .int x2)] dX7_isLesson_1 (by decide) rfl ?_
  refine r_iconst (v := 0) hc dX7_isLesson_2 rfl ?_
  refine r_istore hc [(4, .int 0), (3, .int 1), (0, kz g 55), (1, .int x1), (2, .int x2)] dX7_isLesson_3 (by decide) rfl ?_
  refine r_sub [2, 3, 4, 1, 0] rfl ?_
  refine sl_X7_isLesson_5 hc hZ _ _ _ _ h
theorem m_X7_isLesson {l : Launch} {g : kG} {N : Nat} {σ : kS} {x1 : Int32} {x2 : Int32} {Q : Int32 → kS → Prop} (h : w_X7_isLesson N σ x1 x2 Q) : kMi l g yX7_isLesson cX7_isLesson 8 (some .boolean) 2 [kz g 55, .int x1, .int x2] σ Q :=
  k_met_z (by decide +kernel) rfl (Nat.le_of_ble_eq_true rfl) (fun X hl hc hZ => s_X7_isLesson hc hZ h)
def j_X7_lessons_69 (N : Nat) (Q : Int32 → kS → Prop) (x1 : Int32) (x2 : Int32) (x3 : Int32) (x4 : Int32) (K : Int32 → Int32 → kS → Prop) (σ : kS) : Prop :=
  w_X7_isLesson N σ x1 x4 (fun (r_7 : Int32) (σ_6 : kS) => if r_7 = 0 then (∀ x4_8 : Int32, x4_8 = x4 + 1 → (K x3 x4_8 σ_6)) else (∀ x4_9 : Int32, x4_9 = x4 + 1 → (K x4 x4_9 σ_6)))
set_option maxHeartbeats 4000000 in
set_option maxRecDepth 100000 in
theorem sj_X7_lessons_69 {X : kX} {g : kG} {N : Nat} {Q : Int32 → kS → Prop} (hc : kOk X g RX7 cX7_lessons 5 (some .int) 3) (hZ : kRi X g cX7_lessons Q) {x1 : Int32} {x2 : Int32} {x3 : Int32} {x4 : Int32} {K : Int32 → Int32 → kS → Prop} (hK : ∀ (x3 : Int32) (x4 : Int32) (τ : kS), K x3 x4 τ → kP X g 5 40 [(0, kz g 55), (1, .int x1), (2, .int x2), (3, .int x3), (4, .int x4)] [] τ) {σ : kS} (h : j_X7_lessons_69 N Q x1 x2 x3 x4 K σ) : kP X g 5 69 [(0, kz g 55), (1, .int x1), (2, .int x2), (3, .int x3), (4, .int x4)] [] σ := by
  unfold j_X7_lessons_69 at h
  refine r_aload_n hc 0 dX7_lessons_69 rfl ?_
  refine r_iload_n hc 1 dX7_lessons_70 rfl ?_
  refine r_iload hc 4 dX7_lessons_71 rfl ?_
  refine r_callVi (d := 2) hc (m_X7_isLesson h) cw_X7_isLesson wi_X7_isLesson ws_X7_isLesson lm_X7_202 (by decide) (by decide) rv_X7 rfl rfl (Nat.le_of_ble_eq_true rfl) dX7_lessons_73 (fun r_7 σ_6 h => ?_)
  refine r_if_eq hc 84 dX7_lessons_76 (by decide) (fun q => ?_) (fun q => ?_)
  · have h := kif_t h q
    refine r_iload_n hc 3 dX7_lessons_84 rfl ?_
    refine r_istore_n hc [(3, .int x3), (0, kz g 55), (1, .int x1), (2, .int x2), (4, .int x4)] dX7_lessons_85 (by decide) rfl ?_
    obtain ⟨x4_8, ex4_8⟩ : ∃ v : Int32, v = x4 + 1 := ⟨_, rfl⟩
    have h := h x4_8 ex4_8
    refine r_iinc (v := x4_8) hc 4 [(4, .int x4_8), (3, .int x3), (0, kz g 55), (1, .int x1), (2, .int x2)] dX7_lessons_86 rfl (by rw [ex4_8]; rfl) (by decide) rfl ?_
    refine r_goto hc 40 dX7_lessons_89 (by decide) ?_
    refine r_sub [2, 3, 4, 1, 0] rfl ?_
    exact hK _ _ _ h
  · have h := kif_f h q
    refine r_iload hc 4 dX7_lessons_79 rfl ?_
    refine r_goto hc 85 dX7_lessons_81 (by decide) ?_
    refine r_istore_n hc [(3, .int x4), (0, kz g 55), (1, .int x1), (2, .int x2), (4, .int x4)] dX7_lessons_85 (by decide) rfl ?_
    obtain ⟨x4_9, ex4_9⟩ : ∃ v : Int32, v = x4 + 1 := ⟨_, rfl⟩
    have h := h x4_9 ex4_9
    refine r_iinc (v := x4_9) hc 4 [(4, .int x4_9), (3, .int x4), (0, kz g 55), (1, .int x1), (2, .int x2)] dX7_lessons_86 rfl (by rw [ex4_9]; rfl) (by decide) rfl ?_
    refine r_goto hc 40 dX7_lessons_89 (by decide) ?_
    refine r_sub [2, 3, 4, 1, 0] rfl ?_
    exact hK _ _ _ h
def b_X7_lessons_40 (N : Nat) (Q : Int32 → kS → Prop) (x1 : Int32) (x2 : Int32) (E92 : Int32 → kS → Prop) (K : Int32 → Int32 → kS → Prop) (x3 : Int32) (x4 : Int32) (σ : kS) : Prop :=
  vp_in 4 57 ∧ (if (1 <<< ((σ 59 (4 : Int32).toNatClampNeg) &&& 31)) ≤ x4 then (E92 x3 σ) else (if x3 < 0 then (j_X7_lessons_69 N Q x1 x2 x3 x4 K σ) else (w_X7_ones N σ x4 (fun (r_11 : Int32) (σ_10 : kS) => w_X7_ones N σ_10 x3 (fun (r_13 : Int32) (σ_12 : kS) => if r_13 ≤ r_11 then (∀ x4_14 : Int32, x4_14 = x4 + 1 → (K x3 x4_14 σ_12)) else (j_X7_lessons_69 N Q x1 x2 x3 x4 K σ_12))))))
def l_X7_lessons_40 (N : Nat) (Q : Int32 → kS → Prop) (x1 : Int32) (x2 : Int32) (E92 : Int32 → kS → Prop) : Nat → Int32 → Int32 → kS → Prop
  | 0 => fun _ _ _ => False
  | n + 1 => b_X7_lessons_40 N Q x1 x2 E92 (l_X7_lessons_40 N Q x1 x2 E92 n)
set_option maxHeartbeats 4000000 in
set_option maxRecDepth 100000 in
theorem sb_X7_lessons_40 {X : kX} {g : kG} {N : Nat} {Q : Int32 → kS → Prop} (hc : kOk X g RX7 cX7_lessons 5 (some .int) 3) (hZ : kRi X g cX7_lessons Q) {x1 : Int32} {x2 : Int32} {E92 : Int32 → kS → Prop} (hE92 : ∀ (x3 : Int32) (τ : kS), E92 x3 τ → kP X g 5 92 [(2, .int x2), (3, .int x3)] [] τ) {K : Int32 → Int32 → kS → Prop} (hK : ∀ (x3 : Int32) (x4 : Int32) (τ : kS), K x3 x4 τ → kP X g 5 40 [(0, kz g 55), (1, .int x1), (2, .int x2), (3, .int x3), (4, .int x4)] [] τ) {x3 : Int32} {x4 : Int32} {σ : kS} (h : b_X7_lessons_40 N Q x1 x2 E92 K x3 x4 σ) : kP X g 5 40 [(0, kz g 55), (1, .int x1), (2, .int x2), (3, .int x3), (4, .int x4)] [] σ := by
  unfold b_X7_lessons_40 at h
  refine r_iload hc 4 dX7_lessons_40 rfl ?_
  refine r_iconst (v := 1) hc dX7_lessons_42 rfl ?_
  refine r_aload_n hc 0 dX7_lessons_43 rfl ?_
  refine gf_X7_5 hc lf_X7_19 dX7_lessons_44 ?_
  refine r_iconst (v := 4) hc dX7_lessons_47 rfl ?_
  obtain ⟨hi_5, h⟩ := h
  refine r_iald hc kia_59 hi_5 dX7_lessons_48 ?_
  refine r_ishl hc dX7_lessons_49 ?_
  refine r_ic_ge hc 92 dX7_lessons_50 (by decide) (fun q => ?_) (fun q => ?_)
  · have h := kif_t h q
    refine r_sub [2, 3] rfl ?_
    exact hE92 _ _ h
  · have h := kif_f h q
    refine r_iload_n hc 3 dX7_lessons_53 rfl ?_
    refine r_if_lt hc 69 dX7_lessons_54 (by decide) (fun q => ?_) (fun q => ?_)
    · have h := kif_t h q
      exact sj_X7_lessons_69 hc hZ hK h
    · have h := kif_f h q
      refine r_iload hc 4 dX7_lessons_57 rfl ?_
      refine r_callSi (d := 0) hc (m_X7_ones h) cw_X7_ones wt_X7_ones lm_X7_199 (by decide) (by decide) rfl rfl (Nat.le_of_ble_eq_true rfl) dX7_lessons_59 (fun r_11 σ_10 h => ?_)
      refine r_iload_n hc 3 dX7_lessons_62 rfl ?_
      refine r_callSi (d := 0) hc (m_X7_ones h) cw_X7_ones wt_X7_ones lm_X7_199 (by decide) (by decide) rfl rfl (Nat.le_of_ble_eq_true rfl) dX7_lessons_63 (fun r_13 σ_12 h => ?_)
      refine r_ic_ge hc 86 dX7_lessons_66 (by decide) (fun q => ?_) (fun q => ?_)
      · have h := kif_t h q
        obtain ⟨x4_14, ex4_14⟩ : ∃ v : Int32, v = x4 + 1 := ⟨_, rfl⟩
        have h := h x4_14 ex4_14
        refine r_iinc (v := x4_14) hc 4 [(4, .int x4_14), (0, kz g 55), (1, .int x1), (2, .int x2), (3, .int x3)] dX7_lessons_86 rfl (by rw [ex4_14]; rfl) (by decide) rfl ?_
        refine r_goto hc 40 dX7_lessons_89 (by decide) ?_
        refine r_sub [1, 2, 3, 4, 0] rfl ?_
        exact hK _ _ _ h
      · have h := kif_f h q
        exact sj_X7_lessons_69 hc hZ hK h
theorem sl_X7_lessons_40 {X : kX} {g : kG} {N : Nat} {Q : Int32 → kS → Prop} (hc : kOk X g RX7 cX7_lessons 5 (some .int) 3) (hZ : kRi X g cX7_lessons Q) {x1 : Int32} {x2 : Int32} {E92 : Int32 → kS → Prop} (hE92 : ∀ (x3 : Int32) (τ : kS), E92 x3 τ → kP X g 5 92 [(2, .int x2), (3, .int x3)] [] τ) : ∀ (n : Nat) (x3 : Int32) (x4 : Int32) (σ : kS), l_X7_lessons_40 N Q x1 x2 E92 n x3 x4 σ → kP X g 5 40 [(0, kz g 55), (1, .int x1), (2, .int x2), (3, .int x3), (4, .int x4)] [] σ := by
  intro n
  induction n with
  | zero => intro x3 x4 σ h; exact h.elim
  | succ n ih => intro x3 x4 σ h; exact sb_X7_lessons_40 hc hZ hE92 ih h
def w_X7_lessons (N : Nat) (σ : kS) (x1 : Int32) (x2 : Int32) (Q : Int32 → kS → Prop) : Prop :=
  if (σ 55 4) = 0 then (Q (-1000002) σ) else (w_X7_in N σ (x1.toInt64) 0 16777215 (fun (r_2 : Int32) (σ_1 : kS) => if r_2 = 0 then (Q (-1000001) σ_1) else (w_X7_in N σ_1 (x2.toInt64) 0 1 (fun (r_4 : Int32) (σ_3 : kS) => if r_4 = 0 then (Q (-1000001) σ_3) else (l_X7_lessons_40 N Q x1 x2 (fun (x3_15 : Int32) (σ_16 : kS) => if 0 ≤ x3_15 then (if x2 = 0 then (w_X7_ones N σ_16 x3_15 (fun (r_18 : Int32) (σ_17 : kS) => Q r_18 σ_17)) else (Q x3_15 σ_16)) else (Q (-1000000) σ_16)) N (-1) 0 σ_3)))))
set_option maxHeartbeats 4000000 in
set_option maxRecDepth 100000 in
theorem s_X7_lessons {X : kX} {g : kG} {N : Nat} {Q : Int32 → kS → Prop} (hc : kOk X g RX7 cX7_lessons 5 (some .int) 3) (hZ : kRi X g cX7_lessons Q) {σ : kS} {x1 : Int32} {x2 : Int32} (h : w_X7_lessons N σ x1 x2 Q) : kP X g 5 0 [(0, kz g 55), (1, .int x1), (2, .int x2)] [] σ := by
  unfold w_X7_lessons at h
  refine r_aload_n hc 0 dX7_lessons_0 rfl ?_
  refine gf_X7_4 hc lf_X7_138 dX7_lessons_1 ?_
  refine r_if_ne hc 10 dX7_lessons_4 (by decide) (fun q => ?_) (fun q => ?_)
  · have h := kif_t h q
    refine r_ldc hc lk_X7_145 dX7_lessons_7 ?_
    exact r_iret (ls0 := []) hZ dX7_lessons_9 h
  · have h := kif_f h q
    refine r_iload_n hc 1 dX7_lessons_10 rfl ?_
    refine r_i2l hc dX7_lessons_11 ?_
    refine r_lconst (v := 0) hc dX7_lessons_12 rfl ?_
    refine r_ldc2_w hc lK_X7_197 dX7_lessons_13 ?_
    refine r_callSi (d := 0) hc (m_X7_in h) cw_X7_in wt_X7_in lm_X7_57 (by decide) (by decide) rfl rfl (Nat.le_of_ble_eq_true rfl) dX7_lessons_16 (fun r_2 σ_1 h => ?_)
    refine r_if_eq hc 32 dX7_lessons_19 (by decide) (fun q => ?_) (fun q => ?_)
    · have h := kif_t h q
      refine r_ldc hc lk_X7_67 dX7_lessons_32 ?_
      exact r_iret (ls0 := []) hZ dX7_lessons_34 h
    · have h := kif_f h q
      refine r_iload_n hc 2 dX7_lessons_22 rfl ?_
      refine r_i2l hc dX7_lessons_23 ?_
      refine r_lconst (v := 0) hc dX7_lessons_24 rfl ?_
      refine r_lconst (v := 1) hc dX7_lessons_25 rfl ?_
      refine r_callSi (d := 0) hc (m_X7_in h) cw_X7_in wt_X7_in lm_X7_57 (by decide) (by decide) rfl rfl (Nat.le_of_ble_eq_true rfl) dX7_lessons_26 (fun r_4 σ_3 h => ?_)
      refine r_if_ne hc 35 dX7_lessons_29 (by decide) (fun q => ?_) (fun q => ?_)
      · have h := kif_t h q
        refine r_ldc hc lk_X7_67 dX7_lessons_32 ?_
        exact r_iret (ls0 := []) hZ dX7_lessons_34 h
      · have h := kif_f h q
        refine r_iconst (v := (-1)) hc dX7_lessons_35 rfl ?_
        refine r_istore_n hc [(3, .int (-1)), (0, kz g 55), (1, .int x1), (2, .int x2)] dX7_lessons_36 (by decide) rfl ?_
        refine r_iconst (v := 0) hc dX7_lessons_37 rfl ?_
        refine r_istore hc [(4, .int 0), (3, .int (-1)), (0, kz g 55), (1, .int x1), (2, .int x2)] dX7_lessons_38 (by decide) rfl ?_
        refine r_sub [2, 3, 4, 1, 0] rfl ?_
        refine sl_X7_lessons_40 hc hZ (fun x3_15 σ_16 h => ?_) _ _ _ _ h
        refine r_iload_n hc 1 dX7_lessons_92 rfl ?_
        refine r_if_ge hc 101 dX7_lessons_93 (by decide) (fun q => ?_) (fun q => ?_)
        · have h := kif_t h q
          refine r_iload_n hc 0 dX7_lessons_101 rfl ?_
          refine r_if_ne hc 112 dX7_lessons_102 (by decide) (fun q => ?_) (fun q => ?_)
          · have h := kif_t h q
            refine r_iload_n hc 1 dX7_lessons_105 rfl ?_
            refine r_callSi (d := 0) hc (m_X7_ones h) cw_X7_ones wt_X7_ones lm_X7_199 (by decide) (by decide) rfl rfl (Nat.le_of_ble_eq_true rfl) dX7_lessons_106 (fun r_18 σ_17 h => ?_)
            refine r_goto hc 113 dX7_lessons_109 (by decide) ?_
            exact r_iret (ls0 := []) hZ dX7_lessons_113 h
          · have h := kif_f h q
            refine r_iload_n hc 1 dX7_lessons_112 rfl ?_
            exact r_iret (ls0 := []) hZ dX7_lessons_113 h
        · have h := kif_f h q
          refine r_ldc hc lk_X7_165 dX7_lessons_96 ?_
          refine r_goto hc 113 dX7_lessons_98 (by decide) ?_
          exact r_iret (ls0 := []) hZ dX7_lessons_113 h
theorem m_X7_lessons {l : Launch} {g : kG} {N : Nat} {σ : kS} {x1 : Int32} {x2 : Int32} {Q : Int32 → kS → Prop} (h : w_X7_lessons N σ x1 x2 Q) : kMi l g yX7_lessons cX7_lessons 5 (some .int) 3 [kz g 55, .int x1, .int x2] σ Q :=
  k_met_i (by decide +kernel) rfl (Nat.le_of_ble_eq_true rfl) (fun X hl hc hZ => s_X7_lessons hc hZ h)
def b_X7_isNight_5 (N : Nat) (Q : Int32 → kS → Prop) (x1 : Int32) (x2 : Int32) (K : Int32 → Int32 → kS → Prop) (x3 : Int32) (x4 : Int32) (σ : kS) : Prop :=
  vp_in 4 57 ∧ (if (σ 59 (4 : Int32).toNatClampNeg) ≤ x4 then ((x3 = 0 ∨ x3 = 1) ∧ Q x3 σ) else (if x3 = 0 then (w_X7_shiftIn N σ x2 (fun (r_3 : Int32) (σ_2 : kS) => w_X7_biasOf N σ_2 x4 (fun (r_5 : Int32) (σ_4 : kS) => if r_3 = r_5 then (w_X7_reaches N σ_4 x4 x1 (fun (r_7 : Int32) (σ_6 : kS) => if r_7 = 0 then (∀ x4_8 : Int32, x4_8 = x4 + 1 → (K 0 x4_8 σ_6)) else (∀ x4_9 : Int32, x4_9 = x4 + 1 → (K 1 x4_9 σ_6)))) else (∀ x4_10 : Int32, x4_10 = x4 + 1 → (K 0 x4_10 σ_4))))) else (∀ x4_11 : Int32, x4_11 = x4 + 1 → (K 1 x4_11 σ))))
def l_X7_isNight_5 (N : Nat) (Q : Int32 → kS → Prop) (x1 : Int32) (x2 : Int32) : Nat → Int32 → Int32 → kS → Prop
  | 0 => fun _ _ _ => False
  | n + 1 => b_X7_isNight_5 N Q x1 x2 (l_X7_isNight_5 N Q x1 x2 n)
set_option maxHeartbeats 4000000 in
set_option maxRecDepth 100000 in
theorem sb_X7_isNight_5 {X : kX} {g : kG} {N : Nat} {Q : Int32 → kS → Prop} (hc : kOk X g RX7 cX7_isNight 5 (some .boolean) 4) (hZ : kRz X g cX7_isNight Q) {x1 : Int32} {x2 : Int32} {K : Int32 → Int32 → kS → Prop} (hK : ∀ (x3 : Int32) (x4 : Int32) (τ : kS), K x3 x4 τ → kP X g 5 5 [(0, kz g 55), (1, .int x1), (2, .int x2), (3, .int x3), (4, .int x4)] [] τ) {x3 : Int32} {x4 : Int32} {σ : kS} (h : b_X7_isNight_5 N Q x1 x2 K x3 x4 σ) : kP X g 5 5 [(0, kz g 55), (1, .int x1), (2, .int x2), (3, .int x3), (4, .int x4)] [] σ := by
  unfold b_X7_isNight_5 at h
  refine r_iload hc 4 dX7_isNight_5 rfl ?_
  refine r_aload_n hc 0 dX7_isNight_7 rfl ?_
  refine gf_X7_5 hc lf_X7_19 dX7_isNight_8 ?_
  refine r_iconst (v := 4) hc dX7_isNight_11 rfl ?_
  obtain ⟨hi_1, h⟩ := h
  refine r_iald hc kia_59 hi_1 dX7_isNight_12 ?_
  refine r_ic_ge hc 56 dX7_isNight_13 (by decide) (fun q => ?_) (fun q => ?_)
  · have h := kif_t h q
    refine r_iload_n hc 3 dX7_isNight_56 rfl ?_
    exact r_zret (ls0 := []) hZ dX7_isNight_57 h.1 h.2
  · have h := kif_f h q
    refine r_iload_n hc 3 dX7_isNight_16 rfl ?_
    refine r_if_ne hc 44 dX7_isNight_17 (by decide) (fun q => ?_) (fun q => ?_)
    · have h := kif_t h q
      refine r_aload_n hc 0 dX7_isNight_20 rfl ?_
      refine r_iload_n hc 2 dX7_isNight_21 rfl ?_
      refine r_callVi (d := 1) hc (m_X7_shiftIn h) cw_X7_shiftIn wi_X7_shiftIn ws_X7_shiftIn lm_X7_154 (by decide) (by decide) rv_X7 rfl rfl (Nat.le_of_ble_eq_true rfl) dX7_isNight_22 (fun r_3 σ_2 h => ?_)
      refine r_aload_n hc 0 dX7_isNight_25 rfl ?_
      refine r_iload hc 4 dX7_isNight_26 rfl ?_
      refine r_callVi (d := 2) hc (m_X7_biasOf h) cw_X7_biasOf wi_X7_biasOf ws_X7_biasOf lm_X7_169 (by decide) (by decide) rv_X7 rfl rfl (Nat.le_of_ble_eq_true rfl) dX7_isNight_28 (fun r_5 σ_4 h => ?_)
      refine r_ic_ne hc 48 dX7_isNight_31 (by decide) (fun q => ?_) (fun q => ?_)
      · have h := kif_t h q
        refine r_aload_n hc 0 dX7_isNight_34 rfl ?_
        refine r_iload hc 4 dX7_isNight_35 rfl ?_
        refine r_iload_n hc 1 dX7_isNight_37 rfl ?_
        refine r_callVi (d := 3) hc (m_X7_reaches h) cw_X7_reaches wi_X7_reaches ws_X7_reaches lm_X7_178 (by decide) (by decide) rv_X7 rfl rfl (Nat.le_of_ble_eq_true rfl) dX7_isNight_38 (fun r_7 σ_6 h => ?_)
        refine r_if_eq hc 48 dX7_isNight_41 (by decide) (fun q => ?_) (fun q => ?_)
        · have h := kif_t h q
          refine r_iconst (v := 0) hc dX7_isNight_48 rfl ?_
          refine r_istore_n hc [(3, .int 0), (0, kz g 55), (1, .int x1), (2, .int x2), (4, .int x4)] dX7_isNight_49 (by decide) rfl ?_
          obtain ⟨x4_8, ex4_8⟩ : ∃ v : Int32, v = x4 + 1 := ⟨_, rfl⟩
          have h := h x4_8 ex4_8
          refine r_iinc (v := x4_8) hc 4 [(4, .int x4_8), (3, .int 0), (0, kz g 55), (1, .int x1), (2, .int x2)] dX7_isNight_50 rfl (by rw [ex4_8]; rfl) (by decide) rfl ?_
          refine r_goto hc 5 dX7_isNight_53 (by decide) ?_
          refine r_sub [2, 3, 4, 1, 0] rfl ?_
          exact hK _ _ _ h
        · have h := kif_f h q
          refine r_iconst (v := 1) hc dX7_isNight_44 rfl ?_
          refine r_goto hc 49 dX7_isNight_45 (by decide) ?_
          refine r_istore_n hc [(3, .int 1), (0, kz g 55), (1, .int x1), (2, .int x2), (4, .int x4)] dX7_isNight_49 (by decide) rfl ?_
          obtain ⟨x4_9, ex4_9⟩ : ∃ v : Int32, v = x4 + 1 := ⟨_, rfl⟩
          have h := h x4_9 ex4_9
          refine r_iinc (v := x4_9) hc 4 [(4, .int x4_9), (3, .int 1), (0, kz g 55), (1, .int x1), (2, .int x2)] dX7_isNight_50 rfl (by rw [ex4_9]; rfl) (by decide) rfl ?_
          refine r_goto hc 5 dX7_isNight_53 (by decide) ?_
          refine r_sub [2, 3, 4, 1, 0] rfl ?_
          exact hK _ _ _ h
      · have h := kif_f h q
        refine r_iconst (v := 0) hc dX7_isNight_48 rfl ?_
        refine r_istore_n hc [(3, .int 0), (0, kz g 55), (1, .int x1), (2, .int x2), (4, .int x4)] dX7_isNight_49 (by decide) rfl ?_
        obtain ⟨x4_10, ex4_10⟩ : ∃ v : Int32, v = x4 + 1 := ⟨_, rfl⟩
        have h := h x4_10 ex4_10
        refine r_iinc (v := x4_10) hc 4 [(4, .int x4_10), (3, .int 0), (0, kz g 55), (1, .int x1), (2, .int x2)] dX7_isNight_50 rfl (by rw [ex4_10]; rfl) (by decide) rfl ?_
        refine r_goto hc 5 dX7_isNight_53 (by decide) ?_
        refine r_sub [2, 3, 4, 1, 0] rfl ?_
        exact hK _ _ _ h
    · have h := kif_f h q
      refine r_iconst (v := 1) hc dX7_isNight_44 rfl ?_
      refine r_goto hc 49 dX7_isNight_45 (by decide) ?_
      refine r_istore_n hc [(3, .int 1), (0, kz g 55), (1, .int x1), (2, .int x2), (4, .int x4)] dX7_isNight_49 (by decide) rfl ?_
      obtain ⟨x4_11, ex4_11⟩ : ∃ v : Int32, v = x4 + 1 := ⟨_, rfl⟩
      have h := h x4_11 ex4_11
      refine r_iinc (v := x4_11) hc 4 [(4, .int x4_11), (3, .int 1), (0, kz g 55), (1, .int x1), (2, .int x2)] dX7_isNight_50 rfl (by rw [ex4_11]; rfl) (by decide) rfl ?_
      refine r_goto hc 5 dX7_isNight_53 (by decide) ?_
      refine r_sub [2, 3, 4, 1, 0] rfl ?_
      exact hK _ _ _ h
theorem sl_X7_isNight_5 {X : kX} {g : kG} {N : Nat} {Q : Int32 → kS → Prop} (hc : kOk X g RX7 cX7_isNight 5 (some .boolean) 4) (hZ : kRz X g cX7_isNight Q) {x1 : Int32} {x2 : Int32} : ∀ (n : Nat) (x3 : Int32) (x4 : Int32) (σ : kS), l_X7_isNight_5 N Q x1 x2 n x3 x4 σ → kP X g 5 5 [(0, kz g 55), (1, .int x1), (2, .int x2), (3, .int x3), (4, .int x4)] [] σ := by
  intro n
  induction n with
  | zero => intro x3 x4 σ h; exact h.elim
  | succ n ih => intro x3 x4 σ h; exact sb_X7_isNight_5 hc hZ ih h
def w_X7_isNight (N : Nat) (σ : kS) (x1 : Int32) (x2 : Int32) (Q : Int32 → kS → Prop) : Prop :=
  l_X7_isNight_5 N Q x1 x2  N 0 0 σ
set_option maxHeartbeats 4000000 in
set_option maxRecDepth 100000 in
theorem s_X7_isNight {X : kX} {g : kG} {N : Nat} {Q : Int32 → kS → Prop} (hc : kOk X g RX7 cX7_isNight 5 (some .boolean) 4) (hZ : kRz X g cX7_isNight Q) {σ : kS} {x1 : Int32} {x2 : Int32} (h : w_X7_isNight N σ x1 x2 Q) : kP X g 5 0 [(0, kz g 55), (1, .int x1), (2, .int x2)] [] σ := by
  unfold w_X7_isNight at h
  refine r_iconst (v := 0) hc dX7_isNight_0 rfl ?_
  refine r_istore_n hc [(3, .int 0), (0, kz g 55), (1, .int x1), (2, .int x2)] dX7_isNight_1 (by decide) rfl ?_
  refine r_iconst (v := 0) hc dX7_isNight_2 rfl ?_
  refine r_istore hc [(4, .int 0), (3, .int 0), (0, kz g 55), (1, .int x1), (2, .int x2)] dX7_isNight_3 (by decide) rfl ?_
  refine r_sub [2, 3, 4, 1, 0] rfl ?_
  refine sl_X7_isNight_5 hc hZ _ _ _ _ h
theorem m_X7_isNight {l : Launch} {g : kG} {N : Nat} {σ : kS} {x1 : Int32} {x2 : Int32} {Q : Int32 → kS → Prop} (h : w_X7_isNight N σ x1 x2 Q) : kMi l g yX7_isNight cX7_isNight 5 (some .boolean) 4 [kz g 55, .int x1, .int x2] σ Q :=
  k_met_z (by decide +kernel) rfl (Nat.le_of_ble_eq_true rfl) (fun X hl hc hZ => s_X7_isNight hc hZ h)
def b_X7_programme_44 (N : Nat) (Q : Int32 → kS → Prop) (x1 : Int32) (x2 : Int32) (E65 : Int32 → kS → Prop) (K : Int32 → Int32 → kS → Prop) (x3 : Int32) (x4 : Int32) (σ : kS) : Prop :=
  vp_in 3 57 ∧ (if (σ 59 (3 : Int32).toNatClampNeg) ≤ x4 then (E65 x3 σ) else (∀ x3_6 : Int32, x3_6 = x3 * x1 → (∀ x4_7 : Int32, x4_7 = x4 + 1 → (K x3_6 x4_7 σ))))
def l_X7_programme_44 (N : Nat) (Q : Int32 → kS → Prop) (x1 : Int32) (x2 : Int32) (E65 : Int32 → kS → Prop) : Nat → Int32 → Int32 → kS → Prop
  | 0 => fun _ _ _ => False
  | n + 1 => b_X7_programme_44 N Q x1 x2 E65 (l_X7_programme_44 N Q x1 x2 E65 n)
set_option maxHeartbeats 4000000 in
set_option maxRecDepth 100000 in
theorem sb_X7_programme_44 {X : kX} {g : kG} {N : Nat} {Q : Int32 → kS → Prop} (hc : kOk X g RX7 cX7_programme 12 (some .int) 5) (hZ : kRi X g cX7_programme Q) {x1 : Int32} {x2 : Int32} {E65 : Int32 → kS → Prop} (hE65 : ∀ (x3 : Int32) (τ : kS), E65 x3 τ → kP X g 12 65 [(0, kz g 55), (1, .int x1), (2, .int x2), (3, .int x3)] [] τ) {K : Int32 → Int32 → kS → Prop} (hK : ∀ (x3 : Int32) (x4 : Int32) (τ : kS), K x3 x4 τ → kP X g 12 44 [(0, kz g 55), (1, .int x1), (2, .int x2), (3, .int x3), (4, .int x4)] [] τ) {x3 : Int32} {x4 : Int32} {σ : kS} (h : b_X7_programme_44 N Q x1 x2 E65 K x3 x4 σ) : kP X g 12 44 [(0, kz g 55), (1, .int x1), (2, .int x2), (3, .int x3), (4, .int x4)] [] σ := by
  unfold b_X7_programme_44 at h
  refine r_iload hc 4 dX7_programme_44 rfl ?_
  refine r_aload_n hc 0 dX7_programme_46 rfl ?_
  refine gf_X7_5 hc lf_X7_19 dX7_programme_47 ?_
  refine r_iconst (v := 3) hc dX7_programme_50 rfl ?_
  obtain ⟨hi_5, h⟩ := h
  refine r_iald hc kia_59 hi_5 dX7_programme_51 ?_
  refine r_ic_ge hc 65 dX7_programme_52 (by decide) (fun q => ?_) (fun q => ?_)
  · have h := kif_t h q
    refine r_sub [0, 1, 2, 3] rfl ?_
    exact hE65 _ _ h
  · have h := kif_f h q
    refine r_iload_n hc 3 dX7_programme_55 rfl ?_
    refine r_iload_n hc 1 dX7_programme_56 rfl ?_
    refine r_imul hc dX7_programme_57 ?_
    refine r_nmI (fun x3_6 ex3_6 => ?_)
    have h := h x3_6 ex3_6
    refine r_istore_n hc [(3, .int x3_6), (0, kz g 55), (1, .int x1), (2, .int x2), (4, .int x4)] dX7_programme_58 (by decide) rfl ?_
    obtain ⟨x4_7, ex4_7⟩ : ∃ v : Int32, v = x4 + 1 := ⟨_, rfl⟩
    have h := h x4_7 ex4_7
    refine r_iinc (v := x4_7) hc 4 [(4, .int x4_7), (3, .int x3_6), (0, kz g 55), (1, .int x1), (2, .int x2)] dX7_programme_59 rfl (by rw [ex4_7]; rfl) (by decide) rfl ?_
    refine r_goto hc 44 dX7_programme_62 (by decide) ?_
    refine r_sub [2, 3, 4, 1, 0] rfl ?_
    exact hK _ _ _ h
theorem sl_X7_programme_44 {X : kX} {g : kG} {N : Nat} {Q : Int32 → kS → Prop} (hc : kOk X g RX7 cX7_programme 12 (some .int) 5) (hZ : kRi X g cX7_programme Q) {x1 : Int32} {x2 : Int32} {E65 : Int32 → kS → Prop} (hE65 : ∀ (x3 : Int32) (τ : kS), E65 x3 τ → kP X g 12 65 [(0, kz g 55), (1, .int x1), (2, .int x2), (3, .int x3)] [] τ) : ∀ (n : Nat) (x3 : Int32) (x4 : Int32) (σ : kS), l_X7_programme_44 N Q x1 x2 E65 n x3 x4 σ → kP X g 12 44 [(0, kz g 55), (1, .int x1), (2, .int x2), (3, .int x3), (4, .int x4)] [] σ := by
  intro n
  induction n with
  | zero => intro x3 x4 σ h; exact h.elim
  | succ n ih => intro x3 x4 σ h; exact sb_X7_programme_44 hc hZ hE65 ih h
def b_X7_programme_101 (N : Nat) (Q : Int32 → kS → Prop) (x1 : Int32) (x2 : Int32) (x4 : Int32) (x5 : Int32) (x6 : Int32) (E166 : Int32 → kS → Prop) (K : Int32 → Int32 → Int32 → Int32 → kS → Prop) (x7 : Int32) (x8 : Int32) (x9 : Int32) (x10 : Int32) (σ : kS) : Prop :=
  if x10 < 0 then (E166 x9 σ) else (¬ x1 = 0 ∧ (∀ x11_14 : Int32, x11_14 = krem x7 x1 → (¬ x1 = 0 ∧ (∀ x7_16 : Int32, x7_16 = x7 / x1 → (if x9 = 0 then (∀ x8_17 : Int32, x8_17 = x8 ||| (1 <<< (x11_14 &&& 31)) → (∀ x10_18 : Int32, x10_18 = x10 + (-1) → (K x7_16 x8_17 0 x10_18 σ))) else (w_X7_has N σ x8 x11_14 (fun (r_20 : Int32) (σ_19 : kS) => if r_20 = 0 then (w_X7_isNight N σ_19 x10 x11_14 (fun (r_22 : Int32) (σ_21 : kS) => if r_22 = 0 then (∀ x8_23 : Int32, x8_23 = x8 ||| (1 <<< (x11_14 &&& 31)) → (∀ x10_24 : Int32, x10_24 = x10 + (-1) → (K x7_16 x8_23 0 x10_24 σ_21))) else (∀ x8_25 : Int32, x8_25 = x8 ||| (1 <<< (x11_14 &&& 31)) → (∀ x10_26 : Int32, x10_26 = x10 + (-1) → (K x7_16 x8_25 1 x10_26 σ_21))))) else (∀ x8_27 : Int32, x8_27 = x8 ||| (1 <<< (x11_14 &&& 31)) → (∀ x10_28 : Int32, x10_28 = x10 + (-1) → (K x7_16 x8_27 0 x10_28 σ_19))))))))))
def l_X7_programme_101 (N : Nat) (Q : Int32 → kS → Prop) (x1 : Int32) (x2 : Int32) (x4 : Int32) (x5 : Int32) (x6 : Int32) (E166 : Int32 → kS → Prop) : Nat → Int32 → Int32 → Int32 → Int32 → kS → Prop
  | 0 => fun _ _ _ _ _ => False
  | n + 1 => b_X7_programme_101 N Q x1 x2 x4 x5 x6 E166 (l_X7_programme_101 N Q x1 x2 x4 x5 x6 E166 n)
set_option maxHeartbeats 4000000 in
set_option maxRecDepth 100000 in
theorem sb_X7_programme_101 {X : kX} {g : kG} {N : Nat} {Q : Int32 → kS → Prop} (hc : kOk X g RX7 cX7_programme 12 (some .int) 5) (hZ : kRi X g cX7_programme Q) {x1 : Int32} {x2 : Int32} {x4 : Int32} {x5 : Int32} {x6 : Int32} {E166 : Int32 → kS → Prop} (hE166 : ∀ (x9 : Int32) (τ : kS), E166 x9 τ → kP X g 12 166 [(0, kz g 55), (1, .int x1), (2, .int x2), (4, .int x4), (5, .int x5), (6, .int x6), (9, .int x9)] [] τ) {K : Int32 → Int32 → Int32 → Int32 → kS → Prop} (hK : ∀ (x7 : Int32) (x8 : Int32) (x9 : Int32) (x10 : Int32) (τ : kS), K x7 x8 x9 x10 τ → kP X g 12 101 [(0, kz g 55), (1, .int x1), (2, .int x2), (4, .int x4), (5, .int x5), (6, .int x6), (7, .int x7), (8, .int x8), (9, .int x9), (10, .int x10)] [] τ) {x7 : Int32} {x8 : Int32} {x9 : Int32} {x10 : Int32} {σ : kS} (h : b_X7_programme_101 N Q x1 x2 x4 x5 x6 E166 K x7 x8 x9 x10 σ) : kP X g 12 101 [(0, kz g 55), (1, .int x1), (2, .int x2), (4, .int x4), (5, .int x5), (6, .int x6), (7, .int x7), (8, .int x8), (9, .int x9), (10, .int x10)] [] σ := by
  unfold b_X7_programme_101 at h
  refine r_iload hc 9 dX7_programme_101 rfl ?_
  refine r_if_lt hc 166 dX7_programme_103 (by decide) (fun q => ?_) (fun q => ?_)
  · have h := kif_t h q
    refine r_sub [0, 1, 2, 3, 4, 5, 8] rfl ?_
    exact hE166 _ _ h
  · have h := kif_f h q
    refine r_iload hc 6 dX7_programme_106 rfl ?_
    refine r_iload_n hc 1 dX7_programme_108 rfl ?_
    obtain ⟨hn_13, h⟩ := h
    refine r_irem hc dX7_programme_109 hn_13 ?_
    refine r_nmI (fun x11_14 ex11_14 => ?_)
    have h := h x11_14 ex11_14
    refine r_istore hc [(11, .int x11_14), (0, kz g 55), (1, .int x1), (2, .int x2), (4, .int x4), (5, .int x5), (6, .int x6), (7, .int x7), (8, .int x8), (9, .int x9), (10, .int x10)] dX7_programme_110 (by decide) rfl ?_
    refine r_iload hc 7 dX7_programme_112 rfl ?_
    refine r_iload_n hc 2 dX7_programme_114 rfl ?_
    obtain ⟨hn_15, h⟩ := h
    refine r_idiv hc dX7_programme_115 hn_15 ?_
    refine r_nmI (fun x7_16 ex7_16 => ?_)
    have h := h x7_16 ex7_16
    refine r_istore hc [(7, .int x7_16), (11, .int x11_14), (0, kz g 55), (1, .int x1), (2, .int x2), (4, .int x4), (5, .int x5), (6, .int x6), (8, .int x8), (9, .int x9), (10, .int x10)] dX7_programme_116 (by decide) rfl ?_
    refine r_iload hc 9 dX7_programme_118 rfl ?_
    refine r_if_eq hc 148 dX7_programme_120 (by decide) (fun q => ?_) (fun q => ?_)
    · have h := kif_t h q
      refine r_iconst (v := 0) hc dX7_programme_148 rfl ?_
      refine r_istore hc [(9, .int 0), (7, .int x7_16), (11, .int x11_14), (0, kz g 55), (1, .int x1), (2, .int x2), (4, .int x4), (5, .int x5), (6, .int x6), (8, .int x8), (10, .int x10)] dX7_programme_149 (by decide) rfl ?_
      refine r_iload hc 9 dX7_programme_151 rfl ?_
      refine r_iconst (v := 1) hc dX7_programme_153 rfl ?_
      refine r_iload hc 2 dX7_programme_154 rfl ?_
      refine r_ishl hc dX7_programme_156 ?_
      refine r_ior hc dX7_programme_157 ?_
      refine r_nmI (fun x8_17 ex8_17 => ?_)
      have h := h x8_17 ex8_17
      refine r_istore hc [(8, .int x8_17), (9, .int 0), (7, .int x7_16), (11, .int x11_14), (0, kz g 55), (1, .int x1), (2, .int x2), (4, .int x4), (5, .int x5), (6, .int x6), (10, .int x10)] dX7_programme_158 (by decide) rfl ?_
      obtain ⟨x10_18, ex10_18⟩ : ∃ v : Int32, v = x10 + (-1) := ⟨_, rfl⟩
      have h := h x10_18 ex10_18
      refine r_iinc (v := x10_18) hc 10 [(10, .int x10_18), (8, .int x8_17), (9, .int 0), (7, .int x7_16), (11, .int x11_14), (0, kz g 55), (1, .int x1), (2, .int x2), (4, .int x4), (5, .int x5), (6, .int x6)] dX7_programme_160 rfl (by rw [ex10_18]; rfl) (by decide) rfl ?_
      refine r_goto hc 101 dX7_programme_163 (by decide) ?_
      refine r_sub [5, 6, 7, 8, 9, 10, 3, 1, 2, 0] rfl ?_
      exact hK _ _ _ _ _ h
    · have h := kif_f h q
      refine r_iload hc 8 dX7_programme_123 rfl ?_
      refine r_iload hc 1 dX7_programme_125 rfl ?_
      refine r_callSi (d := 0) hc (m_X7_has h) cw_X7_has wt_X7_has lm_X7_194 (by decide) (by decide) rfl rfl (Nat.le_of_ble_eq_true rfl) dX7_programme_127 (fun r_20 σ_19 h => ?_)
      refine r_if_ne hc 148 dX7_programme_130 (by decide) (fun q => ?_) (fun q => ?_)
      · have h := kif_t h q
        refine r_aload_n hc 2 dX7_programme_133 rfl ?_
        refine r_iload hc 10 dX7_programme_134 rfl ?_
        refine r_iload hc 1 dX7_programme_136 rfl ?_
        refine r_callVi (d := 4) hc (m_X7_isNight h) cw_X7_isNight wi_X7_isNight ws_X7_isNight lm_X7_211 (by decide) (by decide) rv_X7 rfl rfl (Nat.le_of_ble_eq_true rfl) dX7_programme_138 (fun r_22 σ_21 h => ?_)
        refine r_if_eq hc 148 dX7_programme_141 (by decide) (fun q => ?_) (fun q => ?_)
        · have h := kif_t h q
          refine r_iconst (v := 0) hc dX7_programme_148 rfl ?_
          refine r_istore hc [(9, .int 0), (7, .int x7_16), (11, .int x11_14), (0, kz g 55), (1, .int x1), (2, .int x2), (4, .int x4), (5, .int x5), (6, .int x6), (8, .int x8), (10, .int x10)] dX7_programme_149 (by decide) rfl ?_
          refine r_iload hc 9 dX7_programme_151 rfl ?_
          refine r_iconst (v := 1) hc dX7_programme_153 rfl ?_
          refine r_iload hc 2 dX7_programme_154 rfl ?_
          refine r_ishl hc dX7_programme_156 ?_
          refine r_ior hc dX7_programme_157 ?_
          refine r_nmI (fun x8_23 ex8_23 => ?_)
          have h := h x8_23 ex8_23
          refine r_istore hc [(8, .int x8_23), (9, .int 0), (7, .int x7_16), (11, .int x11_14), (0, kz g 55), (1, .int x1), (2, .int x2), (4, .int x4), (5, .int x5), (6, .int x6), (10, .int x10)] dX7_programme_158 (by decide) rfl ?_
          obtain ⟨x10_24, ex10_24⟩ : ∃ v : Int32, v = x10 + (-1) := ⟨_, rfl⟩
          have h := h x10_24 ex10_24
          refine r_iinc (v := x10_24) hc 10 [(10, .int x10_24), (8, .int x8_23), (9, .int 0), (7, .int x7_16), (11, .int x11_14), (0, kz g 55), (1, .int x1), (2, .int x2), (4, .int x4), (5, .int x5), (6, .int x6)] dX7_programme_160 rfl (by rw [ex10_24]; rfl) (by decide) rfl ?_
          refine r_goto hc 101 dX7_programme_163 (by decide) ?_
          refine r_sub [5, 6, 7, 8, 9, 10, 3, 1, 2, 0] rfl ?_
          exact hK _ _ _ _ _ h
        · have h := kif_f h q
          refine r_iconst (v := 1) hc dX7_programme_144 rfl ?_
          refine r_goto hc 149 dX7_programme_145 (by decide) ?_
          refine r_istore hc [(9, .int 1), (7, .int x7_16), (11, .int x11_14), (0, kz g 55), (1, .int x1), (2, .int x2), (4, .int x4), (5, .int x5), (6, .int x6), (8, .int x8), (10, .int x10)] dX7_programme_149 (by decide) rfl ?_
          refine r_iload hc 9 dX7_programme_151 rfl ?_
          refine r_iconst (v := 1) hc dX7_programme_153 rfl ?_
          refine r_iload hc 2 dX7_programme_154 rfl ?_
          refine r_ishl hc dX7_programme_156 ?_
          refine r_ior hc dX7_programme_157 ?_
          refine r_nmI (fun x8_25 ex8_25 => ?_)
          have h := h x8_25 ex8_25
          refine r_istore hc [(8, .int x8_25), (9, .int 1), (7, .int x7_16), (11, .int x11_14), (0, kz g 55), (1, .int x1), (2, .int x2), (4, .int x4), (5, .int x5), (6, .int x6), (10, .int x10)] dX7_programme_158 (by decide) rfl ?_
          obtain ⟨x10_26, ex10_26⟩ : ∃ v : Int32, v = x10 + (-1) := ⟨_, rfl⟩
          have h := h x10_26 ex10_26
          refine r_iinc (v := x10_26) hc 10 [(10, .int x10_26), (8, .int x8_25), (9, .int 1), (7, .int x7_16), (11, .int x11_14), (0, kz g 55), (1, .int x1), (2, .int x2), (4, .int x4), (5, .int x5), (6, .int x6)] dX7_programme_160 rfl (by rw [ex10_26]; rfl) (by decide) rfl ?_
          refine r_goto hc 101 dX7_programme_163 (by decide) ?_
          refine r_sub [5, 6, 7, 8, 9, 10, 3, 1, 2, 0] rfl ?_
          exact hK _ _ _ _ _ h
      · have h := kif_f h q
        refine r_iconst (v := 0) hc dX7_programme_148 rfl ?_
        refine r_istore hc [(9, .int 0), (7, .int x7_16), (11, .int x11_14), (0, kz g 55), (1, .int x1), (2, .int x2), (4, .int x4), (5, .int x5), (6, .int x6), (8, .int x8), (10, .int x10)] dX7_programme_149 (by decide) rfl ?_
        refine r_iload hc 9 dX7_programme_151 rfl ?_
        refine r_iconst (v := 1) hc dX7_programme_153 rfl ?_
        refine r_iload hc 2 dX7_programme_154 rfl ?_
        refine r_ishl hc dX7_programme_156 ?_
        refine r_ior hc dX7_programme_157 ?_
        refine r_nmI (fun x8_27 ex8_27 => ?_)
        have h := h x8_27 ex8_27
        refine r_istore hc [(8, .int x8_27), (9, .int 0), (7, .int x7_16), (11, .int x11_14), (0, kz g 55), (1, .int x1), (2, .int x2), (4, .int x4), (5, .int x5), (6, .int x6), (10, .int x10)] dX7_programme_158 (by decide) rfl ?_
        obtain ⟨x10_28, ex10_28⟩ : ∃ v : Int32, v = x10 + (-1) := ⟨_, rfl⟩
        have h := h x10_28 ex10_28
        refine r_iinc (v := x10_28) hc 10 [(10, .int x10_28), (8, .int x8_27), (9, .int 0), (7, .int x7_16), (11, .int x11_14), (0, kz g 55), (1, .int x1), (2, .int x2), (4, .int x4), (5, .int x5), (6, .int x6)] dX7_programme_160 rfl (by rw [ex10_28]; rfl) (by decide) rfl ?_
        refine r_goto hc 101 dX7_programme_163 (by decide) ?_
        refine r_sub [5, 6, 7, 8, 9, 10, 3, 1, 2, 0] rfl ?_
        exact hK _ _ _ _ _ h
theorem sl_X7_programme_101 {X : kX} {g : kG} {N : Nat} {Q : Int32 → kS → Prop} (hc : kOk X g RX7 cX7_programme 12 (some .int) 5) (hZ : kRi X g cX7_programme Q) {x1 : Int32} {x2 : Int32} {x4 : Int32} {x5 : Int32} {x6 : Int32} {E166 : Int32 → kS → Prop} (hE166 : ∀ (x9 : Int32) (τ : kS), E166 x9 τ → kP X g 12 166 [(0, kz g 55), (1, .int x1), (2, .int x2), (4, .int x4), (5, .int x5), (6, .int x6), (9, .int x9)] [] τ) : ∀ (n : Nat) (x7 : Int32) (x8 : Int32) (x9 : Int32) (x10 : Int32) (σ : kS), l_X7_programme_101 N Q x1 x2 x4 x5 x6 E166 n x7 x8 x9 x10 σ → kP X g 12 101 [(0, kz g 55), (1, .int x1), (2, .int x2), (4, .int x4), (5, .int x5), (6, .int x6), (7, .int x7), (8, .int x8), (9, .int x9), (10, .int x10)] [] σ := by
  intro n
  induction n with
  | zero => intro x7 x8 x9 x10 σ h; exact h.elim
  | succ n ih => intro x7 x8 x9 x10 σ h; exact sb_X7_programme_101 hc hZ hE166 ih h
def j_X7_programme_178 (N : Nat) (Q : Int32 → kS → Prop) (x1 : Int32) (x2 : Int32) (x5 : Int32) (x6 : Int32) (x9 : Int32) (s0 : Int32) (s1 : Int32) (K : Int32 → Int32 → Int32 → kS → Prop) (σ : kS) : Prop :=
  ∀ x4_31 : Int32, x4_31 = s1 + s0 → (if x9 = 0 then (∀ x6_32 : Int32, x6_32 = x6 + (-1) → (K x4_31 x5 x6_32 σ)) else (∀ x6_33 : Int32, x6_33 = x6 + (-1) → (K x4_31 x6 x6_33 σ)))
set_option maxHeartbeats 4000000 in
set_option maxRecDepth 100000 in
theorem sj_X7_programme_178 {X : kX} {g : kG} {N : Nat} {Q : Int32 → kS → Prop} (hc : kOk X g RX7 cX7_programme 12 (some .int) 5) (hZ : kRi X g cX7_programme Q) {x1 : Int32} {x2 : Int32} {x5 : Int32} {x6 : Int32} {x9 : Int32} {s0 : Int32} {s1 : Int32} {K : Int32 → Int32 → Int32 → kS → Prop} (hK : ∀ (x4 : Int32) (x5 : Int32) (x6 : Int32) (τ : kS), K x4 x5 x6 τ → kP X g 12 76 [(0, kz g 55), (1, .int x1), (2, .int x2), (4, .int x4), (5, .int x5), (6, .int x6)] [] τ) {σ : kS} (h : j_X7_programme_178 N Q x1 x2 x5 x6 x9 s0 s1 K σ) : kP X g 12 178 [(0, kz g 55), (1, .int x1), (2, .int x2), (5, .int x5), (6, .int x6), (9, .int x9)] [.int s0, .int s1] σ := by
  unfold j_X7_programme_178 at h
  refine r_iadd hc dX7_programme_178 ?_
  refine r_nmI (fun x4_31 ex4_31 => ?_)
  have h := h x4_31 ex4_31
  refine r_istore hc [(4, .int x4_31), (0, kz g 55), (1, .int x1), (2, .int x2), (5, .int x5), (6, .int x6), (9, .int x9)] dX7_programme_179 (by decide) rfl ?_
  refine r_iload hc 6 dX7_programme_181 rfl ?_
  refine r_if_eq hc 191 dX7_programme_183 (by decide) (fun q => ?_) (fun q => ?_)
  · have h := kif_t h q
    refine r_iload hc 4 dX7_programme_191 rfl ?_
    refine r_istore hc [(5, .int x5), (4, .int x4_31), (0, kz g 55), (1, .int x1), (2, .int x2), (6, .int x6), (9, .int x9)] dX7_programme_193 (by decide) rfl ?_
    obtain ⟨x6_32, ex6_32⟩ : ∃ v : Int32, v = x6 + (-1) := ⟨_, rfl⟩
    have h := h x6_32 ex6_32
    refine r_iinc (v := x6_32) hc 5 [(6, .int x6_32), (5, .int x5), (4, .int x4_31), (0, kz g 55), (1, .int x1), (2, .int x2), (9, .int x9)] dX7_programme_195 rfl (by rw [ex6_32]; rfl) (by decide) rfl ?_
    refine r_goto hc 76 dX7_programme_198 (by decide) ?_
    refine r_sub [3, 4, 5, 2, 1, 0] rfl ?_
    exact hK _ _ _ _ h
  · have h := kif_f h q
    refine r_iload hc 5 dX7_programme_186 rfl ?_
    refine r_goto hc 193 dX7_programme_188 (by decide) ?_
    refine r_istore hc [(5, .int x6), (4, .int x4_31), (0, kz g 55), (1, .int x1), (2, .int x2), (6, .int x6), (9, .int x9)] dX7_programme_193 (by decide) rfl ?_
    obtain ⟨x6_33, ex6_33⟩ : ∃ v : Int32, v = x6 + (-1) := ⟨_, rfl⟩
    have h := h x6_33 ex6_33
    refine r_iinc (v := x6_33) hc 5 [(6, .int x6_33), (5, .int x6), (4, .int x4_31), (0, kz g 55), (1, .int x1), (2, .int x2), (9, .int x9)] dX7_programme_195 rfl (by rw [ex6_33]; rfl) (by decide) rfl ?_
    refine r_goto hc 76 dX7_programme_198 (by decide) ?_
    refine r_sub [3, 4, 5, 2, 1, 0] rfl ?_
    exact hK _ _ _ _ h
def b_X7_programme_76 (N : Nat) (Q : Int32 → kS → Prop) (x1 : Int32) (x2 : Int32) (E201 : Int32 → Int32 → kS → Prop) (K : Int32 → Int32 → Int32 → kS → Prop) (x4 : Int32) (x5 : Int32) (x6 : Int32) (σ : kS) : Prop :=
  if x6 < 0 then (E201 x4 x5 σ) else (vp_in 3 57 ∧ (∀ x10_12 : Int32, x10_12 = (σ 59 (3 : Int32).toNatClampNeg) - 1 → (l_X7_programme_101 N Q x1 x2 x4 x5 x6 (fun (x9_29 : Int32) (σ_30 : kS) => if x9_29 = 0 then (j_X7_programme_178 N Q x1 x2 x5 x6 x9_29 0 x4 K σ_30) else (j_X7_programme_178 N Q x1 x2 x5 x6 x9_29 1 x4 K σ_30)) N x6 0 1 x10_12 σ)))
def l_X7_programme_76 (N : Nat) (Q : Int32 → kS → Prop) (x1 : Int32) (x2 : Int32) (E201 : Int32 → Int32 → kS → Prop) : Nat → Int32 → Int32 → Int32 → kS → Prop
  | 0 => fun _ _ _ _ => False
  | n + 1 => b_X7_programme_76 N Q x1 x2 E201 (l_X7_programme_76 N Q x1 x2 E201 n)
set_option maxHeartbeats 4000000 in
set_option maxRecDepth 100000 in
theorem sb_X7_programme_76 {X : kX} {g : kG} {N : Nat} {Q : Int32 → kS → Prop} (hc : kOk X g RX7 cX7_programme 12 (some .int) 5) (hZ : kRi X g cX7_programme Q) {x1 : Int32} {x2 : Int32} {E201 : Int32 → Int32 → kS → Prop} (hE201 : ∀ (x4 : Int32) (x5 : Int32) (τ : kS), E201 x4 x5 τ → kP X g 12 201 [(0, kz g 55), (1, .int x1), (2, .int x2), (4, .int x4), (5, .int x5)] [] τ) {K : Int32 → Int32 → Int32 → kS → Prop} (hK : ∀ (x4 : Int32) (x5 : Int32) (x6 : Int32) (τ : kS), K x4 x5 x6 τ → kP X g 12 76 [(0, kz g 55), (1, .int x1), (2, .int x2), (4, .int x4), (5, .int x5), (6, .int x6)] [] τ) {x4 : Int32} {x5 : Int32} {x6 : Int32} {σ : kS} (h : b_X7_programme_76 N Q x1 x2 E201 K x4 x5 x6 σ) : kP X g 12 76 [(0, kz g 55), (1, .int x1), (2, .int x2), (4, .int x4), (5, .int x5), (6, .int x6)] [] σ := by
  unfold b_X7_programme_76 at h
  refine r_iload hc 5 dX7_programme_76 rfl ?_
  refine r_if_lt hc 201 dX7_programme_78 (by decide) (fun q => ?_) (fun q => ?_)
  · have h := kif_t h q
    refine r_sub [0, 1, 2, 3, 4] rfl ?_
    exact hE201 _ _ _ h
  · have h := kif_f h q
    refine r_iload hc 5 dX7_programme_81 rfl ?_
    refine r_istore hc [(7, .int x6), (0, kz g 55), (1, .int x1), (2, .int x2), (4, .int x4), (5, .int x5), (6, .int x6)] dX7_programme_83 (by decide) rfl ?_
    refine r_iconst (v := 0) hc dX7_programme_85 rfl ?_
    refine r_istore hc [(8, .int 0), (7, .int x6), (0, kz g 55), (1, .int x1), (2, .int x2), (4, .int x4), (5, .int x5), (6, .int x6)] dX7_programme_86 (by decide) rfl ?_
    refine r_iconst (v := 1) hc dX7_programme_88 rfl ?_
    refine r_istore hc [(9, .int 1), (8, .int 0), (7, .int x6), (0, kz g 55), (1, .int x1), (2, .int x2), (4, .int x4), (5, .int x5), (6, .int x6)] dX7_programme_89 (by decide) rfl ?_
    refine r_aload_n hc 3 dX7_programme_91 rfl ?_
    refine gf_X7_5 hc lf_X7_19 dX7_programme_92 ?_
    refine r_iconst (v := 3) hc dX7_programme_95 rfl ?_
    obtain ⟨hi_11, h⟩ := h
    refine r_iald hc kia_59 hi_11 dX7_programme_96 ?_
    refine r_iconst (v := 1) hc dX7_programme_97 rfl ?_
    refine r_isub hc dX7_programme_98 ?_
    refine r_nmI (fun x10_12 ex10_12 => ?_)
    have h := h x10_12 ex10_12
    refine r_istore hc [(10, .int x10_12), (9, .int 1), (8, .int 0), (7, .int x6), (0, kz g 55), (1, .int x1), (2, .int x2), (4, .int x4), (5, .int x5), (6, .int x6)] dX7_programme_99 (by decide) rfl ?_
    refine r_sub [4, 5, 6, 7, 8, 9, 3, 2, 1, 0] rfl ?_
    refine sl_X7_programme_101 hc hZ (fun x9_29 σ_30 h => ?_) _ _ _ _ _ _ h
    refine r_iload hc 3 dX7_programme_166 rfl ?_
    refine r_iload hc 6 dX7_programme_168 rfl ?_
    refine r_if_eq hc 177 dX7_programme_170 (by decide) (fun q => ?_) (fun q => ?_)
    · have h := kif_t h q
      refine r_iconst (v := 0) hc dX7_programme_177 rfl ?_
      refine r_sub [0, 1, 2, 4, 5, 6] rfl ?_
      exact sj_X7_programme_178 hc hZ hK h
    · have h := kif_f h q
      refine r_iconst (v := 1) hc dX7_programme_173 rfl ?_
      refine r_goto hc 178 dX7_programme_174 (by decide) ?_
      refine r_sub [0, 1, 2, 4, 5, 6] rfl ?_
      exact sj_X7_programme_178 hc hZ hK h
theorem sl_X7_programme_76 {X : kX} {g : kG} {N : Nat} {Q : Int32 → kS → Prop} (hc : kOk X g RX7 cX7_programme 12 (some .int) 5) (hZ : kRi X g cX7_programme Q) {x1 : Int32} {x2 : Int32} {E201 : Int32 → Int32 → kS → Prop} (hE201 : ∀ (x4 : Int32) (x5 : Int32) (τ : kS), E201 x4 x5 τ → kP X g 12 201 [(0, kz g 55), (1, .int x1), (2, .int x2), (4, .int x4), (5, .int x5)] [] τ) : ∀ (n : Nat) (x4 : Int32) (x5 : Int32) (x6 : Int32) (σ : kS), l_X7_programme_76 N Q x1 x2 E201 n x4 x5 x6 σ → kP X g 12 76 [(0, kz g 55), (1, .int x1), (2, .int x2), (4, .int x4), (5, .int x5), (6, .int x6)] [] σ := by
  intro n
  induction n with
  | zero => intro x4 x5 x6 σ h; exact h.elim
  | succ n ih => intro x4 x5 x6 σ h; exact sb_X7_programme_76 hc hZ hE201 ih h
def j_X7_programme_220 (N : Nat) (Q : Int32 → kS → Prop) (x2 : Int32) (x4 : Int32) (σ : kS) : Prop :=
  if 0 ≤ x2 then (Q (-1000000) σ) else (Q x4 σ)
set_option maxHeartbeats 4000000 in
set_option maxRecDepth 100000 in
theorem sj_X7_programme_220 {X : kX} {g : kG} {N : Nat} {Q : Int32 → kS → Prop} (hc : kOk X g RX7 cX7_programme 12 (some .int) 5) (hZ : kRi X g cX7_programme Q) {x2 : Int32} {x4 : Int32} {σ : kS} (h : j_X7_programme_220 N Q x2 x4 σ) : kP X g 12 220 [(2, .int x2), (4, .int x4)] [] σ := by
  unfold j_X7_programme_220 at h
  refine r_iload_n hc 0 dX7_programme_220 rfl ?_
  refine r_if_ge hc 229 dX7_programme_221 (by decide) (fun q => ?_) (fun q => ?_)
  · have h := kif_t h q
    refine r_ldc hc lk_X7_165 dX7_programme_229 ?_
    exact r_iret (ls0 := []) hZ dX7_programme_231 h
  · have h := kif_f h q
    refine r_iload hc 1 dX7_programme_224 rfl ?_
    refine r_goto hc 231 dX7_programme_226 (by decide) ?_
    exact r_iret (ls0 := []) hZ dX7_programme_231 h
def b_X7_programme_242 (N : Nat) (Q : Int32 → kS → Prop) (x1 : Int32) (x2 : Int32) (K : Int32 → Int32 → kS → Prop) (x5 : Int32) (x6 : Int32) (σ : kS) : Prop :=
  if x6 ≤ x2 then (¬ x1 = 0 ∧ (Q (krem x5 x1) σ)) else (¬ x1 = 0 ∧ (∀ x5_42 : Int32, x5_42 = x5 / x1 → (∀ x6_43 : Int32, x6_43 = x6 + (-1) → (K x5_42 x6_43 σ))))
def l_X7_programme_242 (N : Nat) (Q : Int32 → kS → Prop) (x1 : Int32) (x2 : Int32) : Nat → Int32 → Int32 → kS → Prop
  | 0 => fun _ _ _ => False
  | n + 1 => b_X7_programme_242 N Q x1 x2 (l_X7_programme_242 N Q x1 x2 n)
set_option maxHeartbeats 4000000 in
set_option maxRecDepth 100000 in
theorem sb_X7_programme_242 {X : kX} {g : kG} {N : Nat} {Q : Int32 → kS → Prop} (hc : kOk X g RX7 cX7_programme 12 (some .int) 5) (hZ : kRi X g cX7_programme Q) {x1 : Int32} {x2 : Int32} {K : Int32 → Int32 → kS → Prop} (hK : ∀ (x5 : Int32) (x6 : Int32) (τ : kS), K x5 x6 τ → kP X g 12 242 [(1, .int x1), (2, .int x2), (5, .int x5), (6, .int x6)] [] τ) {x5 : Int32} {x6 : Int32} {σ : kS} (h : b_X7_programme_242 N Q x1 x2 K x5 x6 σ) : kP X g 12 242 [(1, .int x1), (2, .int x2), (5, .int x5), (6, .int x6)] [] σ := by
  unfold b_X7_programme_242 at h
  refine r_iload hc 3 dX7_programme_242 rfl ?_
  refine r_iload_n hc 1 dX7_programme_244 rfl ?_
  refine r_ic_le hc 260 dX7_programme_245 (by decide) (fun q => ?_) (fun q => ?_)
  · have h := kif_t h q
    refine r_iload hc 2 dX7_programme_260 rfl ?_
    refine r_iload_n hc 0 dX7_programme_262 rfl ?_
    obtain ⟨hn_40, h⟩ := h
    refine r_irem hc dX7_programme_263 hn_40 ?_
    exact r_iret (ls0 := []) hZ dX7_programme_264 h
  · have h := kif_f h q
    refine r_iload hc 2 dX7_programme_248 rfl ?_
    refine r_iload_n hc 0 dX7_programme_250 rfl ?_
    obtain ⟨hn_41, h⟩ := h
    refine r_idiv hc dX7_programme_251 hn_41 ?_
    refine r_nmI (fun x5_42 ex5_42 => ?_)
    have h := h x5_42 ex5_42
    refine r_istore hc [(5, .int x5_42), (1, .int x1), (2, .int x2), (6, .int x6)] dX7_programme_252 (by decide) rfl ?_
    obtain ⟨x6_43, ex6_43⟩ : ∃ v : Int32, v = x6 + (-1) := ⟨_, rfl⟩
    have h := h x6_43 ex6_43
    refine r_iinc (v := x6_43) hc 3 [(6, .int x6_43), (5, .int x5_42), (1, .int x1), (2, .int x2)] dX7_programme_254 rfl (by rw [ex6_43]; rfl) (by decide) rfl ?_
    refine r_goto hc 242 dX7_programme_257 (by decide) ?_
    refine r_sub [2, 3, 1, 0] rfl ?_
    exact hK _ _ _ h
theorem sl_X7_programme_242 {X : kX} {g : kG} {N : Nat} {Q : Int32 → kS → Prop} (hc : kOk X g RX7 cX7_programme 12 (some .int) 5) (hZ : kRi X g cX7_programme Q) {x1 : Int32} {x2 : Int32} : ∀ (n : Nat) (x5 : Int32) (x6 : Int32) (σ : kS), l_X7_programme_242 N Q x1 x2 n x5 x6 σ → kP X g 12 242 [(1, .int x1), (2, .int x2), (5, .int x5), (6, .int x6)] [] σ := by
  intro n
  induction n with
  | zero => intro x5 x6 σ h; exact h.elim
  | succ n ih => intro x5 x6 σ h; exact sb_X7_programme_242 hc hZ ih h
def w_X7_programme (N : Nat) (σ : kS) (x1 : Int32) (x2 : Int32) (Q : Int32 → kS → Prop) : Prop :=
  if (σ 55 4) = 0 then (Q (-1000002) σ) else (w_X7_in N σ (x1.toInt64) 1 6 (fun (r_2 : Int32) (σ_1 : kS) => if r_2 = 0 then (Q (-1000001) σ_1) else (w_X7_in N σ_1 (x2.toInt64) (-1) 3 (fun (r_4 : Int32) (σ_3 : kS) => if r_4 = 0 then (Q (-1000001) σ_3) else (l_X7_programme_44 N Q x1 x2 (fun (x3_8 : Int32) (σ_9 : kS) => ∀ x6_10 : Int32, x6_10 = x3_8 - 1 → (l_X7_programme_76 N Q x1 x2 (fun (x4_34 : Int32) (x5_35 : Int32) (σ_36 : kS) => if x2 < 0 then (j_X7_programme_220 N Q x2 x4_34 σ_36) else (if x4_34 = 0 then (j_X7_programme_220 N Q x2 x4_34 σ_36) else (vp_in 3 57 ∧ (if x2 < (σ_36 59 (3 : Int32).toNatClampNeg) then (vp_in 3 57 ∧ (∀ x6_39 : Int32, x6_39 = (σ_36 59 (3 : Int32).toNatClampNeg) - 1 → (l_X7_programme_242 N Q x1 x2  N x5_35 x6_39 σ_36))) else (j_X7_programme_220 N Q x2 x4_34 σ_36))))) N 0 0 x6_10 σ_9)) N 1 0 σ_3)))))
set_option maxHeartbeats 4000000 in
set_option maxRecDepth 100000 in
theorem s_X7_programme {X : kX} {g : kG} {N : Nat} {Q : Int32 → kS → Prop} (hc : kOk X g RX7 cX7_programme 12 (some .int) 5) (hZ : kRi X g cX7_programme Q) {σ : kS} {x1 : Int32} {x2 : Int32} (h : w_X7_programme N σ x1 x2 Q) : kP X g 12 0 [(0, kz g 55), (1, .int x1), (2, .int x2)] [] σ := by
  unfold w_X7_programme at h
  refine r_aload_n hc 0 dX7_programme_0 rfl ?_
  refine gf_X7_4 hc lf_X7_138 dX7_programme_1 ?_
  refine r_if_ne hc 10 dX7_programme_4 (by decide) (fun q => ?_) (fun q => ?_)
  · have h := kif_t h q
    refine r_ldc hc lk_X7_145 dX7_programme_7 ?_
    exact r_iret (ls0 := []) hZ dX7_programme_9 h
  · have h := kif_f h q
    refine r_iload_n hc 1 dX7_programme_10 rfl ?_
    refine r_i2l hc dX7_programme_11 ?_
    refine r_lconst (v := 1) hc dX7_programme_12 rfl ?_
    refine r_ldc2_w hc lK_X7_205 dX7_programme_13 ?_
    refine r_callSi (d := 0) hc (m_X7_in h) cw_X7_in wt_X7_in lm_X7_57 (by decide) (by decide) rfl rfl (Nat.le_of_ble_eq_true rfl) dX7_programme_16 (fun r_2 σ_1 h => ?_)
    refine r_if_eq hc 36 dX7_programme_19 (by decide) (fun q => ?_) (fun q => ?_)
    · have h := kif_t h q
      refine r_ldc hc lk_X7_67 dX7_programme_36 ?_
      exact r_iret (ls0 := []) hZ dX7_programme_38 h
    · have h := kif_f h q
      refine r_iload_n hc 2 dX7_programme_22 rfl ?_
      refine r_i2l hc dX7_programme_23 ?_
      refine r_ldc2_w hc lK_X7_207 dX7_programme_24 ?_
      refine r_ldc2_w hc lK_X7_209 dX7_programme_27 ?_
      refine r_callSi (d := 0) hc (m_X7_in h) cw_X7_in wt_X7_in lm_X7_57 (by decide) (by decide) rfl rfl (Nat.le_of_ble_eq_true rfl) dX7_programme_30 (fun r_4 σ_3 h => ?_)
      refine r_if_ne hc 39 dX7_programme_33 (by decide) (fun q => ?_) (fun q => ?_)
      · have h := kif_t h q
        refine r_ldc hc lk_X7_67 dX7_programme_36 ?_
        exact r_iret (ls0 := []) hZ dX7_programme_38 h
      · have h := kif_f h q
        refine r_iconst (v := 1) hc dX7_programme_39 rfl ?_
        refine r_istore_n hc [(3, .int 1), (0, kz g 55), (1, .int x1), (2, .int x2)] dX7_programme_40 (by decide) rfl ?_
        refine r_iconst (v := 0) hc dX7_programme_41 rfl ?_
        refine r_istore hc [(4, .int 0), (3, .int 1), (0, kz g 55), (1, .int x1), (2, .int x2)] dX7_programme_42 (by decide) rfl ?_
        refine r_sub [2, 3, 4, 1, 0] rfl ?_
        refine sl_X7_programme_44 hc hZ (fun x3_8 σ_9 h => ?_) _ _ _ _ h
        refine r_iconst (v := 0) hc dX7_programme_65 rfl ?_
        refine r_istore hc [(4, .int 0), (0, kz g 55), (1, .int x1), (2, .int x2), (3, .int x3_8)] dX7_programme_66 (by decide) rfl ?_
        refine r_iconst (v := 0) hc dX7_programme_68 rfl ?_
        refine r_istore hc [(5, .int 0), (4, .int 0), (0, kz g 55), (1, .int x1), (2, .int x2), (3, .int x3_8)] dX7_programme_69 (by decide) rfl ?_
        refine r_iload_n hc 5 dX7_programme_71 rfl ?_
        refine r_iconst (v := 1) hc dX7_programme_72 rfl ?_
        refine r_isub hc dX7_programme_73 ?_
        refine r_nmI (fun x6_10 ex6_10 => ?_)
        have h := h x6_10 ex6_10
        refine r_istore hc [(6, .int x6_10), (5, .int 0), (4, .int 0), (0, kz g 55), (1, .int x1), (2, .int x2), (3, .int x3_8)] dX7_programme_74 (by decide) rfl ?_
        refine r_sub [3, 4, 5, 2, 1, 0] rfl ?_
        refine sl_X7_programme_76 hc hZ (fun x4_34 x5_35 σ_36 h => ?_) _ _ _ _ _ h
        refine r_iload_n hc 2 dX7_programme_201 rfl ?_
        refine r_if_lt hc 220 dX7_programme_202 (by decide) (fun q => ?_) (fun q => ?_)
        · have h := kif_t h q
          refine r_sub [2, 3] rfl ?_
          exact sj_X7_programme_220 hc hZ h
        · have h := kif_f h q
          refine r_iload hc 3 dX7_programme_205 rfl ?_
          refine r_if_eq hc 220 dX7_programme_207 (by decide) (fun q => ?_) (fun q => ?_)
          · have h := kif_t h q
            refine r_sub [2, 3] rfl ?_
            exact sj_X7_programme_220 hc hZ h
          · have h := kif_f h q
            refine r_iload_n hc 2 dX7_programme_210 rfl ?_
            refine r_aload_n hc 0 dX7_programme_211 rfl ?_
            refine gf_X7_5 hc lf_X7_19 dX7_programme_212 ?_
            refine r_iconst (v := 3) hc dX7_programme_215 rfl ?_
            obtain ⟨hi_37, h⟩ := h
            refine r_iald hc kia_59 hi_37 dX7_programme_216 ?_
            refine r_ic_lt hc 232 dX7_programme_217 (by decide) (fun q => ?_) (fun q => ?_)
            · have h := kif_t h q
              refine r_aload_n hc 0 dX7_programme_232 rfl ?_
              refine gf_X7_5 hc lf_X7_19 dX7_programme_233 ?_
              refine r_iconst (v := 3) hc dX7_programme_236 rfl ?_
              obtain ⟨hi_38, h⟩ := h
              refine r_iald hc kia_59 hi_38 dX7_programme_237 ?_
              refine r_iconst (v := 1) hc dX7_programme_238 rfl ?_
              refine r_isub hc dX7_programme_239 ?_
              refine r_nmI (fun x6_39 ex6_39 => ?_)
              have h := h x6_39 ex6_39
              refine r_istore hc [(6, .int x6_39), (0, kz g 55), (1, .int x1), (2, .int x2), (4, .int x4_34), (5, .int x5_35)] dX7_programme_240 (by decide) rfl ?_
              refine r_sub [2, 3, 5, 0] rfl ?_
              refine sl_X7_programme_242 hc hZ _ _ _ _ h
            · have h := kif_f h q
              refine r_sub [2, 3] rfl ?_
              exact sj_X7_programme_220 hc hZ h
theorem m_X7_programme {l : Launch} {g : kG} {N : Nat} {σ : kS} {x1 : Int32} {x2 : Int32} {Q : Int32 → kS → Prop} (h : w_X7_programme N σ x1 x2 Q) : kMi l g yX7_programme cX7_programme 12 (some .int) 5 [kz g 55, .int x1, .int x2] σ Q :=
  k_met_i (by decide +kernel) rfl (Nat.le_of_ble_eq_true rfl) (fun X hl hc hZ => s_X7_programme hc hZ h)
def b_X7_chords_40 (N : Nat) (Q : Int32 → kS → Prop) (x1 : Int32) (x2 : Int32) (x3 : Int32) (E90 : Int32 → kS → Prop) (K : Int32 → Int32 → kS → Prop) (x4 : Int32) (x5 : Int32) (σ : kS) : Prop :=
  vp_in 0 57 ∧ (if (σ 59 (0 : Int32).toNatClampNeg) ≤ x5 then (E90 x4 σ) else (w_X7_has N σ x3 x5 (fun (r_4 : Int32) (σ_3 : kS) => if r_4 = 0 then (∀ x4_5 : Int32, x4_5 = x4 ||| 0 → (∀ x5_6 : Int32, x5_6 = x5 + 1 → (K x4_5 x5_6 σ_3))) else (vp_in 1 57 ∧ (w_X7_over N σ_3 (x5 + (σ_3 59 (1 : Int32).toNatClampNeg)) (fun (r_9 : Int32) (σ_8 : kS) => ∀ x4_10 : Int32, x4_10 = x4 ||| (1 <<< (r_9 &&& 31)) → (∀ x5_11 : Int32, x5_11 = x5 + 1 → (K x4_10 x5_11 σ_8))))))))
def l_X7_chords_40 (N : Nat) (Q : Int32 → kS → Prop) (x1 : Int32) (x2 : Int32) (x3 : Int32) (E90 : Int32 → kS → Prop) : Nat → Int32 → Int32 → kS → Prop
  | 0 => fun _ _ _ => False
  | n + 1 => b_X7_chords_40 N Q x1 x2 x3 E90 (l_X7_chords_40 N Q x1 x2 x3 E90 n)
set_option maxHeartbeats 4000000 in
set_option maxRecDepth 100000 in
theorem sb_X7_chords_40 {X : kX} {g : kG} {N : Nat} {Q : Int32 → kS → Prop} (hc : kOk X g RX7 cX7_chords 6 (some .int) 1) (hZ : kRi X g cX7_chords Q) {x1 : Int32} {x2 : Int32} {x3 : Int32} {E90 : Int32 → kS → Prop} (hE90 : ∀ (x4 : Int32) (τ : kS), E90 x4 τ → kP X g 6 90 [(0, kz g 55), (1, .int x1), (2, .int x2), (3, .int x3), (4, .int x4)] [] τ) {K : Int32 → Int32 → kS → Prop} (hK : ∀ (x4 : Int32) (x5 : Int32) (τ : kS), K x4 x5 τ → kP X g 6 40 [(0, kz g 55), (1, .int x1), (2, .int x2), (3, .int x3), (4, .int x4), (5, .int x5)] [] τ) {x4 : Int32} {x5 : Int32} {σ : kS} (h : b_X7_chords_40 N Q x1 x2 x3 E90 K x4 x5 σ) : kP X g 6 40 [(0, kz g 55), (1, .int x1), (2, .int x2), (3, .int x3), (4, .int x4), (5, .int x5)] [] σ := by
  unfold b_X7_chords_40 at h
  refine r_iload hc 5 dX7_chords_40 rfl ?_
  refine r_aload_n hc 0 dX7_chords_42 rfl ?_
  refine gf_X7_5 hc lf_X7_19 dX7_chords_43 ?_
  refine r_iconst (v := 0) hc dX7_chords_46 rfl ?_
  obtain ⟨hi_2, h⟩ := h
  refine r_iald hc kia_59 hi_2 dX7_chords_47 ?_
  refine r_ic_ge hc 90 dX7_chords_48 (by decide) (fun q => ?_) (fun q => ?_)
  · have h := kif_t h q
    refine r_sub [0, 1, 2, 3, 4] rfl ?_
    exact hE90 _ _ h
  · have h := kif_f h q
    refine r_iload hc 4 dX7_chords_51 rfl ?_
    refine r_iload_n hc 3 dX7_chords_53 rfl ?_
    refine r_iload hc 5 dX7_chords_54 rfl ?_
    refine r_callSi (d := 0) hc (m_X7_has h) cw_X7_has wt_X7_has lm_X7_194 (by decide) (by decide) rfl rfl (Nat.le_of_ble_eq_true rfl) dX7_chords_56 (fun r_4 σ_3 h => ?_)
    refine r_if_eq hc 80 dX7_chords_59 (by decide) (fun q => ?_) (fun q => ?_)
    · have h := kif_t h q
      refine r_iconst (v := 0) hc dX7_chords_80 rfl ?_
      refine r_ior hc dX7_chords_81 ?_
      refine r_nmI (fun x4_5 ex4_5 => ?_)
      have h := h x4_5 ex4_5
      refine r_istore hc [(4, .int x4_5), (0, kz g 55), (1, .int x1), (2, .int x2), (3, .int x3), (5, .int x5)] dX7_chords_82 (by decide) rfl ?_
      obtain ⟨x5_6, ex5_6⟩ : ∃ v : Int32, v = x5 + 1 := ⟨_, rfl⟩
      have h := h x5_6 ex5_6
      refine r_iinc (v := x5_6) hc 5 [(5, .int x5_6), (4, .int x4_5), (0, kz g 55), (1, .int x1), (2, .int x2), (3, .int x3)] dX7_chords_84 rfl (by rw [ex5_6]; rfl) (by decide) rfl ?_
      refine r_goto hc 40 dX7_chords_87 (by decide) ?_
      refine r_sub [2, 3, 4, 5, 1, 0] rfl ?_
      exact hK _ _ _ h
    · have h := kif_f h q
      refine r_iconst (v := 1) hc dX7_chords_62 rfl ?_
      refine r_aload_n hc 0 dX7_chords_63 rfl ?_
      refine r_iload hc 5 dX7_chords_64 rfl ?_
      refine r_aload_n hc 0 dX7_chords_66 rfl ?_
      refine gf_X7_5 hc lf_X7_19 dX7_chords_67 ?_
      refine r_iconst (v := 1) hc dX7_chords_70 rfl ?_
      obtain ⟨hi_7, h⟩ := h
      refine r_iald hc kia_59 hi_7 dX7_chords_71 ?_
      refine r_iadd hc dX7_chords_72 ?_
      refine r_callVi (d := 0) hc (m_X7_over h) cw_X7_over wi_X7_over ws_X7_over lm_X7_146 (by decide) (by decide) rv_X7 rfl rfl (Nat.le_of_ble_eq_true rfl) dX7_chords_73 (fun r_9 σ_8 h => ?_)
      refine r_ishl hc dX7_chords_76 ?_
      refine r_goto hc 81 dX7_chords_77 (by decide) ?_
      refine r_ior hc dX7_chords_81 ?_
      refine r_nmI (fun x4_10 ex4_10 => ?_)
      have h := h x4_10 ex4_10
      refine r_istore hc [(4, .int x4_10), (0, kz g 55), (1, .int x1), (2, .int x2), (3, .int x3), (5, .int x5)] dX7_chords_82 (by decide) rfl ?_
      obtain ⟨x5_11, ex5_11⟩ : ∃ v : Int32, v = x5 + 1 := ⟨_, rfl⟩
      have h := h x5_11 ex5_11
      refine r_iinc (v := x5_11) hc 5 [(5, .int x5_11), (4, .int x4_10), (0, kz g 55), (1, .int x1), (2, .int x2), (3, .int x3)] dX7_chords_84 rfl (by rw [ex5_11]; rfl) (by decide) rfl ?_
      refine r_goto hc 40 dX7_chords_87 (by decide) ?_
      refine r_sub [2, 3, 4, 5, 1, 0] rfl ?_
      exact hK _ _ _ h
theorem sl_X7_chords_40 {X : kX} {g : kG} {N : Nat} {Q : Int32 → kS → Prop} (hc : kOk X g RX7 cX7_chords 6 (some .int) 1) (hZ : kRi X g cX7_chords Q) {x1 : Int32} {x2 : Int32} {x3 : Int32} {E90 : Int32 → kS → Prop} (hE90 : ∀ (x4 : Int32) (τ : kS), E90 x4 τ → kP X g 6 90 [(0, kz g 55), (1, .int x1), (2, .int x2), (3, .int x3), (4, .int x4)] [] τ) : ∀ (n : Nat) (x4 : Int32) (x5 : Int32) (σ : kS), l_X7_chords_40 N Q x1 x2 x3 E90 n x4 x5 σ → kP X g 6 40 [(0, kz g 55), (1, .int x1), (2, .int x2), (3, .int x3), (4, .int x4), (5, .int x5)] [] σ := by
  intro n
  induction n with
  | zero => intro x4 x5 σ h; exact h.elim
  | succ n ih => intro x4 x5 σ h; exact sb_X7_chords_40 hc hZ hE90 ih h
def b_X7_chords_22 (N : Nat) (Q : Int32 → kS → Prop) (x1 : Int32) (E112 : Int32 → kS → Prop) (K : Int32 → Int32 → kS → Prop) (x2 : Int32) (x3 : Int32) (σ : kS) : Prop :=
  vp_in 0 57 ∧ (if (1 <<< ((σ 59 (0 : Int32).toNatClampNeg) &&& 31)) ≤ x3 then (E112 x2 σ) else (l_X7_chords_40 N Q x1 x2 x3 (fun (x4_12 : Int32) (σ_13 : kS) => if x4_12 = x3 then (if x2 = x1 then (Q x3 σ_13) else (∀ x2_14 : Int32, x2_14 = x2 + 1 → (∀ x3_15 : Int32, x3_15 = x3 + 1 → (K x2_14 x3_15 σ_13)))) else (∀ x3_16 : Int32, x3_16 = x3 + 1 → (K x2 x3_16 σ_13))) N 0 0 σ))
def l_X7_chords_22 (N : Nat) (Q : Int32 → kS → Prop) (x1 : Int32) (E112 : Int32 → kS → Prop) : Nat → Int32 → Int32 → kS → Prop
  | 0 => fun _ _ _ => False
  | n + 1 => b_X7_chords_22 N Q x1 E112 (l_X7_chords_22 N Q x1 E112 n)
set_option maxHeartbeats 4000000 in
set_option maxRecDepth 100000 in
theorem sb_X7_chords_22 {X : kX} {g : kG} {N : Nat} {Q : Int32 → kS → Prop} (hc : kOk X g RX7 cX7_chords 6 (some .int) 1) (hZ : kRi X g cX7_chords Q) {x1 : Int32} {E112 : Int32 → kS → Prop} (hE112 : ∀ (x2 : Int32) (τ : kS), E112 x2 τ → kP X g 6 112 [(1, .int x1), (2, .int x2)] [] τ) {K : Int32 → Int32 → kS → Prop} (hK : ∀ (x2 : Int32) (x3 : Int32) (τ : kS), K x2 x3 τ → kP X g 6 22 [(0, kz g 55), (1, .int x1), (2, .int x2), (3, .int x3)] [] τ) {x2 : Int32} {x3 : Int32} {σ : kS} (h : b_X7_chords_22 N Q x1 E112 K x2 x3 σ) : kP X g 6 22 [(0, kz g 55), (1, .int x1), (2, .int x2), (3, .int x3)] [] σ := by
  unfold b_X7_chords_22 at h
  refine r_iload_n hc 3 dX7_chords_22 rfl ?_
  refine r_iconst (v := 1) hc dX7_chords_23 rfl ?_
  refine r_aload_n hc 0 dX7_chords_24 rfl ?_
  refine gf_X7_5 hc lf_X7_19 dX7_chords_25 ?_
  refine r_iconst (v := 0) hc dX7_chords_28 rfl ?_
  obtain ⟨hi_1, h⟩ := h
  refine r_iald hc kia_59 hi_1 dX7_chords_29 ?_
  refine r_ishl hc dX7_chords_30 ?_
  refine r_ic_ge hc 112 dX7_chords_31 (by decide) (fun q => ?_) (fun q => ?_)
  · have h := kif_t h q
    refine r_sub [1, 2] rfl ?_
    exact hE112 _ _ h
  · have h := kif_f h q
    refine r_iconst (v := 0) hc dX7_chords_34 rfl ?_
    refine r_istore hc [(4, .int 0), (0, kz g 55), (1, .int x1), (2, .int x2), (3, .int x3)] dX7_chords_35 (by decide) rfl ?_
    refine r_iconst (v := 0) hc dX7_chords_37 rfl ?_
    refine r_istore hc [(5, .int 0), (4, .int 0), (0, kz g 55), (1, .int x1), (2, .int x2), (3, .int x3)] dX7_chords_38 (by decide) rfl ?_
    refine r_sub [2, 3, 4, 5, 1, 0] rfl ?_
    refine sl_X7_chords_40 hc hZ (fun x4_12 σ_13 h => ?_) _ _ _ _ h
    refine r_iload hc 4 dX7_chords_90 rfl ?_
    refine r_iload_n hc 3 dX7_chords_92 rfl ?_
    refine r_ic_ne hc 106 dX7_chords_93 (by decide) (fun q => ?_) (fun q => ?_)
    · have h := kif_t h q
      refine r_iload_n hc 2 dX7_chords_96 rfl ?_
      refine r_iload_n hc 1 dX7_chords_97 rfl ?_
      refine r_ic_ne hc 103 dX7_chords_98 (by decide) (fun q => ?_) (fun q => ?_)
      · have h := kif_t h q
        refine r_iload_n hc 3 dX7_chords_101 rfl ?_
        exact r_iret (ls0 := []) hZ dX7_chords_102 h
      · have h := kif_f h q
        obtain ⟨x2_14, ex2_14⟩ : ∃ v : Int32, v = x2 + 1 := ⟨_, rfl⟩
        have h := h x2_14 ex2_14
        refine r_iinc (v := x2_14) hc 2 [(2, .int x2_14), (0, kz g 55), (1, .int x1), (3, .int x3), (4, .int x4_12)] dX7_chords_103 rfl (by rw [ex2_14]; rfl) (by decide) rfl ?_
        obtain ⟨x3_15, ex3_15⟩ : ∃ v : Int32, v = x3 + 1 := ⟨_, rfl⟩
        have h := h x3_15 ex3_15
        refine r_iinc (v := x3_15) hc 3 [(3, .int x3_15), (2, .int x2_14), (0, kz g 55), (1, .int x1), (4, .int x4_12)] dX7_chords_106 rfl (by rw [ex3_15]; rfl) (by decide) rfl ?_
        refine r_goto hc 22 dX7_chords_109 (by decide) ?_
        refine r_sub [2, 3, 1, 0] rfl ?_
        exact hK _ _ _ h
    · have h := kif_f h q
      obtain ⟨x3_16, ex3_16⟩ : ∃ v : Int32, v = x3 + 1 := ⟨_, rfl⟩
      have h := h x3_16 ex3_16
      refine r_iinc (v := x3_16) hc 3 [(3, .int x3_16), (0, kz g 55), (1, .int x1), (2, .int x2), (4, .int x4_12)] dX7_chords_106 rfl (by rw [ex3_16]; rfl) (by decide) rfl ?_
      refine r_goto hc 22 dX7_chords_109 (by decide) ?_
      refine r_sub [1, 2, 3, 0] rfl ?_
      exact hK _ _ _ h
theorem sl_X7_chords_22 {X : kX} {g : kG} {N : Nat} {Q : Int32 → kS → Prop} (hc : kOk X g RX7 cX7_chords 6 (some .int) 1) (hZ : kRi X g cX7_chords Q) {x1 : Int32} {E112 : Int32 → kS → Prop} (hE112 : ∀ (x2 : Int32) (τ : kS), E112 x2 τ → kP X g 6 112 [(1, .int x1), (2, .int x2)] [] τ) : ∀ (n : Nat) (x2 : Int32) (x3 : Int32) (σ : kS), l_X7_chords_22 N Q x1 E112 n x2 x3 σ → kP X g 6 22 [(0, kz g 55), (1, .int x1), (2, .int x2), (3, .int x3)] [] σ := by
  intro n
  induction n with
  | zero => intro x2 x3 σ h; exact h.elim
  | succ n ih => intro x2 x3 σ h; exact sb_X7_chords_22 hc hZ hE112 ih h
def w_X7_chords (N : Nat) (σ : kS) (x1 : Int32) (Q : Int32 → kS → Prop) : Prop :=
  if (σ 55 4) = 0 then (Q (-1000002) σ) else (if (-1) ≤ x1 then (l_X7_chords_22 N Q x1 (fun (x2_17 : Int32) (σ_18 : kS) => if 0 ≤ x1 then (Q (-1000000) σ_18) else (Q x2_17 σ_18)) N 0 0 σ) else (Q (-1000001) σ))
set_option maxHeartbeats 4000000 in
set_option maxRecDepth 100000 in
theorem s_X7_chords {X : kX} {g : kG} {N : Nat} {Q : Int32 → kS → Prop} (hc : kOk X g RX7 cX7_chords 6 (some .int) 1) (hZ : kRi X g cX7_chords Q) {σ : kS} {x1 : Int32} (h : w_X7_chords N σ x1 Q) : kP X g 6 0 [(0, kz g 55), (1, .int x1)] [] σ := by
  unfold w_X7_chords at h
  refine r_aload_n hc 0 dX7_chords_0 rfl ?_
  refine gf_X7_4 hc lf_X7_138 dX7_chords_1 ?_
  refine r_if_ne hc 10 dX7_chords_4 (by decide) (fun q => ?_) (fun q => ?_)
  · have h := kif_t h q
    refine r_ldc hc lk_X7_145 dX7_chords_7 ?_
    exact r_iret (ls0 := []) hZ dX7_chords_9 h
  · have h := kif_f h q
    refine r_iload_n hc 1 dX7_chords_10 rfl ?_
    refine r_iconst (v := (-1)) hc dX7_chords_11 rfl ?_
    refine r_ic_ge hc 18 dX7_chords_12 (by decide) (fun q => ?_) (fun q => ?_)
    · have h := kif_t h q
      refine r_iconst (v := 0) hc dX7_chords_18 rfl ?_
      refine r_istore_n hc [(2, .int 0), (0, kz g 55), (1, .int x1)] dX7_chords_19 (by decide) rfl ?_
      refine r_iconst (v := 0) hc dX7_chords_20 rfl ?_
      refine r_istore_n hc [(3, .int 0), (2, .int 0), (0, kz g 55), (1, .int x1)] dX7_chords_21 (by decide) rfl ?_
      refine r_sub [2, 3, 1, 0] rfl ?_
      refine sl_X7_chords_22 hc hZ (fun x2_17 σ_18 h => ?_) _ _ _ _ h
      refine r_iload_n hc 0 dX7_chords_112 rfl ?_
      refine r_if_ge hc 120 dX7_chords_113 (by decide) (fun q => ?_) (fun q => ?_)
      · have h := kif_t h q
        refine r_ldc hc lk_X7_165 dX7_chords_120 ?_
        exact r_iret (ls0 := []) hZ dX7_chords_122 h
      · have h := kif_f h q
        refine r_iload_n hc 1 dX7_chords_116 rfl ?_
        refine r_goto hc 122 dX7_chords_117 (by decide) ?_
        exact r_iret (ls0 := []) hZ dX7_chords_122 h
    · have h := kif_f h q
      refine r_ldc hc lk_X7_67 dX7_chords_15 ?_
      exact r_iret (ls0 := []) hZ dX7_chords_17 h
theorem m_X7_chords {l : Launch} {g : kG} {N : Nat} {σ : kS} {x1 : Int32} {Q : Int32 → kS → Prop} (h : w_X7_chords N σ x1 Q) : kMi l g yX7_chords cX7_chords 6 (some .int) 1 [kz g 55, .int x1] σ Q :=
  k_met_i (by decide +kernel) rfl (Nat.le_of_ble_eq_true rfl) (fun X hl hc hZ => s_X7_chords hc hZ h)
def b_X7_who_87 (N : Nat) (Q : Int32 → kS → Prop) (x1 : Int32) (x2 : Int32) (x3 : Int32) (x4 : Int32) (x6 : Int32) (x7 : Int32) (x8 : Int32) (E146 : Int32 → kS → Prop) (K : Int32 → Int32 → kS → Prop) (x9 : Int32) (x10 : Int32) (σ : kS) : Prop :=
  vp_in (6 + x2) 57 ∧ (if (σ 59 (6 + x2).toNatClampNeg) ≤ x10 then (E146 x9 σ) else (if x9 = 0 then (∀ x10_14 : Int32, x10_14 = x10 + 1 → (K 0 x10_14 σ)) else (vp_in (((40 * x3) + x4) + x10) 320 ∧ (w_X7_heardBy N σ x8 x2 x10 (fun (r_17 : Int32) (σ_16 : kS) => if (σ 58 (((40 * x3) + x4) + x10).toNatClampNeg) = r_17 then (∀ x10_18 : Int32, x10_18 = x10 + 1 → (K 1 x10_18 σ_16)) else (∀ x10_19 : Int32, x10_19 = x10 + 1 → (K 0 x10_19 σ_16)))))))
def l_X7_who_87 (N : Nat) (Q : Int32 → kS → Prop) (x1 : Int32) (x2 : Int32) (x3 : Int32) (x4 : Int32) (x6 : Int32) (x7 : Int32) (x8 : Int32) (E146 : Int32 → kS → Prop) : Nat → Int32 → Int32 → kS → Prop
  | 0 => fun _ _ _ => False
  | n + 1 => b_X7_who_87 N Q x1 x2 x3 x4 x6 x7 x8 E146 (l_X7_who_87 N Q x1 x2 x3 x4 x6 x7 x8 E146 n)
set_option maxHeartbeats 4000000 in
set_option maxRecDepth 100000 in
theorem sb_X7_who_87 {X : kX} {g : kG} {N : Nat} {Q : Int32 → kS → Prop} (hc : kOk X g RX7 cX7_who 11 (some .int) 2) (hZ : kRi X g cX7_who Q) {x1 : Int32} {x2 : Int32} {x3 : Int32} {x4 : Int32} {x6 : Int32} {x7 : Int32} {x8 : Int32} {E146 : Int32 → kS → Prop} (hE146 : ∀ (x9 : Int32) (τ : kS), E146 x9 τ → kP X g 11 146 [(0, kz g 55), (1, .int x1), (2, .int x2), (3, .int x3), (4, .int x4), (6, .int x6), (7, .int x7), (9, .int x9)] [] τ) {K : Int32 → Int32 → kS → Prop} (hK : ∀ (x9 : Int32) (x10 : Int32) (τ : kS), K x9 x10 τ → kP X g 11 87 [(0, kz g 55), (1, .int x1), (2, .int x2), (3, .int x3), (4, .int x4), (6, .int x6), (7, .int x7), (8, .int x8), (9, .int x9), (10, .int x10)] [] τ) {x9 : Int32} {x10 : Int32} {σ : kS} (h : b_X7_who_87 N Q x1 x2 x3 x4 x6 x7 x8 E146 K x9 x10 σ) : kP X g 11 87 [(0, kz g 55), (1, .int x1), (2, .int x2), (3, .int x3), (4, .int x4), (6, .int x6), (7, .int x7), (8, .int x8), (9, .int x9), (10, .int x10)] [] σ := by
  unfold b_X7_who_87 at h
  refine r_iload hc 9 dX7_who_87 rfl ?_
  refine r_aload_n hc 0 dX7_who_89 rfl ?_
  refine gf_X7_5 hc lf_X7_19 dX7_who_90 ?_
  refine r_bipush (v := 6) hc dX7_who_93 rfl ?_
  refine r_iload_n hc 2 dX7_who_95 rfl ?_
  refine r_iadd hc dX7_who_96 ?_
  obtain ⟨hi_13, h⟩ := h
  refine r_iald hc kia_59 hi_13 dX7_who_97 ?_
  refine r_ic_ge hc 146 dX7_who_98 (by decide) (fun q => ?_) (fun q => ?_)
  · have h := kif_t h q
    refine r_sub [0, 1, 2, 3, 4, 5, 6, 8] rfl ?_
    exact hE146 _ _ h
  · have h := kif_f h q
    refine r_iload hc 8 dX7_who_101 rfl ?_
    refine r_if_eq hc 137 dX7_who_103 (by decide) (fun q => ?_) (fun q => ?_)
    · have h := kif_t h q
      refine r_iconst (v := 0) hc dX7_who_137 rfl ?_
      refine r_istore hc [(9, .int 0), (0, kz g 55), (1, .int x1), (2, .int x2), (3, .int x3), (4, .int x4), (6, .int x6), (7, .int x7), (8, .int x8), (10, .int x10)] dX7_who_138 (by decide) rfl ?_
      obtain ⟨x10_14, ex10_14⟩ : ∃ v : Int32, v = x10 + 1 := ⟨_, rfl⟩
      have h := h x10_14 ex10_14
      refine r_iinc (v := x10_14) hc 9 [(10, .int x10_14), (9, .int 0), (0, kz g 55), (1, .int x1), (2, .int x2), (3, .int x3), (4, .int x4), (6, .int x6), (7, .int x7), (8, .int x8)] dX7_who_140 rfl (by rw [ex10_14]; rfl) (by decide) rfl ?_
      refine r_goto hc 87 dX7_who_143 (by decide) ?_
      refine r_sub [2, 3, 4, 5, 6, 7, 8, 9, 1, 0] rfl ?_
      exact hK _ _ _ h
    · have h := kif_f h q
      refine r_aload_n hc 0 dX7_who_106 rfl ?_
      refine gf_X7_2 hc lf_X7_16 dX7_who_107 ?_
      refine r_bipush (v := 40) hc dX7_who_110 rfl ?_
      refine r_iload_n hc 3 dX7_who_112 rfl ?_
      refine r_imul hc dX7_who_113 ?_
      refine r_iload hc 4 dX7_who_114 rfl ?_
      refine r_iadd hc dX7_who_116 ?_
      refine r_iload hc 9 dX7_who_117 rfl ?_
      refine r_iadd hc dX7_who_119 ?_
      obtain ⟨hi_15, h⟩ := h
      refine r_iald hc kia_58 hi_15 dX7_who_120 ?_
      refine r_aload_n hc 0 dX7_who_121 rfl ?_
      refine r_iload hc 7 dX7_who_122 rfl ?_
      refine r_iload_n hc 2 dX7_who_124 rfl ?_
      refine r_iload hc 9 dX7_who_125 rfl ?_
      refine r_callVi (d := 1) hc (m_X7_heardBy h) cw_X7_heardBy wi_X7_heardBy ws_X7_heardBy lm_X7_182 (by decide) (by decide) rv_X7 rfl rfl (Nat.le_of_ble_eq_true rfl) dX7_who_127 (fun r_17 σ_16 h => ?_)
      refine r_ic_ne hc 137 dX7_who_130 (by decide) (fun q => ?_) (fun q => ?_)
      · have h := kif_t h q
        refine r_iconst (v := 1) hc dX7_who_133 rfl ?_
        refine r_goto hc 138 dX7_who_134 (by decide) ?_
        refine r_istore hc [(9, .int 1), (0, kz g 55), (1, .int x1), (2, .int x2), (3, .int x3), (4, .int x4), (6, .int x6), (7, .int x7), (8, .int x8), (10, .int x10)] dX7_who_138 (by decide) rfl ?_
        obtain ⟨x10_18, ex10_18⟩ : ∃ v : Int32, v = x10 + 1 := ⟨_, rfl⟩
        have h := h x10_18 ex10_18
        refine r_iinc (v := x10_18) hc 9 [(10, .int x10_18), (9, .int 1), (0, kz g 55), (1, .int x1), (2, .int x2), (3, .int x3), (4, .int x4), (6, .int x6), (7, .int x7), (8, .int x8)] dX7_who_140 rfl (by rw [ex10_18]; rfl) (by decide) rfl ?_
        refine r_goto hc 87 dX7_who_143 (by decide) ?_
        refine r_sub [2, 3, 4, 5, 6, 7, 8, 9, 1, 0] rfl ?_
        exact hK _ _ _ h
      · have h := kif_f h q
        refine r_iconst (v := 0) hc dX7_who_137 rfl ?_
        refine r_istore hc [(9, .int 0), (0, kz g 55), (1, .int x1), (2, .int x2), (3, .int x3), (4, .int x4), (6, .int x6), (7, .int x7), (8, .int x8), (10, .int x10)] dX7_who_138 (by decide) rfl ?_
        obtain ⟨x10_19, ex10_19⟩ : ∃ v : Int32, v = x10 + 1 := ⟨_, rfl⟩
        have h := h x10_19 ex10_19
        refine r_iinc (v := x10_19) hc 9 [(10, .int x10_19), (9, .int 0), (0, kz g 55), (1, .int x1), (2, .int x2), (3, .int x3), (4, .int x4), (6, .int x6), (7, .int x7), (8, .int x8)] dX7_who_140 rfl (by rw [ex10_19]; rfl) (by decide) rfl ?_
        refine r_goto hc 87 dX7_who_143 (by decide) ?_
        refine r_sub [2, 3, 4, 5, 6, 7, 8, 9, 1, 0] rfl ?_
        exact hK _ _ _ h
theorem sl_X7_who_87 {X : kX} {g : kG} {N : Nat} {Q : Int32 → kS → Prop} (hc : kOk X g RX7 cX7_who 11 (some .int) 2) (hZ : kRi X g cX7_who Q) {x1 : Int32} {x2 : Int32} {x3 : Int32} {x4 : Int32} {x6 : Int32} {x7 : Int32} {x8 : Int32} {E146 : Int32 → kS → Prop} (hE146 : ∀ (x9 : Int32) (τ : kS), E146 x9 τ → kP X g 11 146 [(0, kz g 55), (1, .int x1), (2, .int x2), (3, .int x3), (4, .int x4), (6, .int x6), (7, .int x7), (9, .int x9)] [] τ) : ∀ (n : Nat) (x9 : Int32) (x10 : Int32) (σ : kS), l_X7_who_87 N Q x1 x2 x3 x4 x6 x7 x8 E146 n x9 x10 σ → kP X g 11 87 [(0, kz g 55), (1, .int x1), (2, .int x2), (3, .int x3), (4, .int x4), (6, .int x6), (7, .int x7), (8, .int x8), (9, .int x9), (10, .int x10)] [] σ := by
  intro n
  induction n with
  | zero => intro x9 x10 σ h; exact h.elim
  | succ n ih => intro x9 x10 σ h; exact sb_X7_who_87 hc hZ hE146 ih h
def b_X7_who_58 (N : Nat) (Q : Int32 → kS → Prop) (x1 : Int32) (x2 : Int32) (x3 : Int32) (x4 : Int32) (E170 : Int32 → kS → Prop) (K : Int32 → Int32 → kS → Prop) (x6 : Int32) (x7 : Int32) (σ : kS) : Prop :=
  if 5 < x7 then (E170 x6 σ) else (vp_in (47 + x1) 57 ∧ (w_X7_biasBy N σ x7 (σ 59 (47 + x1).toNatClampNeg) (fun (r_12 : Int32) (σ_11 : kS) => l_X7_who_87 N Q x1 x2 x3 x4 x6 x7 r_12 (fun (x9_20 : Int32) (σ_21 : kS) => if x9_20 = 0 then (∀ x6_22 : Int32, x6_22 = x6 ||| 0 → (∀ x7_23 : Int32, x7_23 = x7 + 1 → (K x6_22 x7_23 σ_21))) else (∀ x6_24 : Int32, x6_24 = x6 ||| (1 <<< (x7 &&& 31)) → (∀ x7_25 : Int32, x7_25 = x7 + 1 → (K x6_24 x7_25 σ_21)))) N 1 0 σ_11)))
def l_X7_who_58 (N : Nat) (Q : Int32 → kS → Prop) (x1 : Int32) (x2 : Int32) (x3 : Int32) (x4 : Int32) (E170 : Int32 → kS → Prop) : Nat → Int32 → Int32 → kS → Prop
  | 0 => fun _ _ _ => False
  | n + 1 => b_X7_who_58 N Q x1 x2 x3 x4 E170 (l_X7_who_58 N Q x1 x2 x3 x4 E170 n)
set_option maxHeartbeats 4000000 in
set_option maxRecDepth 100000 in
theorem sb_X7_who_58 {X : kX} {g : kG} {N : Nat} {Q : Int32 → kS → Prop} (hc : kOk X g RX7 cX7_who 11 (some .int) 2) (hZ : kRi X g cX7_who Q) {x1 : Int32} {x2 : Int32} {x3 : Int32} {x4 : Int32} {E170 : Int32 → kS → Prop} (hE170 : ∀ (x6 : Int32) (τ : kS), E170 x6 τ → kP X g 11 170 [(0, kz g 55), (6, .int x6)] [] τ) {K : Int32 → Int32 → kS → Prop} (hK : ∀ (x6 : Int32) (x7 : Int32) (τ : kS), K x6 x7 τ → kP X g 11 58 [(0, kz g 55), (1, .int x1), (2, .int x2), (3, .int x3), (4, .int x4), (6, .int x6), (7, .int x7)] [] τ) {x6 : Int32} {x7 : Int32} {σ : kS} (h : b_X7_who_58 N Q x1 x2 x3 x4 E170 K x6 x7 σ) : kP X g 11 58 [(0, kz g 55), (1, .int x1), (2, .int x2), (3, .int x3), (4, .int x4), (6, .int x6), (7, .int x7)] [] σ := by
  unfold b_X7_who_58 at h
  refine r_iload hc 6 dX7_who_58 rfl ?_
  refine r_iconst (v := 5) hc dX7_who_60 rfl ?_
  refine r_ic_gt hc 170 dX7_who_61 (by decide) (fun q => ?_) (fun q => ?_)
  · have h := kif_t h q
    refine r_sub [0, 5] rfl ?_
    exact hE170 _ _ h
  · have h := kif_f h q
    refine r_aload_n hc 0 dX7_who_64 rfl ?_
    refine r_iload hc 6 dX7_who_65 rfl ?_
    refine r_aload_n hc 0 dX7_who_67 rfl ?_
    refine gf_X7_5 hc lf_X7_19 dX7_who_68 ?_
    refine r_bipush (v := 47) hc dX7_who_71 rfl ?_
    refine r_iload_n hc 1 dX7_who_73 rfl ?_
    refine r_iadd hc dX7_who_74 ?_
    obtain ⟨hi_10, h⟩ := h
    refine r_iald hc kia_59 hi_10 dX7_who_75 ?_
    refine r_callVi (d := 1) hc (m_X7_biasBy h) cw_X7_biasBy wi_X7_biasBy ws_X7_biasBy lm_X7_166 (by decide) (by decide) rv_X7 rfl rfl (Nat.le_of_ble_eq_true rfl) dX7_who_76 (fun r_12 σ_11 h => ?_)
    refine r_istore hc [(8, .int r_12), (0, kz g 55), (1, .int x1), (2, .int x2), (3, .int x3), (4, .int x4), (6, .int x6), (7, .int x7)] dX7_who_79 (by decide) rfl ?_
    refine r_iconst (v := 1) hc dX7_who_81 rfl ?_
    refine r_istore hc [(9, .int 1), (8, .int r_12), (0, kz g 55), (1, .int x1), (2, .int x2), (3, .int x3), (4, .int x4), (6, .int x6), (7, .int x7)] dX7_who_82 (by decide) rfl ?_
    refine r_iconst (v := 0) hc dX7_who_84 rfl ?_
    refine r_istore hc [(10, .int 0), (9, .int 1), (8, .int r_12), (0, kz g 55), (1, .int x1), (2, .int x2), (3, .int x3), (4, .int x4), (6, .int x6), (7, .int x7)] dX7_who_85 (by decide) rfl ?_
    refine r_sub [3, 4, 5, 6, 7, 8, 9, 2, 1, 0] rfl ?_
    refine sl_X7_who_87 hc hZ (fun x9_20 σ_21 h => ?_) _ _ _ _ h
    refine r_iload hc 5 dX7_who_146 rfl ?_
    refine r_iload hc 7 dX7_who_148 rfl ?_
    refine r_if_eq hc 160 dX7_who_150 (by decide) (fun q => ?_) (fun q => ?_)
    · have h := kif_t h q
      refine r_iconst (v := 0) hc dX7_who_160 rfl ?_
      refine r_ior hc dX7_who_161 ?_
      refine r_nmI (fun x6_22 ex6_22 => ?_)
      have h := h x6_22 ex6_22
      refine r_istore hc [(6, .int x6_22), (0, kz g 55), (1, .int x1), (2, .int x2), (3, .int x3), (4, .int x4), (7, .int x7), (9, .int x9_20)] dX7_who_162 (by decide) rfl ?_
      obtain ⟨x7_23, ex7_23⟩ : ∃ v : Int32, v = x7 + 1 := ⟨_, rfl⟩
      have h := h x7_23 ex7_23
      refine r_iinc (v := x7_23) hc 6 [(7, .int x7_23), (6, .int x6_22), (0, kz g 55), (1, .int x1), (2, .int x2), (3, .int x3), (4, .int x4), (9, .int x9_20)] dX7_who_164 rfl (by rw [ex7_23]; rfl) (by decide) rfl ?_
      refine r_goto hc 58 dX7_who_167 (by decide) ?_
      refine r_sub [2, 3, 4, 5, 6, 1, 0] rfl ?_
      exact hK _ _ _ h
    · have h := kif_f h q
      refine r_iconst (v := 1) hc dX7_who_153 rfl ?_
      refine r_iload hc 6 dX7_who_154 rfl ?_
      refine r_ishl hc dX7_who_156 ?_
      refine r_goto hc 161 dX7_who_157 (by decide) ?_
      refine r_ior hc dX7_who_161 ?_
      refine r_nmI (fun x6_24 ex6_24 => ?_)
      have h := h x6_24 ex6_24
      refine r_istore hc [(6, .int x6_24), (0, kz g 55), (1, .int x1), (2, .int x2), (3, .int x3), (4, .int x4), (7, .int x7), (9, .int x9_20)] dX7_who_162 (by decide) rfl ?_
      obtain ⟨x7_25, ex7_25⟩ : ∃ v : Int32, v = x7 + 1 := ⟨_, rfl⟩
      have h := h x7_25 ex7_25
      refine r_iinc (v := x7_25) hc 6 [(7, .int x7_25), (6, .int x6_24), (0, kz g 55), (1, .int x1), (2, .int x2), (3, .int x3), (4, .int x4), (9, .int x9_20)] dX7_who_164 rfl (by rw [ex7_25]; rfl) (by decide) rfl ?_
      refine r_goto hc 58 dX7_who_167 (by decide) ?_
      refine r_sub [2, 3, 4, 5, 6, 1, 0] rfl ?_
      exact hK _ _ _ h
theorem sl_X7_who_58 {X : kX} {g : kG} {N : Nat} {Q : Int32 → kS → Prop} (hc : kOk X g RX7 cX7_who 11 (some .int) 2) (hZ : kRi X g cX7_who Q) {x1 : Int32} {x2 : Int32} {x3 : Int32} {x4 : Int32} {E170 : Int32 → kS → Prop} (hE170 : ∀ (x6 : Int32) (τ : kS), E170 x6 τ → kP X g 11 170 [(0, kz g 55), (6, .int x6)] [] τ) : ∀ (n : Nat) (x6 : Int32) (x7 : Int32) (σ : kS), l_X7_who_58 N Q x1 x2 x3 x4 E170 n x6 x7 σ → kP X g 11 58 [(0, kz g 55), (1, .int x1), (2, .int x2), (3, .int x3), (4, .int x4), (6, .int x6), (7, .int x7)] [] σ := by
  intro n
  induction n with
  | zero => intro x6 x7 σ h; exact h.elim
  | succ n ih => intro x6 x7 σ h; exact sb_X7_who_58 hc hZ hE170 ih h
