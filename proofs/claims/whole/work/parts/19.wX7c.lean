def w_X7_who (N : Nat) (σ : kS) (x1 : Int32) (x2 : Int32) (x3 : Int32) (x4 : Int32) (Q : Int32 → kS → Prop) : Prop :=
  w_X7_isPupil N σ x1 (fun (r_2 : Int32) (σ_1 : kS) => if r_2 = 0 then (Q (-1000001) σ_1) else (w_X7_isPiece N σ_1 x2 (fun (r_4 : Int32) (σ_3 : kS) => if r_4 = 0 then (Q (-1000001) σ_3) else (w_X7_isRow N σ_3 x3 (fun (r_6 : Int32) (σ_5 : kS) => if r_6 = 0 then (Q (-1000001) σ_5) else (vp_in (6 + x2) 57 ∧ (w_X7_lacks N σ_5 x3 x4 (σ_5 59 (6 + x2).toNatClampNeg) (fun (r_9 : Int32) (σ_8 : kS) => if 0 ≤ r_9 then (l_X7_who_58 N Q x1 x2 x3 x4 (fun (x6_26 : Int32) (σ_27 : kS) => w_X7_well N σ_27 x6_26 (fun (r_29 : Int32) (σ_28 : kS) => Q r_29 σ_28)) N 0 1 σ_8) else (Q r_9 σ_8)))))))))
set_option maxHeartbeats 4000000 in
set_option maxRecDepth 100000 in
theorem s_X7_who {X : kX} {g : kG} {N : Nat} {Q : Int32 → kS → Prop} (hc : kOk X g RX7 cX7_who 11 (some .int) 2) (hZ : kRi X g cX7_who Q) {σ : kS} {x1 : Int32} {x2 : Int32} {x3 : Int32} {x4 : Int32} (h : w_X7_who N σ x1 x2 x3 x4 Q) : kP X g 11 0 [(0, kz g 55), (1, .int x1), (2, .int x2), (3, .int x3), (4, .int x4)] [] σ := by
  unfold w_X7_who at h
  refine r_aload_n hc 0 dX7_who_0 rfl ?_
  refine r_iload_n hc 1 dX7_who_1 rfl ?_
  refine r_callVi (d := 1) hc (m_X7_isPupil h) cw_X7_isPupil wi_X7_isPupil ws_X7_isPupil lm_X7_159 (by decide) (by decide) rv_X7 rfl rfl (Nat.le_of_ble_eq_true rfl) dX7_who_2 (fun r_2 σ_1 h => ?_)
  refine r_if_eq hc 23 dX7_who_5 (by decide) (fun q => ?_) (fun q => ?_)
  · have h := kif_t h q
    refine r_ldc hc lk_X7_67 dX7_who_23 ?_
    exact r_iret (ls0 := []) hZ dX7_who_25 h
  · have h := kif_f h q
    refine r_aload_n hc 0 dX7_who_8 rfl ?_
    refine r_iload_n hc 2 dX7_who_9 rfl ?_
    refine r_callVi (d := 1) hc (m_X7_isPiece h) cw_X7_isPiece wi_X7_isPiece ws_X7_isPiece lm_X7_162 (by decide) (by decide) rv_X7 rfl rfl (Nat.le_of_ble_eq_true rfl) dX7_who_10 (fun r_4 σ_3 h => ?_)
    refine r_if_eq hc 23 dX7_who_13 (by decide) (fun q => ?_) (fun q => ?_)
    · have h := kif_t h q
      refine r_ldc hc lk_X7_67 dX7_who_23 ?_
      exact r_iret (ls0 := []) hZ dX7_who_25 h
    · have h := kif_f h q
      refine r_iload_n hc 3 dX7_who_16 rfl ?_
      refine r_callSi (d := 1) hc (m_X7_isRow h) cw_X7_isRow wt_X7_isRow lm_X7_61 (by decide) (by decide) rfl rfl (Nat.le_of_ble_eq_true rfl) dX7_who_17 (fun r_6 σ_5 h => ?_)
      refine r_if_ne hc 26 dX7_who_20 (by decide) (fun q => ?_) (fun q => ?_)
      · have h := kif_t h q
        refine r_ldc hc lk_X7_67 dX7_who_23 ?_
        exact r_iret (ls0 := []) hZ dX7_who_25 h
      · have h := kif_f h q
        refine r_aload_n hc 0 dX7_who_26 rfl ?_
        refine r_iload_n hc 3 dX7_who_27 rfl ?_
        refine r_iload hc 4 dX7_who_28 rfl ?_
        refine r_aload_n hc 0 dX7_who_30 rfl ?_
        refine gf_X7_5 hc lf_X7_19 dX7_who_31 ?_
        refine r_bipush (v := 6) hc dX7_who_34 rfl ?_
        refine r_iload_n hc 2 dX7_who_36 rfl ?_
        refine r_iadd hc dX7_who_37 ?_
        obtain ⟨hi_7, h⟩ := h
        refine r_iald hc kia_59 hi_7 dX7_who_38 ?_
        refine r_callVi (d := 1) hc (m_X7_lacks h) cw_X7_lacks wi_X7_lacks ws_X7_lacks lm_X7_191 (by decide) (by decide) rv_X7 rfl rfl (Nat.le_of_ble_eq_true rfl) dX7_who_39 (fun r_9 σ_8 h => ?_)
        refine r_istore hc [(5, .int r_9), (0, kz g 55), (1, .int x1), (2, .int x2), (3, .int x3), (4, .int x4)] dX7_who_42 (by decide) rfl ?_
        refine r_iload hc 0 dX7_who_44 rfl ?_
        refine r_if_ge hc 52 dX7_who_46 (by decide) (fun q => ?_) (fun q => ?_)
        · have h := kif_t h q
          refine r_iconst (v := 0) hc dX7_who_52 rfl ?_
          refine r_istore hc [(6, .int 0), (5, .int r_9), (0, kz g 55), (1, .int x1), (2, .int x2), (3, .int x3), (4, .int x4)] dX7_who_53 (by decide) rfl ?_
          refine r_iconst (v := 1) hc dX7_who_55 rfl ?_
          refine r_istore hc [(7, .int 1), (6, .int 0), (5, .int r_9), (0, kz g 55), (1, .int x1), (2, .int x2), (3, .int x3), (4, .int x4)] dX7_who_56 (by decide) rfl ?_
          refine r_sub [3, 4, 5, 6, 7, 1, 0] rfl ?_
          refine sl_X7_who_58 hc hZ (fun x6_26 σ_27 h => ?_) _ _ _ _ h
          refine r_aload_n hc 0 dX7_who_170 rfl ?_
          refine r_iload hc 1 dX7_who_171 rfl ?_
          refine r_callVi (d := 0) hc (m_X7_well h) cw_X7_well wi_X7_well ws_X7_well lm_X7_72 (by decide) (by decide) rv_X7 rfl rfl (Nat.le_of_ble_eq_true rfl) dX7_who_173 (fun r_29 σ_28 h => ?_)
          exact r_iret (ls0 := []) hZ dX7_who_176 h
        · have h := kif_f h q
          refine r_iload hc 0 dX7_who_49 rfl ?_
          exact r_iret (ls0 := []) hZ dX7_who_51 h
theorem m_X7_who {l : Launch} {g : kG} {N : Nat} {σ : kS} {x1 : Int32} {x2 : Int32} {x3 : Int32} {x4 : Int32} {Q : Int32 → kS → Prop} (h : w_X7_who N σ x1 x2 x3 x4 Q) : kMi l g yX7_who cX7_who 11 (some .int) 2 [kz g 55, .int x1, .int x2, .int x3, .int x4] σ Q :=
  k_met_i (by decide +kernel) rfl (Nat.le_of_ble_eq_true rfl) (fun X hl hc hZ => s_X7_who hc hZ h)
def b_X7_tunings_39 (N : Nat) (Q : Int32 → kS → Prop) (x1 : Int32) (x2 : Int32) (E74 : kS → Prop) (K : Int32 → kS → Prop) (x3 : Int32) (σ : kS) : Prop :=
  if 12 ≤ x3 then (E74 σ) else (vp_in 2 57 ∧ (if x3 = (σ 59 (2 : Int32).toNatClampNeg) then (vp_in x3 12 ∧ (∀ σ_7 : kS, σ_7 = st2 σ 64 (x3.toNatClampNeg) 0 → (∀ x3_8 : Int32, x3_8 = x3 + 1 → (K x3_8 σ_7)))) else (vp_in x3 12 ∧ (∀ σ_10 : kS, σ_10 = st2 σ 64 (x3.toNatClampNeg) 999 → (∀ x3_11 : Int32, x3_11 = x3 + 1 → (K x3_11 σ_10))))))
def l_X7_tunings_39 (N : Nat) (Q : Int32 → kS → Prop) (x1 : Int32) (x2 : Int32) (E74 : kS → Prop) : Nat → Int32 → kS → Prop
  | 0 => fun _ _ => False
  | n + 1 => b_X7_tunings_39 N Q x1 x2 E74 (l_X7_tunings_39 N Q x1 x2 E74 n)
set_option maxHeartbeats 4000000 in
set_option maxRecDepth 100000 in
theorem sb_X7_tunings_39 {X : kX} {g : kG} {N : Nat} {Q : Int32 → kS → Prop} (hc : kOk X g RX7 cX7_tunings 6 (some .int) 1) (hZ : kRi X g cX7_tunings Q) {x1 : Int32} {x2 : Int32} {E74 : kS → Prop} (hE74 : ∀ (τ : kS), E74 τ → kP X g 6 74 [(0, kz g 55), (1, .int x1), (2, .int x2)] [] τ) {K : Int32 → kS → Prop} (hK : ∀ (x3 : Int32) (τ : kS), K x3 τ → kP X g 6 39 [(0, kz g 55), (1, .int x1), (2, .int x2), (3, .int x3)] [] τ) {x3 : Int32} {σ : kS} (h : b_X7_tunings_39 N Q x1 x2 E74 K x3 σ) : kP X g 6 39 [(0, kz g 55), (1, .int x1), (2, .int x2), (3, .int x3)] [] σ := by
  unfold b_X7_tunings_39 at h
  refine r_iload_n hc 3 dX7_tunings_39 rfl ?_
  refine r_bipush (v := 12) hc dX7_tunings_40 rfl ?_
  refine r_ic_ge hc 74 dX7_tunings_42 (by decide) (fun q => ?_) (fun q => ?_)
  · have h := kif_t h q
    refine r_sub [0, 1, 2] rfl ?_
    exact hE74 _ h
  · have h := kif_f h q
    refine r_aload_n hc 0 dX7_tunings_45 rfl ?_
    refine gf_X7_20 hc lf_X7_34 dX7_tunings_46 ?_
    refine r_iload_n hc 3 dX7_tunings_49 rfl ?_
    refine r_iload_n hc 3 dX7_tunings_50 rfl ?_
    refine r_aload_n hc 0 dX7_tunings_51 rfl ?_
    refine gf_X7_5 hc lf_X7_19 dX7_tunings_52 ?_
    refine r_iconst (v := 2) hc dX7_tunings_55 rfl ?_
    obtain ⟨hi_5, h⟩ := h
    refine r_iald hc kia_59 hi_5 dX7_tunings_56 ?_
    refine r_ic_ne hc 64 dX7_tunings_57 (by decide) (fun q => ?_) (fun q => ?_)
    · have h := kif_t h q
      refine r_iconst (v := 0) hc dX7_tunings_60 rfl ?_
      refine r_goto hc 67 dX7_tunings_61 (by decide) ?_
      obtain ⟨hi_6, h⟩ := h
      refine r_iast hc kia_64 hi_6 dX7_tunings_67 ?_
      refine r_nmS (fun σ_7 eσ_7 => ?_)
      have h := h σ_7 eσ_7
      obtain ⟨x3_8, ex3_8⟩ : ∃ v : Int32, v = x3 + 1 := ⟨_, rfl⟩
      have h := h x3_8 ex3_8
      refine r_iinc (v := x3_8) hc 3 [(3, .int x3_8), (0, kz g 55), (1, .int x1), (2, .int x2)] dX7_tunings_68 rfl (by rw [ex3_8]; rfl) (by decide) rfl ?_
      refine r_goto hc 39 dX7_tunings_71 (by decide) ?_
      refine r_sub [1, 2, 3, 0] rfl ?_
      exact hK _ _ h
    · have h := kif_f h q
      refine r_sipush (v := 999) hc dX7_tunings_64 rfl ?_
      obtain ⟨hi_9, h⟩ := h
      refine r_iast hc kia_64 hi_9 dX7_tunings_67 ?_
      refine r_nmS (fun σ_10 eσ_10 => ?_)
      have h := h σ_10 eσ_10
      obtain ⟨x3_11, ex3_11⟩ : ∃ v : Int32, v = x3 + 1 := ⟨_, rfl⟩
      have h := h x3_11 ex3_11
      refine r_iinc (v := x3_11) hc 3 [(3, .int x3_11), (0, kz g 55), (1, .int x1), (2, .int x2)] dX7_tunings_68 rfl (by rw [ex3_11]; rfl) (by decide) rfl ?_
      refine r_goto hc 39 dX7_tunings_71 (by decide) ?_
      refine r_sub [1, 2, 3, 0] rfl ?_
      exact hK _ _ h
theorem sl_X7_tunings_39 {X : kX} {g : kG} {N : Nat} {Q : Int32 → kS → Prop} (hc : kOk X g RX7 cX7_tunings 6 (some .int) 1) (hZ : kRi X g cX7_tunings Q) {x1 : Int32} {x2 : Int32} {E74 : kS → Prop} (hE74 : ∀ (τ : kS), E74 τ → kP X g 6 74 [(0, kz g 55), (1, .int x1), (2, .int x2)] [] τ) : ∀ (n : Nat) (x3 : Int32) (σ : kS), l_X7_tunings_39 N Q x1 x2 E74 n x3 σ → kP X g 6 39 [(0, kz g 55), (1, .int x1), (2, .int x2), (3, .int x3)] [] σ := by
  intro n
  induction n with
  | zero => intro x3 σ h; exact h.elim
  | succ n ih => intro x3 σ h; exact sb_X7_tunings_39 hc hZ hE74 ih h
def b_X7_tunings_84 (N : Nat) (Q : Int32 → kS → Prop) (x1 : Int32) (x2 : Int32) (x3 : Int32) (E107 : kS → Prop) (K : Int32 → kS → Prop) (x4 : Int32) (σ : kS) : Prop :=
  if 12 ≤ x4 then (E107 σ) else (vp_in x4 12 ∧ (∀ σ_14 : kS, σ_14 = st2 σ 65 (x4.toNatClampNeg) 999 → (∀ x4_15 : Int32, x4_15 = x4 + 1 → (K x4_15 σ_14))))
def l_X7_tunings_84 (N : Nat) (Q : Int32 → kS → Prop) (x1 : Int32) (x2 : Int32) (x3 : Int32) (E107 : kS → Prop) : Nat → Int32 → kS → Prop
  | 0 => fun _ _ => False
  | n + 1 => b_X7_tunings_84 N Q x1 x2 x3 E107 (l_X7_tunings_84 N Q x1 x2 x3 E107 n)
set_option maxHeartbeats 4000000 in
set_option maxRecDepth 100000 in
theorem sb_X7_tunings_84 {X : kX} {g : kG} {N : Nat} {Q : Int32 → kS → Prop} (hc : kOk X g RX7 cX7_tunings 6 (some .int) 1) (hZ : kRi X g cX7_tunings Q) {x1 : Int32} {x2 : Int32} {x3 : Int32} {E107 : kS → Prop} (hE107 : ∀ (τ : kS), E107 τ → kP X g 6 107 [(0, kz g 55), (1, .int x1), (2, .int x2), (3, .int x3)] [] τ) {K : Int32 → kS → Prop} (hK : ∀ (x4 : Int32) (τ : kS), K x4 τ → kP X g 6 84 [(0, kz g 55), (1, .int x1), (2, .int x2), (3, .int x3), (4, .int x4)] [] τ) {x4 : Int32} {σ : kS} (h : b_X7_tunings_84 N Q x1 x2 x3 E107 K x4 σ) : kP X g 6 84 [(0, kz g 55), (1, .int x1), (2, .int x2), (3, .int x3), (4, .int x4)] [] σ := by
  unfold b_X7_tunings_84 at h
  refine r_iload hc 4 dX7_tunings_84 rfl ?_
  refine r_bipush (v := 12) hc dX7_tunings_86 rfl ?_
  refine r_ic_ge hc 107 dX7_tunings_88 (by decide) (fun q => ?_) (fun q => ?_)
  · have h := kif_t h q
    refine r_sub [0, 1, 2, 3] rfl ?_
    exact hE107 _ h
  · have h := kif_f h q
    refine r_aload_n hc 0 dX7_tunings_91 rfl ?_
    refine gf_X7_21 hc lf_X7_37 dX7_tunings_92 ?_
    refine r_iload hc 4 dX7_tunings_95 rfl ?_
    refine r_sipush (v := 999) hc dX7_tunings_97 rfl ?_
    obtain ⟨hi_13, h⟩ := h
    refine r_iast hc kia_65 hi_13 dX7_tunings_100 ?_
    refine r_nmS (fun σ_14 eσ_14 => ?_)
    have h := h σ_14 eσ_14
    obtain ⟨x4_15, ex4_15⟩ : ∃ v : Int32, v = x4 + 1 := ⟨_, rfl⟩
    have h := h x4_15 ex4_15
    refine r_iinc (v := x4_15) hc 4 [(4, .int x4_15), (0, kz g 55), (1, .int x1), (2, .int x2), (3, .int x3)] dX7_tunings_101 rfl (by rw [ex4_15]; rfl) (by decide) rfl ?_
    refine r_goto hc 84 dX7_tunings_104 (by decide) ?_
    refine r_sub [1, 2, 3, 4, 0] rfl ?_
    exact hK _ _ h
theorem sl_X7_tunings_84 {X : kX} {g : kG} {N : Nat} {Q : Int32 → kS → Prop} (hc : kOk X g RX7 cX7_tunings 6 (some .int) 1) (hZ : kRi X g cX7_tunings Q) {x1 : Int32} {x2 : Int32} {x3 : Int32} {E107 : kS → Prop} (hE107 : ∀ (τ : kS), E107 τ → kP X g 6 107 [(0, kz g 55), (1, .int x1), (2, .int x2), (3, .int x3)] [] τ) : ∀ (n : Nat) (x4 : Int32) (σ : kS), l_X7_tunings_84 N Q x1 x2 x3 E107 n x4 σ → kP X g 6 84 [(0, kz g 55), (1, .int x1), (2, .int x2), (3, .int x3), (4, .int x4)] [] σ := by
  intro n
  induction n with
  | zero => intro x4 σ h; exact h.elim
  | succ n ih => intro x4 σ h; exact sb_X7_tunings_84 hc hZ hE107 ih h
def j_X7_tunings_182 (N : Nat) (Q : Int32 → kS → Prop) (x1 : Int32) (x2 : Int32) (x3 : Int32) (x4 : Int32) (s0 : Int32) (s1 : Int32) (K : Int32 → kS → Prop) (σ : kS) : Prop :=
  vp_in s1 12 ∧ (∀ σ_23 : kS, σ_23 = st2 σ 65 (s1.toNatClampNeg) s0 → (vp_in x4 12 ∧ (vp_in 0 12 ∧ (if (σ_23 65 (0 : Int32).toNatClampNeg) ≤ ((σ_23 64 x4.toNatClampNeg) + 1) then (vp_in 0 12 ∧ (vp_in 0 12 ∧ (∀ σ_28 : kS, σ_28 = st2 σ_23 65 ((0 : Int32).toNatClampNeg) (σ_23 65 (0 : Int32).toNatClampNeg) → (∀ x4_29 : Int32, x4_29 = x4 + 1 → (K x4_29 σ_28))))) else (vp_in x4 12 ∧ (vp_in 0 12 ∧ (∀ σ_32 : kS, σ_32 = st2 σ_23 65 ((0 : Int32).toNatClampNeg) ((σ_23 64 x4.toNatClampNeg) + 1) → (∀ x4_33 : Int32, x4_33 = x4 + 1 → (K x4_33 σ_32)))))))))
set_option maxHeartbeats 4000000 in
set_option maxRecDepth 100000 in
theorem sj_X7_tunings_182 {X : kX} {g : kG} {N : Nat} {Q : Int32 → kS → Prop} (hc : kOk X g RX7 cX7_tunings 6 (some .int) 1) (hZ : kRi X g cX7_tunings Q) {x1 : Int32} {x2 : Int32} {x3 : Int32} {x4 : Int32} {s0 : Int32} {s1 : Int32} {K : Int32 → kS → Prop} (hK : ∀ (x4 : Int32) (τ : kS), K x4 τ → kP X g 6 110 [(0, kz g 55), (1, .int x1), (2, .int x2), (3, .int x3), (4, .int x4)] [] τ) {σ : kS} (h : j_X7_tunings_182 N Q x1 x2 x3 x4 s0 s1 K σ) : kP X g 6 182 [(0, kz g 55), (1, .int x1), (2, .int x2), (3, .int x3), (4, .int x4)] [.int s0, .int s1, kz g 65] σ := by
  unfold j_X7_tunings_182 at h
  obtain ⟨hi_22, h⟩ := h
  refine r_iast hc kia_65 hi_22 dX7_tunings_182 ?_
  refine r_nmS (fun σ_23 eσ_23 => ?_)
  have h := h σ_23 eσ_23
  refine r_aload_n hc 0 dX7_tunings_183 rfl ?_
  refine gf_X7_21 hc lf_X7_37 dX7_tunings_184 ?_
  refine r_iconst (v := 0) hc dX7_tunings_187 rfl ?_
  refine r_aload_n hc 0 dX7_tunings_188 rfl ?_
  refine gf_X7_20 hc lf_X7_34 dX7_tunings_189 ?_
  refine r_iload hc 4 dX7_tunings_192 rfl ?_
  obtain ⟨hi_24, h⟩ := h
  refine r_iald hc kia_64 hi_24 dX7_tunings_194 ?_
  refine r_iconst (v := 1) hc dX7_tunings_195 rfl ?_
  refine r_iadd hc dX7_tunings_196 ?_
  refine r_aload_n hc 0 dX7_tunings_197 rfl ?_
  refine gf_X7_21 hc lf_X7_37 dX7_tunings_198 ?_
  refine r_iconst (v := 0) hc dX7_tunings_201 rfl ?_
  obtain ⟨hi_25, h⟩ := h
  refine r_iald hc kia_65 hi_25 dX7_tunings_202 ?_
  refine r_ic_ge hc 218 dX7_tunings_203 (by decide) (fun q => ?_) (fun q => ?_)
  · have h := kif_t h q
    refine r_aload_n hc 0 dX7_tunings_218 rfl ?_
    refine gf_X7_21 hc lf_X7_37 dX7_tunings_219 ?_
    refine r_iconst (v := 0) hc dX7_tunings_222 rfl ?_
    obtain ⟨hi_26, h⟩ := h
    refine r_iald hc kia_65 hi_26 dX7_tunings_223 ?_
    obtain ⟨hi_27, h⟩ := h
    refine r_iast hc kia_65 hi_27 dX7_tunings_224 ?_
    refine r_nmS (fun σ_28 eσ_28 => ?_)
    have h := h σ_28 eσ_28
    obtain ⟨x4_29, ex4_29⟩ : ∃ v : Int32, v = x4 + 1 := ⟨_, rfl⟩
    have h := h x4_29 ex4_29
    refine r_iinc (v := x4_29) hc 4 [(4, .int x4_29), (0, kz g 55), (1, .int x1), (2, .int x2), (3, .int x3)] dX7_tunings_225 rfl (by rw [ex4_29]; rfl) (by decide) rfl ?_
    refine r_goto hc 110 dX7_tunings_228 (by decide) ?_
    refine r_sub [1, 2, 3, 4, 0] rfl ?_
    exact hK _ _ h
  · have h := kif_f h q
    refine r_aload_n hc 0 dX7_tunings_206 rfl ?_
    refine gf_X7_20 hc lf_X7_34 dX7_tunings_207 ?_
    refine r_iload hc 4 dX7_tunings_210 rfl ?_
    obtain ⟨hi_30, h⟩ := h
    refine r_iald hc kia_64 hi_30 dX7_tunings_212 ?_
    refine r_iconst (v := 1) hc dX7_tunings_213 rfl ?_
    refine r_iadd hc dX7_tunings_214 ?_
    refine r_goto hc 224 dX7_tunings_215 (by decide) ?_
    obtain ⟨hi_31, h⟩ := h
    refine r_iast hc kia_65 hi_31 dX7_tunings_224 ?_
    refine r_nmS (fun σ_32 eσ_32 => ?_)
    have h := h σ_32 eσ_32
    obtain ⟨x4_33, ex4_33⟩ : ∃ v : Int32, v = x4 + 1 := ⟨_, rfl⟩
    have h := h x4_33 ex4_33
    refine r_iinc (v := x4_33) hc 4 [(4, .int x4_33), (0, kz g 55), (1, .int x1), (2, .int x2), (3, .int x3)] dX7_tunings_225 rfl (by rw [ex4_33]; rfl) (by decide) rfl ?_
    refine r_goto hc 110 dX7_tunings_228 (by decide) ?_
    refine r_sub [1, 2, 3, 4, 0] rfl ?_
    exact hK _ _ h
def j_X7_tunings_175 (N : Nat) (Q : Int32 → kS → Prop) (x1 : Int32) (x2 : Int32) (x3 : Int32) (x4 : Int32) (x5 : Int32) (s0 : Int32) (K : Int32 → kS → Prop) (σ : kS) : Prop :=
  vp_in x5 12 ∧ (j_X7_tunings_182 N Q x1 x2 x3 x4 (σ 65 x5.toNatClampNeg) s0 K σ)
set_option maxHeartbeats 4000000 in
set_option maxRecDepth 100000 in
theorem sj_X7_tunings_175 {X : kX} {g : kG} {N : Nat} {Q : Int32 → kS → Prop} (hc : kOk X g RX7 cX7_tunings 6 (some .int) 1) (hZ : kRi X g cX7_tunings Q) {x1 : Int32} {x2 : Int32} {x3 : Int32} {x4 : Int32} {x5 : Int32} {s0 : Int32} {K : Int32 → kS → Prop} (hK : ∀ (x4 : Int32) (τ : kS), K x4 τ → kP X g 6 110 [(0, kz g 55), (1, .int x1), (2, .int x2), (3, .int x3), (4, .int x4)] [] τ) {σ : kS} (h : j_X7_tunings_175 N Q x1 x2 x3 x4 x5 s0 K σ) : kP X g 6 175 [(0, kz g 55), (1, .int x1), (2, .int x2), (3, .int x3), (4, .int x4), (5, .int x5)] [.int s0, kz g 65] σ := by
  unfold j_X7_tunings_175 at h
  refine r_aload_n hc 0 dX7_tunings_175 rfl ?_
  refine gf_X7_21 hc lf_X7_37 dX7_tunings_176 ?_
  refine r_iload hc 5 dX7_tunings_179 rfl ?_
  obtain ⟨hi_21, h⟩ := h
  refine r_iald hc kia_65 hi_21 dX7_tunings_181 ?_
  refine r_sub [0, 1, 2, 3, 4] rfl ?_
  exact sj_X7_tunings_182 hc hZ hK h
def b_X7_tunings_110 (N : Nat) (Q : Int32 → kS → Prop) (x1 : Int32) (x2 : Int32) (x3 : Int32) (E231 : kS → Prop) (K : Int32 → kS → Prop) (x4 : Int32) (σ : kS) : Prop :=
  vp_in 0 57 ∧ (if (σ 59 (0 : Int32).toNatClampNeg) ≤ x4 then (E231 σ) else (vp_in 1 57 ∧ (w_X7_over N σ (x4 + (σ 59 (1 : Int32).toNatClampNeg)) (fun (r_20 : Int32) (σ_19 : kS) => if x2 < r_20 then (j_X7_tunings_175 N Q x1 x2 x3 x4 r_20 r_20 K σ_19) else (vp_in x4 12 ∧ (vp_in r_20 12 ∧ (if (σ_19 65 r_20.toNatClampNeg) ≤ (σ_19 64 x4.toNatClampNeg) then (j_X7_tunings_175 N Q x1 x2 x3 x4 r_20 r_20 K σ_19) else (vp_in x4 12 ∧ (j_X7_tunings_182 N Q x1 x2 x3 x4 (σ_19 64 x4.toNatClampNeg) r_20 K σ_19)))))))))
def l_X7_tunings_110 (N : Nat) (Q : Int32 → kS → Prop) (x1 : Int32) (x2 : Int32) (x3 : Int32) (E231 : kS → Prop) : Nat → Int32 → kS → Prop
  | 0 => fun _ _ => False
  | n + 1 => b_X7_tunings_110 N Q x1 x2 x3 E231 (l_X7_tunings_110 N Q x1 x2 x3 E231 n)
set_option maxHeartbeats 4000000 in
set_option maxRecDepth 100000 in
theorem sb_X7_tunings_110 {X : kX} {g : kG} {N : Nat} {Q : Int32 → kS → Prop} (hc : kOk X g RX7 cX7_tunings 6 (some .int) 1) (hZ : kRi X g cX7_tunings Q) {x1 : Int32} {x2 : Int32} {x3 : Int32} {E231 : kS → Prop} (hE231 : ∀ (τ : kS), E231 τ → kP X g 6 231 [(0, kz g 55), (1, .int x1), (2, .int x2), (3, .int x3)] [] τ) {K : Int32 → kS → Prop} (hK : ∀ (x4 : Int32) (τ : kS), K x4 τ → kP X g 6 110 [(0, kz g 55), (1, .int x1), (2, .int x2), (3, .int x3), (4, .int x4)] [] τ) {x4 : Int32} {σ : kS} (h : b_X7_tunings_110 N Q x1 x2 x3 E231 K x4 σ) : kP X g 6 110 [(0, kz g 55), (1, .int x1), (2, .int x2), (3, .int x3), (4, .int x4)] [] σ := by
  unfold b_X7_tunings_110 at h
  refine r_iload hc 4 dX7_tunings_110 rfl ?_
  refine r_aload_n hc 0 dX7_tunings_112 rfl ?_
  refine gf_X7_5 hc lf_X7_19 dX7_tunings_113 ?_
  refine r_iconst (v := 0) hc dX7_tunings_116 rfl ?_
  obtain ⟨hi_17, h⟩ := h
  refine r_iald hc kia_59 hi_17 dX7_tunings_117 ?_
  refine r_ic_ge hc 231 dX7_tunings_118 (by decide) (fun q => ?_) (fun q => ?_)
  · have h := kif_t h q
    refine r_sub [0, 1, 2, 3] rfl ?_
    exact hE231 _ h
  · have h := kif_f h q
    refine r_aload_n hc 0 dX7_tunings_121 rfl ?_
    refine r_iload hc 4 dX7_tunings_122 rfl ?_
    refine r_aload_n hc 0 dX7_tunings_124 rfl ?_
    refine gf_X7_5 hc lf_X7_19 dX7_tunings_125 ?_
    refine r_iconst (v := 1) hc dX7_tunings_128 rfl ?_
    obtain ⟨hi_18, h⟩ := h
    refine r_iald hc kia_59 hi_18 dX7_tunings_129 ?_
    refine r_iadd hc dX7_tunings_130 ?_
    refine r_callVi (d := 0) hc (m_X7_over h) cw_X7_over wi_X7_over ws_X7_over lm_X7_146 (by decide) (by decide) rv_X7 rfl rfl (Nat.le_of_ble_eq_true rfl) dX7_tunings_131 (fun r_20 σ_19 h => ?_)
    refine r_istore hc [(5, .int r_20), (0, kz g 55), (1, .int x1), (2, .int x2), (3, .int x3), (4, .int x4)] dX7_tunings_134 (by decide) rfl ?_
    refine r_aload_n hc 1 dX7_tunings_136 rfl ?_
    refine gf_X7_21 hc lf_X7_37 dX7_tunings_137 ?_
    refine r_iload hc 0 dX7_tunings_140 rfl ?_
    refine r_iload hc 0 dX7_tunings_142 rfl ?_
    refine r_iload_n hc 3 dX7_tunings_144 rfl ?_
    refine r_ic_gt hc 175 dX7_tunings_145 (by decide) (fun q => ?_) (fun q => ?_)
    · have h := kif_t h q
      refine r_sub [1, 2, 3, 4, 5, 0] rfl ?_
      exact sj_X7_tunings_175 hc hZ hK h
    · have h := kif_f h q
      refine r_aload_n hc 1 dX7_tunings_148 rfl ?_
      refine gf_X7_20 hc lf_X7_34 dX7_tunings_149 ?_
      refine r_iload hc 5 dX7_tunings_152 rfl ?_
      obtain ⟨hi_34, h⟩ := h
      refine r_iald hc kia_64 hi_34 dX7_tunings_154 ?_
      refine r_aload_n hc 1 dX7_tunings_155 rfl ?_
      refine gf_X7_21 hc lf_X7_37 dX7_tunings_156 ?_
      refine r_iload hc 0 dX7_tunings_159 rfl ?_
      obtain ⟨hi_35, h⟩ := h
      refine r_iald hc kia_65 hi_35 dX7_tunings_161 ?_
      refine r_ic_ge hc 175 dX7_tunings_162 (by decide) (fun q => ?_) (fun q => ?_)
      · have h := kif_t h q
        refine r_sub [1, 2, 3, 4, 5, 0] rfl ?_
        exact sj_X7_tunings_175 hc hZ hK h
      · have h := kif_f h q
        refine r_aload_n hc 1 dX7_tunings_165 rfl ?_
        refine gf_X7_20 hc lf_X7_34 dX7_tunings_166 ?_
        refine r_iload hc 5 dX7_tunings_169 rfl ?_
        obtain ⟨hi_36, h⟩ := h
        refine r_iald hc kia_64 hi_36 dX7_tunings_171 ?_
        refine r_goto hc 182 dX7_tunings_172 (by decide) ?_
        refine r_sub [1, 2, 3, 4, 5] rfl ?_
        exact sj_X7_tunings_182 hc hZ hK h
theorem sl_X7_tunings_110 {X : kX} {g : kG} {N : Nat} {Q : Int32 → kS → Prop} (hc : kOk X g RX7 cX7_tunings 6 (some .int) 1) (hZ : kRi X g cX7_tunings Q) {x1 : Int32} {x2 : Int32} {x3 : Int32} {E231 : kS → Prop} (hE231 : ∀ (τ : kS), E231 τ → kP X g 6 231 [(0, kz g 55), (1, .int x1), (2, .int x2), (3, .int x3)] [] τ) : ∀ (n : Nat) (x4 : Int32) (σ : kS), l_X7_tunings_110 N Q x1 x2 x3 E231 n x4 σ → kP X g 6 110 [(0, kz g 55), (1, .int x1), (2, .int x2), (3, .int x3), (4, .int x4)] [] σ := by
  intro n
  induction n with
  | zero => intro x4 σ h; exact h.elim
  | succ n ih => intro x4 σ h; exact sb_X7_tunings_110 hc hZ hE231 ih h
def b_X7_tunings_234 (N : Nat) (Q : Int32 → kS → Prop) (x1 : Int32) (x2 : Int32) (x3 : Int32) (E261 : kS → Prop) (K : Int32 → kS → Prop) (x4 : Int32) (σ : kS) : Prop :=
  if 12 ≤ x4 then (E261 σ) else (vp_in x4 12 ∧ (vp_in x4 12 ∧ (∀ σ_40 : kS, σ_40 = st2 σ 64 (x4.toNatClampNeg) (σ 65 x4.toNatClampNeg) → (∀ x4_41 : Int32, x4_41 = x4 + 1 → (K x4_41 σ_40)))))
def l_X7_tunings_234 (N : Nat) (Q : Int32 → kS → Prop) (x1 : Int32) (x2 : Int32) (x3 : Int32) (E261 : kS → Prop) : Nat → Int32 → kS → Prop
  | 0 => fun _ _ => False
  | n + 1 => b_X7_tunings_234 N Q x1 x2 x3 E261 (l_X7_tunings_234 N Q x1 x2 x3 E261 n)
set_option maxHeartbeats 4000000 in
set_option maxRecDepth 100000 in
theorem sb_X7_tunings_234 {X : kX} {g : kG} {N : Nat} {Q : Int32 → kS → Prop} (hc : kOk X g RX7 cX7_tunings 6 (some .int) 1) (hZ : kRi X g cX7_tunings Q) {x1 : Int32} {x2 : Int32} {x3 : Int32} {E261 : kS → Prop} (hE261 : ∀ (τ : kS), E261 τ → kP X g 6 261 [(0, kz g 55), (1, .int x1), (2, .int x2), (3, .int x3)] [] τ) {K : Int32 → kS → Prop} (hK : ∀ (x4 : Int32) (τ : kS), K x4 τ → kP X g 6 234 [(0, kz g 55), (1, .int x1), (2, .int x2), (3, .int x3), (4, .int x4)] [] τ) {x4 : Int32} {σ : kS} (h : b_X7_tunings_234 N Q x1 x2 x3 E261 K x4 σ) : kP X g 6 234 [(0, kz g 55), (1, .int x1), (2, .int x2), (3, .int x3), (4, .int x4)] [] σ := by
  unfold b_X7_tunings_234 at h
  refine r_iload hc 4 dX7_tunings_234 rfl ?_
  refine r_bipush (v := 12) hc dX7_tunings_236 rfl ?_
  refine r_ic_ge hc 261 dX7_tunings_238 (by decide) (fun q => ?_) (fun q => ?_)
  · have h := kif_t h q
    refine r_sub [0, 1, 2, 3] rfl ?_
    exact hE261 _ h
  · have h := kif_f h q
    refine r_aload_n hc 0 dX7_tunings_241 rfl ?_
    refine gf_X7_20 hc lf_X7_34 dX7_tunings_242 ?_
    refine r_iload hc 4 dX7_tunings_245 rfl ?_
    refine r_aload_n hc 0 dX7_tunings_247 rfl ?_
    refine gf_X7_21 hc lf_X7_37 dX7_tunings_248 ?_
    refine r_iload hc 4 dX7_tunings_251 rfl ?_
    obtain ⟨hi_38, h⟩ := h
    refine r_iald hc kia_65 hi_38 dX7_tunings_253 ?_
    obtain ⟨hi_39, h⟩ := h
    refine r_iast hc kia_64 hi_39 dX7_tunings_254 ?_
    refine r_nmS (fun σ_40 eσ_40 => ?_)
    have h := h σ_40 eσ_40
    obtain ⟨x4_41, ex4_41⟩ : ∃ v : Int32, v = x4 + 1 := ⟨_, rfl⟩
    have h := h x4_41 ex4_41
    refine r_iinc (v := x4_41) hc 4 [(4, .int x4_41), (0, kz g 55), (1, .int x1), (2, .int x2), (3, .int x3)] dX7_tunings_255 rfl (by rw [ex4_41]; rfl) (by decide) rfl ?_
    refine r_goto hc 234 dX7_tunings_258 (by decide) ?_
    refine r_sub [1, 2, 3, 4, 0] rfl ?_
    exact hK _ _ h
theorem sl_X7_tunings_234 {X : kX} {g : kG} {N : Nat} {Q : Int32 → kS → Prop} (hc : kOk X g RX7 cX7_tunings 6 (some .int) 1) (hZ : kRi X g cX7_tunings Q) {x1 : Int32} {x2 : Int32} {x3 : Int32} {E261 : kS → Prop} (hE261 : ∀ (τ : kS), E261 τ → kP X g 6 261 [(0, kz g 55), (1, .int x1), (2, .int x2), (3, .int x3)] [] τ) : ∀ (n : Nat) (x4 : Int32) (σ : kS), l_X7_tunings_234 N Q x1 x2 x3 E261 n x4 σ → kP X g 6 234 [(0, kz g 55), (1, .int x1), (2, .int x2), (3, .int x3), (4, .int x4)] [] σ := by
  intro n
  induction n with
  | zero => intro x4 σ h; exact h.elim
  | succ n ih => intro x4 σ h; exact sb_X7_tunings_234 hc hZ hE261 ih h
def b_X7_tunings_76 (N : Nat) (Q : Int32 → kS → Prop) (x1 : Int32) (x2 : Int32) (E267 : kS → Prop) (K : Int32 → kS → Prop) (x3 : Int32) (σ : kS) : Prop :=
  if x1 ≤ x3 then (E267 σ) else (l_X7_tunings_84 N Q x1 x2 x3 (fun (σ_16 : kS) => l_X7_tunings_110 N Q x1 x2 x3 (fun (σ_37 : kS) => l_X7_tunings_234 N Q x1 x2 x3 (fun (σ_42 : kS) => ∀ x3_43 : Int32, x3_43 = x3 + 1 → (K x3_43 σ_42)) N 0 σ_37) N 0 σ_16) N 0 σ)
def l_X7_tunings_76 (N : Nat) (Q : Int32 → kS → Prop) (x1 : Int32) (x2 : Int32) (E267 : kS → Prop) : Nat → Int32 → kS → Prop
  | 0 => fun _ _ => False
  | n + 1 => b_X7_tunings_76 N Q x1 x2 E267 (l_X7_tunings_76 N Q x1 x2 E267 n)
set_option maxHeartbeats 4000000 in
set_option maxRecDepth 100000 in
theorem sb_X7_tunings_76 {X : kX} {g : kG} {N : Nat} {Q : Int32 → kS → Prop} (hc : kOk X g RX7 cX7_tunings 6 (some .int) 1) (hZ : kRi X g cX7_tunings Q) {x1 : Int32} {x2 : Int32} {E267 : kS → Prop} (hE267 : ∀ (τ : kS), E267 τ → kP X g 6 267 [(0, kz g 55)] [] τ) {K : Int32 → kS → Prop} (hK : ∀ (x3 : Int32) (τ : kS), K x3 τ → kP X g 6 76 [(0, kz g 55), (1, .int x1), (2, .int x2), (3, .int x3)] [] τ) {x3 : Int32} {σ : kS} (h : b_X7_tunings_76 N Q x1 x2 E267 K x3 σ) : kP X g 6 76 [(0, kz g 55), (1, .int x1), (2, .int x2), (3, .int x3)] [] σ := by
  unfold b_X7_tunings_76 at h
  refine r_iload_n hc 3 dX7_tunings_76 rfl ?_
  refine r_iload_n hc 1 dX7_tunings_77 rfl ?_
  refine r_ic_ge hc 267 dX7_tunings_78 (by decide) (fun q => ?_) (fun q => ?_)
  · have h := kif_t h q
    refine r_sub [0] rfl ?_
    exact hE267 _ h
  · have h := kif_f h q
    refine r_iconst (v := 0) hc dX7_tunings_81 rfl ?_
    refine r_istore hc [(4, .int 0), (0, kz g 55), (1, .int x1), (2, .int x2), (3, .int x3)] dX7_tunings_82 (by decide) rfl ?_
    refine r_sub [1, 2, 3, 4, 0] rfl ?_
    refine sl_X7_tunings_84 hc hZ (fun σ_16 h => ?_) _ _ _ h
    refine r_iconst (v := 0) hc dX7_tunings_107 rfl ?_
    refine r_istore hc [(4, .int 0), (0, kz g 55), (1, .int x1), (2, .int x2), (3, .int x3)] dX7_tunings_108 (by decide) rfl ?_
    refine r_sub [1, 2, 3, 4, 0] rfl ?_
    refine sl_X7_tunings_110 hc hZ (fun σ_37 h => ?_) _ _ _ h
    refine r_iconst (v := 0) hc dX7_tunings_231 rfl ?_
    refine r_istore hc [(4, .int 0), (0, kz g 55), (1, .int x1), (2, .int x2), (3, .int x3)] dX7_tunings_232 (by decide) rfl ?_
    refine r_sub [1, 2, 3, 4, 0] rfl ?_
    refine sl_X7_tunings_234 hc hZ (fun σ_42 h => ?_) _ _ _ h
    obtain ⟨x3_43, ex3_43⟩ : ∃ v : Int32, v = x3 + 1 := ⟨_, rfl⟩
    have h := h x3_43 ex3_43
    refine r_iinc (v := x3_43) hc 3 [(3, .int x3_43), (0, kz g 55), (1, .int x1), (2, .int x2)] dX7_tunings_261 rfl (by rw [ex3_43]; rfl) (by decide) rfl ?_
    refine r_goto hc 76 dX7_tunings_264 (by decide) ?_
    refine r_sub [1, 2, 3, 0] rfl ?_
    exact hK _ _ h
theorem sl_X7_tunings_76 {X : kX} {g : kG} {N : Nat} {Q : Int32 → kS → Prop} (hc : kOk X g RX7 cX7_tunings 6 (some .int) 1) (hZ : kRi X g cX7_tunings Q) {x1 : Int32} {x2 : Int32} {E267 : kS → Prop} (hE267 : ∀ (τ : kS), E267 τ → kP X g 6 267 [(0, kz g 55)] [] τ) : ∀ (n : Nat) (x3 : Int32) (σ : kS), l_X7_tunings_76 N Q x1 x2 E267 n x3 σ → kP X g 6 76 [(0, kz g 55), (1, .int x1), (2, .int x2), (3, .int x3)] [] σ := by
  intro n
  induction n with
  | zero => intro x3 σ h; exact h.elim
  | succ n ih => intro x3 σ h; exact sb_X7_tunings_76 hc hZ hE267 ih h
def b_X7_tunings_274 (N : Nat) (Q : Int32 → kS → Prop) (K : Int32 → Int32 → kS → Prop) (x3 : Int32) (x4 : Int32) (σ : kS) : Prop :=
  if 12 ≤ x4 then (Q x3 σ) else (vp_in x4 12 ∧ (if x3 ≤ (σ 64 x4.toNatClampNeg) then (∀ x4_46 : Int32, x4_46 = x4 + 1 → (K x3 x4_46 σ)) else (vp_in x4 12 ∧ (∀ x3_48 : Int32, x3_48 = σ 64 x4.toNatClampNeg → (∀ x4_49 : Int32, x4_49 = x4 + 1 → (K x3_48 x4_49 σ))))))
def l_X7_tunings_274 (N : Nat) (Q : Int32 → kS → Prop) : Nat → Int32 → Int32 → kS → Prop
  | 0 => fun _ _ _ => False
  | n + 1 => b_X7_tunings_274 N Q (l_X7_tunings_274 N Q n)
set_option maxHeartbeats 4000000 in
set_option maxRecDepth 100000 in
theorem sb_X7_tunings_274 {X : kX} {g : kG} {N : Nat} {Q : Int32 → kS → Prop} (hc : kOk X g RX7 cX7_tunings 6 (some .int) 1) (hZ : kRi X g cX7_tunings Q) {K : Int32 → Int32 → kS → Prop} (hK : ∀ (x3 : Int32) (x4 : Int32) (τ : kS), K x3 x4 τ → kP X g 6 274 [(0, kz g 55), (3, .int x3), (4, .int x4)] [] τ) {x3 : Int32} {x4 : Int32} {σ : kS} (h : b_X7_tunings_274 N Q K x3 x4 σ) : kP X g 6 274 [(0, kz g 55), (3, .int x3), (4, .int x4)] [] σ := by
  unfold b_X7_tunings_274 at h
  refine r_iload hc 2 dX7_tunings_274 rfl ?_
  refine r_bipush (v := 12) hc dX7_tunings_276 rfl ?_
  refine r_ic_ge hc 310 dX7_tunings_278 (by decide) (fun q => ?_) (fun q => ?_)
  · have h := kif_t h q
    refine r_iload_n hc 1 dX7_tunings_310 rfl ?_
    exact r_iret (ls0 := []) hZ dX7_tunings_311 h
  · have h := kif_f h q
    refine r_aload_n hc 0 dX7_tunings_281 rfl ?_
    refine gf_X7_20 hc lf_X7_34 dX7_tunings_282 ?_
    refine r_iload hc 2 dX7_tunings_285 rfl ?_
    obtain ⟨hi_45, h⟩ := h
    refine r_iald hc kia_64 hi_45 dX7_tunings_287 ?_
    refine r_iload_n hc 1 dX7_tunings_288 rfl ?_
    refine r_ic_ge hc 302 dX7_tunings_289 (by decide) (fun q => ?_) (fun q => ?_)
    · have h := kif_t h q
      refine r_iload_n hc 1 dX7_tunings_302 rfl ?_
      refine r_istore_n hc [(3, .int x3), (0, kz g 55), (4, .int x4)] dX7_tunings_303 (by decide) rfl ?_
      obtain ⟨x4_46, ex4_46⟩ : ∃ v : Int32, v = x4 + 1 := ⟨_, rfl⟩
      have h := h x4_46 ex4_46
      refine r_iinc (v := x4_46) hc 2 [(4, .int x4_46), (3, .int x3), (0, kz g 55)] dX7_tunings_304 rfl (by rw [ex4_46]; rfl) (by decide) rfl ?_
      refine r_goto hc 274 dX7_tunings_307 (by decide) ?_
      refine r_sub [2, 1, 0] rfl ?_
      exact hK _ _ _ h
    · have h := kif_f h q
      refine r_aload_n hc 0 dX7_tunings_292 rfl ?_
      refine gf_X7_20 hc lf_X7_34 dX7_tunings_293 ?_
      refine r_iload hc 2 dX7_tunings_296 rfl ?_
      obtain ⟨hi_47, h⟩ := h
      refine r_iald hc kia_64 hi_47 dX7_tunings_298 ?_
      refine r_goto hc 303 dX7_tunings_299 (by decide) ?_
      refine r_nmI (fun x3_48 ex3_48 => ?_)
      have h := h x3_48 ex3_48
      refine r_istore_n hc [(3, .int x3_48), (0, kz g 55), (4, .int x4)] dX7_tunings_303 (by decide) rfl ?_
      obtain ⟨x4_49, ex4_49⟩ : ∃ v : Int32, v = x4 + 1 := ⟨_, rfl⟩
      have h := h x4_49 ex4_49
      refine r_iinc (v := x4_49) hc 2 [(4, .int x4_49), (3, .int x3_48), (0, kz g 55)] dX7_tunings_304 rfl (by rw [ex4_49]; rfl) (by decide) rfl ?_
      refine r_goto hc 274 dX7_tunings_307 (by decide) ?_
      refine r_sub [2, 1, 0] rfl ?_
      exact hK _ _ _ h
theorem sl_X7_tunings_274 {X : kX} {g : kG} {N : Nat} {Q : Int32 → kS → Prop} (hc : kOk X g RX7 cX7_tunings 6 (some .int) 1) (hZ : kRi X g cX7_tunings Q) : ∀ (n : Nat) (x3 : Int32) (x4 : Int32) (σ : kS), l_X7_tunings_274 N Q n x3 x4 σ → kP X g 6 274 [(0, kz g 55), (3, .int x3), (4, .int x4)] [] σ := by
  intro n
  induction n with
  | zero => intro x3 x4 σ h; exact h.elim
  | succ n ih => intro x3 x4 σ h; exact sb_X7_tunings_274 hc hZ ih h
def w_X7_tunings (N : Nat) (σ : kS) (x1 : Int32) (x2 : Int32) (Q : Int32 → kS → Prop) : Prop :=
  if (σ 55 4) = 0 then (Q (-1000002) σ) else (w_X7_in N σ (x1.toInt64) 1 60 (fun (r_2 : Int32) (σ_1 : kS) => if r_2 = 0 then (Q (-1000001) σ_1) else (w_X7_in N σ_1 (x2.toInt64) 0 11 (fun (r_4 : Int32) (σ_3 : kS) => if r_4 = 0 then (Q (-1000001) σ_3) else (l_X7_tunings_39 N Q x1 x2 (fun (σ_12 : kS) => l_X7_tunings_76 N Q x1 x2 (fun (σ_44 : kS) => l_X7_tunings_274 N Q  N 999 0 σ_44) N 0 σ_12) N 0 σ_3)))))
set_option maxHeartbeats 4000000 in
set_option maxRecDepth 100000 in
theorem s_X7_tunings {X : kX} {g : kG} {N : Nat} {Q : Int32 → kS → Prop} (hc : kOk X g RX7 cX7_tunings 6 (some .int) 1) (hZ : kRi X g cX7_tunings Q) {σ : kS} {x1 : Int32} {x2 : Int32} (h : w_X7_tunings N σ x1 x2 Q) : kP X g 6 0 [(0, kz g 55), (1, .int x1), (2, .int x2)] [] σ := by
  unfold w_X7_tunings at h
  refine r_aload_n hc 0 dX7_tunings_0 rfl ?_
  refine gf_X7_4 hc lf_X7_138 dX7_tunings_1 ?_
  refine r_if_ne hc 10 dX7_tunings_4 (by decide) (fun q => ?_) (fun q => ?_)
  · have h := kif_t h q
    refine r_ldc hc lk_X7_145 dX7_tunings_7 ?_
    exact r_iret (ls0 := []) hZ dX7_tunings_9 h
  · have h := kif_f h q
    refine r_iload_n hc 1 dX7_tunings_10 rfl ?_
    refine r_i2l hc dX7_tunings_11 ?_
    refine r_lconst (v := 1) hc dX7_tunings_12 rfl ?_
    refine r_ldc2_w hc lK_X7_214 dX7_tunings_13 ?_
    refine r_callSi (d := 0) hc (m_X7_in h) cw_X7_in wt_X7_in lm_X7_57 (by decide) (by decide) rfl rfl (Nat.le_of_ble_eq_true rfl) dX7_tunings_16 (fun r_2 σ_1 h => ?_)
    refine r_if_eq hc 34 dX7_tunings_19 (by decide) (fun q => ?_) (fun q => ?_)
    · have h := kif_t h q
      refine r_ldc hc lk_X7_67 dX7_tunings_34 ?_
      exact r_iret (ls0 := []) hZ dX7_tunings_36 h
    · have h := kif_f h q
      refine r_iload_n hc 2 dX7_tunings_22 rfl ?_
      refine r_i2l hc dX7_tunings_23 ?_
      refine r_lconst (v := 0) hc dX7_tunings_24 rfl ?_
      refine r_ldc2_w hc lK_X7_157 dX7_tunings_25 ?_
      refine r_callSi (d := 0) hc (m_X7_in h) cw_X7_in wt_X7_in lm_X7_57 (by decide) (by decide) rfl rfl (Nat.le_of_ble_eq_true rfl) dX7_tunings_28 (fun r_4 σ_3 h => ?_)
      refine r_if_ne hc 37 dX7_tunings_31 (by decide) (fun q => ?_) (fun q => ?_)
      · have h := kif_t h q
        refine r_ldc hc lk_X7_67 dX7_tunings_34 ?_
        exact r_iret (ls0 := []) hZ dX7_tunings_36 h
      · have h := kif_f h q
        refine r_iconst (v := 0) hc dX7_tunings_37 rfl ?_
        refine r_istore_n hc [(3, .int 0), (0, kz g 55), (1, .int x1), (2, .int x2)] dX7_tunings_38 (by decide) rfl ?_
        refine r_sub [1, 2, 3, 0] rfl ?_
        refine sl_X7_tunings_39 hc hZ (fun σ_12 h => ?_) _ _ _ h
        refine r_iconst (v := 0) hc dX7_tunings_74 rfl ?_
        refine r_istore_n hc [(3, .int 0), (0, kz g 55), (1, .int x1), (2, .int x2)] dX7_tunings_75 (by decide) rfl ?_
        refine r_sub [1, 2, 3, 0] rfl ?_
        refine sl_X7_tunings_76 hc hZ (fun σ_44 h => ?_) _ _ _ h
        refine r_sipush (v := 999) hc dX7_tunings_267 rfl ?_
        refine r_istore_n hc [(3, .int 999), (0, kz g 55)] dX7_tunings_270 (by decide) rfl ?_
        refine r_iconst (v := 0) hc dX7_tunings_271 rfl ?_
        refine r_istore hc [(4, .int 0), (3, .int 999), (0, kz g 55)] dX7_tunings_272 (by decide) rfl ?_
        refine r_sub [2, 1, 0] rfl ?_
        refine sl_X7_tunings_274 hc hZ _ _ _ _ h
theorem m_X7_tunings {l : Launch} {g : kG} {N : Nat} {σ : kS} {x1 : Int32} {x2 : Int32} {Q : Int32 → kS → Prop} (h : w_X7_tunings N σ x1 x2 Q) : kMi l g yX7_tunings cX7_tunings 6 (some .int) 1 [kz g 55, .int x1, .int x2] σ Q :=
  k_met_i (by decide +kernel) rfl (Nat.le_of_ble_eq_true rfl) (fun X hl hc hZ => s_X7_tunings hc hZ h)
def b_X7_other_51 (N : Nat) (Q : Int32 → kS → Prop) (x1 : Int32) (x2 : Int32) (K : Int32 → kS → Prop) (x3 : Int32) (σ : kS) : Prop :=
  if 100 < x3 then (Q (-1000000) σ) else (w_X7_shiftIn N σ x3 (fun (r_8 : Int32) (σ_7 : kS) => w_X7_over N σ_7 (x2 + (x3 * x1)) (fun (r_10 : Int32) (σ_9 : kS) => if r_8 = r_10 then (Q x3 σ_9) else (∀ x3_11 : Int32, x3_11 = x3 + 1 → (K x3_11 σ_9)))))
def l_X7_other_51 (N : Nat) (Q : Int32 → kS → Prop) (x1 : Int32) (x2 : Int32) : Nat → Int32 → kS → Prop
  | 0 => fun _ _ => False
  | n + 1 => b_X7_other_51 N Q x1 x2 (l_X7_other_51 N Q x1 x2 n)
set_option maxHeartbeats 4000000 in
set_option maxRecDepth 100000 in
theorem sb_X7_other_51 {X : kX} {g : kG} {N : Nat} {Q : Int32 → kS → Prop} (hc : kOk X g RX7 cX7_other 4 (some .int) 2) (hZ : kRi X g cX7_other Q) {x1 : Int32} {x2 : Int32} {K : Int32 → kS → Prop} (hK : ∀ (x3 : Int32) (τ : kS), K x3 τ → kP X g 4 51 [(0, kz g 55), (1, .int x1), (2, .int x2), (3, .int x3)] [] τ) {x3 : Int32} {σ : kS} (h : b_X7_other_51 N Q x1 x2 K x3 σ) : kP X g 4 51 [(0, kz g 55), (1, .int x1), (2, .int x2), (3, .int x3)] [] σ := by
  unfold b_X7_other_51 at h
  refine r_iload_n hc 3 dX7_other_51 rfl ?_
  refine r_bipush (v := 100) hc dX7_other_52 rfl ?_
  refine r_ic_gt hc 82 dX7_other_54 (by decide) (fun q => ?_) (fun q => ?_)
  · have h := kif_t h q
    refine r_ldc hc lk_X7_165 dX7_other_82 ?_
    exact r_iret (ls0 := []) hZ dX7_other_84 h
  · have h := kif_f h q
    refine r_aload_n hc 0 dX7_other_57 rfl ?_
    refine r_iload_n hc 3 dX7_other_58 rfl ?_
    refine r_callVi (d := 1) hc (m_X7_shiftIn h) cw_X7_shiftIn wi_X7_shiftIn ws_X7_shiftIn lm_X7_154 (by decide) (by decide) rv_X7 rfl rfl (Nat.le_of_ble_eq_true rfl) dX7_other_59 (fun r_8 σ_7 h => ?_)
    refine r_aload_n hc 0 dX7_other_62 rfl ?_
    refine r_iload_n hc 2 dX7_other_63 rfl ?_
    refine r_iload_n hc 3 dX7_other_64 rfl ?_
    refine r_iload_n hc 1 dX7_other_65 rfl ?_
    refine r_imul hc dX7_other_66 ?_
    refine r_iadd hc dX7_other_67 ?_
    refine r_callVi (d := 0) hc (m_X7_over h) cw_X7_over wi_X7_over ws_X7_over lm_X7_146 (by decide) (by decide) rv_X7 rfl rfl (Nat.le_of_ble_eq_true rfl) dX7_other_68 (fun r_10 σ_9 h => ?_)
    refine r_ic_ne hc 76 dX7_other_71 (by decide) (fun q => ?_) (fun q => ?_)
    · have h := kif_t h q
      refine r_iload_n hc 3 dX7_other_74 rfl ?_
      exact r_iret (ls0 := []) hZ dX7_other_75 h
    · have h := kif_f h q
      obtain ⟨x3_11, ex3_11⟩ : ∃ v : Int32, v = x3 + 1 := ⟨_, rfl⟩
      have h := h x3_11 ex3_11
      refine r_iinc (v := x3_11) hc 3 [(3, .int x3_11), (0, kz g 55), (1, .int x1), (2, .int x2)] dX7_other_76 rfl (by rw [ex3_11]; rfl) (by decide) rfl ?_
      refine r_goto hc 51 dX7_other_79 (by decide) ?_
      refine r_sub [1, 2, 3, 0] rfl ?_
      exact hK _ _ h
theorem sl_X7_other_51 {X : kX} {g : kG} {N : Nat} {Q : Int32 → kS → Prop} (hc : kOk X g RX7 cX7_other 4 (some .int) 2) (hZ : kRi X g cX7_other Q) {x1 : Int32} {x2 : Int32} : ∀ (n : Nat) (x3 : Int32) (σ : kS), l_X7_other_51 N Q x1 x2 n x3 σ → kP X g 4 51 [(0, kz g 55), (1, .int x1), (2, .int x2), (3, .int x3)] [] σ := by
  intro n
  induction n with
  | zero => intro x3 σ h; exact h.elim
  | succ n ih => intro x3 σ h; exact sb_X7_other_51 hc hZ ih h
def w_X7_other (N : Nat) (σ : kS) (x1 : Int32) (x2 : Int32) (Q : Int32 → kS → Prop) : Prop :=
  if (σ 55 4) = 0 then (Q (-1000002) σ) else (vp_in 0 57 ∧ (w_X7_in N σ (x1.toInt64) 0 (((σ 59 (0 : Int32).toNatClampNeg) - 1).toInt64) (fun (r_3 : Int32) (σ_2 : kS) => if r_3 = 0 then (Q (-1000001) σ_2) else (vp_in 0 57 ∧ (w_X7_in N σ_2 (x2.toInt64) 0 (((σ_2 59 (0 : Int32).toNatClampNeg) - 1).toInt64) (fun (r_6 : Int32) (σ_5 : kS) => if r_6 = 0 then (Q (-1000001) σ_5) else (l_X7_other_51 N Q x1 x2  N 0 σ_5)))))))
set_option maxHeartbeats 4000000 in
set_option maxRecDepth 100000 in
theorem s_X7_other {X : kX} {g : kG} {N : Nat} {Q : Int32 → kS → Prop} (hc : kOk X g RX7 cX7_other 4 (some .int) 2) (hZ : kRi X g cX7_other Q) {σ : kS} {x1 : Int32} {x2 : Int32} (h : w_X7_other N σ x1 x2 Q) : kP X g 4 0 [(0, kz g 55), (1, .int x1), (2, .int x2)] [] σ := by
  unfold w_X7_other at h
  refine r_aload_n hc 0 dX7_other_0 rfl ?_
  refine gf_X7_4 hc lf_X7_138 dX7_other_1 ?_
  refine r_if_ne hc 10 dX7_other_4 (by decide) (fun q => ?_) (fun q => ?_)
  · have h := kif_t h q
    refine r_ldc hc lk_X7_145 dX7_other_7 ?_
    exact r_iret (ls0 := []) hZ dX7_other_9 h
  · have h := kif_f h q
    refine r_iload_n hc 1 dX7_other_10 rfl ?_
    refine r_i2l hc dX7_other_11 ?_
    refine r_lconst (v := 0) hc dX7_other_12 rfl ?_
    refine r_aload_n hc 0 dX7_other_13 rfl ?_
    refine gf_X7_5 hc lf_X7_19 dX7_other_14 ?_
    refine r_iconst (v := 0) hc dX7_other_17 rfl ?_
    obtain ⟨hi_1, h⟩ := h
    refine r_iald hc kia_59 hi_1 dX7_other_18 ?_
    refine r_iconst (v := 1) hc dX7_other_19 rfl ?_
    refine r_isub hc dX7_other_20 ?_
    refine r_i2l hc dX7_other_21 ?_
    refine r_callSi (d := 0) hc (m_X7_in h) cw_X7_in wt_X7_in lm_X7_57 (by decide) (by decide) rfl rfl (Nat.le_of_ble_eq_true rfl) dX7_other_22 (fun r_3 σ_2 h => ?_)
    refine r_if_eq hc 46 dX7_other_25 (by decide) (fun q => ?_) (fun q => ?_)
    · have h := kif_t h q
      refine r_ldc hc lk_X7_67 dX7_other_46 ?_
      exact r_iret (ls0 := []) hZ dX7_other_48 h
    · have h := kif_f h q
      refine r_iload_n hc 2 dX7_other_28 rfl ?_
      refine r_i2l hc dX7_other_29 ?_
      refine r_lconst (v := 0) hc dX7_other_30 rfl ?_
      refine r_aload_n hc 0 dX7_other_31 rfl ?_
      refine gf_X7_5 hc lf_X7_19 dX7_other_32 ?_
      refine r_iconst (v := 0) hc dX7_other_35 rfl ?_
      obtain ⟨hi_4, h⟩ := h
      refine r_iald hc kia_59 hi_4 dX7_other_36 ?_
      refine r_iconst (v := 1) hc dX7_other_37 rfl ?_
      refine r_isub hc dX7_other_38 ?_
      refine r_i2l hc dX7_other_39 ?_
      refine r_callSi (d := 0) hc (m_X7_in h) cw_X7_in wt_X7_in lm_X7_57 (by decide) (by decide) rfl rfl (Nat.le_of_ble_eq_true rfl) dX7_other_40 (fun r_6 σ_5 h => ?_)
      refine r_if_ne hc 49 dX7_other_43 (by decide) (fun q => ?_) (fun q => ?_)
      · have h := kif_t h q
        refine r_ldc hc lk_X7_67 dX7_other_46 ?_
        exact r_iret (ls0 := []) hZ dX7_other_48 h
      · have h := kif_f h q
        refine r_iconst (v := 0) hc dX7_other_49 rfl ?_
        refine r_istore_n hc [(3, .int 0), (0, kz g 55), (1, .int x1), (2, .int x2)] dX7_other_50 (by decide) rfl ?_
        refine r_sub [1, 2, 3, 0] rfl ?_
        refine sl_X7_other_51 hc hZ _ _ _ h
theorem m_X7_other {l : Launch} {g : kG} {N : Nat} {σ : kS} {x1 : Int32} {x2 : Int32} {Q : Int32 → kS → Prop} (h : w_X7_other N σ x1 x2 Q) : kMi l g yX7_other cX7_other 4 (some .int) 2 [kz g 55, .int x1, .int x2] σ Q :=
  k_met_i (by decide +kernel) rfl (Nat.le_of_ble_eq_true rfl) (fun X hl hc hZ => s_X7_other hc hZ h)
def b_X7_thunderOdds_56 (N : Nat) (Q : Int64 → kS → Prop) (x1 : Int32) (x2 : Int32) (x3 : Int32) (x4 : Int32) (x5 : Int64) (E76 : Int64 → kS → Prop) (K : Int64 → Int32 → kS → Prop) (x7 : Int64) (x9 : Int32) (σ : kS) : Prop :=
  if x3 ≤ x9 then (E76 x7 σ) else (∀ x7_9 : Int64, x7_9 = x7 * 10 → (∀ x9_10 : Int32, x9_10 = x9 + 1 → (K x7_9 x9_10 σ)))
def l_X7_thunderOdds_56 (N : Nat) (Q : Int64 → kS → Prop) (x1 : Int32) (x2 : Int32) (x3 : Int32) (x4 : Int32) (x5 : Int64) (E76 : Int64 → kS → Prop) : Nat → Int64 → Int32 → kS → Prop
  | 0 => fun _ _ _ => False
  | n + 1 => b_X7_thunderOdds_56 N Q x1 x2 x3 x4 x5 E76 (l_X7_thunderOdds_56 N Q x1 x2 x3 x4 x5 E76 n)
set_option maxHeartbeats 4000000 in
set_option maxRecDepth 100000 in
theorem sb_X7_thunderOdds_56 {X : kX} {g : kG} {N : Nat} {Q : Int64 → kS → Prop} (hc : kOk X g RX7 cX7_thunderOdds 15 (some .long) 3) (hZ : kRl X g cX7_thunderOdds Q) {x1 : Int32} {x2 : Int32} {x3 : Int32} {x4 : Int32} {x5 : Int64} {E76 : Int64 → kS → Prop} (hE76 : ∀ (x7 : Int64) (τ : kS), E76 x7 τ → kP X g 15 76 [(0, kz g 55), (1, .int x1), (2, .int x2), (3, .int x3), (4, .int x4), (5, .long x5), (7, .long x7)] [] τ) {K : Int64 → Int32 → kS → Prop} (hK : ∀ (x7 : Int64) (x9 : Int32) (τ : kS), K x7 x9 τ → kP X g 15 56 [(0, kz g 55), (1, .int x1), (2, .int x2), (3, .int x3), (4, .int x4), (5, .long x5), (7, .long x7), (9, .int x9)] [] τ) {x7 : Int64} {x9 : Int32} {σ : kS} (h : b_X7_thunderOdds_56 N Q x1 x2 x3 x4 x5 E76 K x7 x9 σ) : kP X g 15 56 [(0, kz g 55), (1, .int x1), (2, .int x2), (3, .int x3), (4, .int x4), (5, .long x5), (7, .long x7), (9, .int x9)] [] σ := by
  unfold b_X7_thunderOdds_56 at h
  refine r_iload hc 7 dX7_thunderOdds_56 rfl ?_
  refine r_iload_n hc 3 dX7_thunderOdds_58 rfl ?_
  refine r_ic_ge hc 76 dX7_thunderOdds_59 (by decide) (fun q => ?_) (fun q => ?_)
  · have h := kif_t h q
    refine r_sub [0, 1, 2, 3, 4, 5, 6] rfl ?_
    exact hE76 _ _ h
  · have h := kif_f h q
    refine r_lload hc 6 dX7_thunderOdds_62 rfl ?_
    refine r_ldc2_w hc lK_X7_216 dX7_thunderOdds_64 ?_
    refine r_lmul hc dX7_thunderOdds_67 ?_
    refine r_nmJ (fun x7_9 ex7_9 => ?_)
    have h := h x7_9 ex7_9
    refine r_lstore hc [(7, .long x7_9), (0, kz g 55), (1, .int x1), (2, .int x2), (3, .int x3), (4, .int x4), (5, .long x5), (9, .int x9)] dX7_thunderOdds_68 (by decide) rfl ?_
    obtain ⟨x9_10, ex9_10⟩ : ∃ v : Int32, v = x9 + 1 := ⟨_, rfl⟩
    have h := h x9_10 ex9_10
    refine r_iinc (v := x9_10) hc 7 [(9, .int x9_10), (7, .long x7_9), (0, kz g 55), (1, .int x1), (2, .int x2), (3, .int x3), (4, .int x4), (5, .long x5)] dX7_thunderOdds_70 rfl (by rw [ex9_10]; rfl) (by decide) rfl ?_
    refine r_goto hc 56 dX7_thunderOdds_73 (by decide) ?_
    refine r_sub [2, 3, 4, 5, 6, 7, 1, 0] rfl ?_
    exact hK _ _ _ h
theorem sl_X7_thunderOdds_56 {X : kX} {g : kG} {N : Nat} {Q : Int64 → kS → Prop} (hc : kOk X g RX7 cX7_thunderOdds 15 (some .long) 3) (hZ : kRl X g cX7_thunderOdds Q) {x1 : Int32} {x2 : Int32} {x3 : Int32} {x4 : Int32} {x5 : Int64} {E76 : Int64 → kS → Prop} (hE76 : ∀ (x7 : Int64) (τ : kS), E76 x7 τ → kP X g 15 76 [(0, kz g 55), (1, .int x1), (2, .int x2), (3, .int x3), (4, .int x4), (5, .long x5), (7, .long x7)] [] τ) : ∀ (n : Nat) (x7 : Int64) (x9 : Int32) (σ : kS), l_X7_thunderOdds_56 N Q x1 x2 x3 x4 x5 E76 n x7 x9 σ → kP X g 15 56 [(0, kz g 55), (1, .int x1), (2, .int x2), (3, .int x3), (4, .int x4), (5, .long x5), (7, .long x7), (9, .int x9)] [] σ := by
  intro n
  induction n with
  | zero => intro x7 x9 σ h; exact h.elim
  | succ n ih => intro x7 x9 σ h; exact sb_X7_thunderOdds_56 hc hZ hE76 ih h
def b_X7_thunderOdds_93 (N : Nat) (Q : Int64 → kS → Prop) (x1 : Int32) (x2 : Int32) (x3 : Int32) (x4 : Int32) (x5 : Int64) (x7 : Int64) (x9 : Int32) (E130 : Int64 → kS → Prop) (K : Int64 → Int32 → kS → Prop) (x10 : Int64) (x12 : Int32) (σ : kS) : Prop :=
  if x3 ≤ x12 then (E130 x10 σ) else (w_X7_has N σ x9 x12 (fun (r_14 : Int32) (σ_13 : kS) => if r_14 = 0 then (∀ x10_15 : Int64, x10_15 = x10 * ((10 - x2).toInt64) → (∀ x12_16 : Int32, x12_16 = x12 + 1 → (K x10_15 x12_16 σ_13))) else (∀ x10_17 : Int64, x10_17 = x10 * (x2.toInt64) → (∀ x12_18 : Int32, x12_18 = x12 + 1 → (K x10_17 x12_18 σ_13)))))
def l_X7_thunderOdds_93 (N : Nat) (Q : Int64 → kS → Prop) (x1 : Int32) (x2 : Int32) (x3 : Int32) (x4 : Int32) (x5 : Int64) (x7 : Int64) (x9 : Int32) (E130 : Int64 → kS → Prop) : Nat → Int64 → Int32 → kS → Prop
  | 0 => fun _ _ _ => False
  | n + 1 => b_X7_thunderOdds_93 N Q x1 x2 x3 x4 x5 x7 x9 E130 (l_X7_thunderOdds_93 N Q x1 x2 x3 x4 x5 x7 x9 E130 n)
set_option maxHeartbeats 4000000 in
set_option maxRecDepth 100000 in
theorem sb_X7_thunderOdds_93 {X : kX} {g : kG} {N : Nat} {Q : Int64 → kS → Prop} (hc : kOk X g RX7 cX7_thunderOdds 15 (some .long) 3) (hZ : kRl X g cX7_thunderOdds Q) {x1 : Int32} {x2 : Int32} {x3 : Int32} {x4 : Int32} {x5 : Int64} {x7 : Int64} {x9 : Int32} {E130 : Int64 → kS → Prop} (hE130 : ∀ (x10 : Int64) (τ : kS), E130 x10 τ → kP X g 15 130 [(0, kz g 55), (1, .int x1), (2, .int x2), (3, .int x3), (4, .int x4), (5, .long x5), (7, .long x7), (9, .int x9), (10, .long x10)] [] τ) {K : Int64 → Int32 → kS → Prop} (hK : ∀ (x10 : Int64) (x12 : Int32) (τ : kS), K x10 x12 τ → kP X g 15 93 [(0, kz g 55), (1, .int x1), (2, .int x2), (3, .int x3), (4, .int x4), (5, .long x5), (7, .long x7), (9, .int x9), (10, .long x10), (12, .int x12)] [] τ) {x10 : Int64} {x12 : Int32} {σ : kS} (h : b_X7_thunderOdds_93 N Q x1 x2 x3 x4 x5 x7 x9 E130 K x10 x12 σ) : kP X g 15 93 [(0, kz g 55), (1, .int x1), (2, .int x2), (3, .int x3), (4, .int x4), (5, .long x5), (7, .long x7), (9, .int x9), (10, .long x10), (12, .int x12)] [] σ := by
  unfold b_X7_thunderOdds_93 at h
  refine r_iload hc 9 dX7_thunderOdds_93 rfl ?_
  refine r_iload_n hc 3 dX7_thunderOdds_95 rfl ?_
  refine r_ic_ge hc 130 dX7_thunderOdds_96 (by decide) (fun q => ?_) (fun q => ?_)
  · have h := kif_t h q
    refine r_sub [0, 1, 2, 3, 4, 5, 6, 7, 8] rfl ?_
    exact hE130 _ _ h
  · have h := kif_f h q
    refine r_lload hc 8 dX7_thunderOdds_99 rfl ?_
    refine r_iload hc 7 dX7_thunderOdds_101 rfl ?_
    refine r_iload hc 9 dX7_thunderOdds_103 rfl ?_
    refine r_callSi (d := 0) hc (m_X7_has h) cw_X7_has wt_X7_has lm_X7_194 (by decide) (by decide) rfl rfl (Nat.le_of_ble_eq_true rfl) dX7_thunderOdds_105 (fun r_14 σ_13 h => ?_)
    refine r_if_eq hc 116 dX7_thunderOdds_108 (by decide) (fun q => ?_) (fun q => ?_)
    · have h := kif_t h q
      refine r_bipush (v := 10) hc dX7_thunderOdds_116 rfl ?_
      refine r_iload_n hc 2 dX7_thunderOdds_118 rfl ?_
      refine r_isub hc dX7_thunderOdds_119 ?_
      refine r_i2l hc dX7_thunderOdds_120 ?_
      refine r_lmul hc dX7_thunderOdds_121 ?_
      refine r_nmJ (fun x10_15 ex10_15 => ?_)
      have h := h x10_15 ex10_15
      refine r_lstore hc [(10, .long x10_15), (0, kz g 55), (1, .int x1), (2, .int x2), (3, .int x3), (4, .int x4), (5, .long x5), (7, .long x7), (9, .int x9), (12, .int x12)] dX7_thunderOdds_122 (by decide) rfl ?_
      obtain ⟨x12_16, ex12_16⟩ : ∃ v : Int32, v = x12 + 1 := ⟨_, rfl⟩
      have h := h x12_16 ex12_16
      refine r_iinc (v := x12_16) hc 9 [(12, .int x12_16), (10, .long x10_15), (0, kz g 55), (1, .int x1), (2, .int x2), (3, .int x3), (4, .int x4), (5, .long x5), (7, .long x7), (9, .int x9)] dX7_thunderOdds_124 rfl (by rw [ex12_16]; rfl) (by decide) rfl ?_
      refine r_goto hc 93 dX7_thunderOdds_127 (by decide) ?_
      refine r_sub [2, 3, 4, 5, 6, 7, 8, 9, 1, 0] rfl ?_
      exact hK _ _ _ h
    · have h := kif_f h q
      refine r_iload_n hc 2 dX7_thunderOdds_111 rfl ?_
      refine r_i2l hc dX7_thunderOdds_112 ?_
      refine r_goto hc 121 dX7_thunderOdds_113 (by decide) ?_
      refine r_lmul hc dX7_thunderOdds_121 ?_
      refine r_nmJ (fun x10_17 ex10_17 => ?_)
      have h := h x10_17 ex10_17
      refine r_lstore hc [(10, .long x10_17), (0, kz g 55), (1, .int x1), (2, .int x2), (3, .int x3), (4, .int x4), (5, .long x5), (7, .long x7), (9, .int x9), (12, .int x12)] dX7_thunderOdds_122 (by decide) rfl ?_
      obtain ⟨x12_18, ex12_18⟩ : ∃ v : Int32, v = x12 + 1 := ⟨_, rfl⟩
      have h := h x12_18 ex12_18
      refine r_iinc (v := x12_18) hc 9 [(12, .int x12_18), (10, .long x10_17), (0, kz g 55), (1, .int x1), (2, .int x2), (3, .int x3), (4, .int x4), (5, .long x5), (7, .long x7), (9, .int x9)] dX7_thunderOdds_124 rfl (by rw [ex12_18]; rfl) (by decide) rfl ?_
      refine r_goto hc 93 dX7_thunderOdds_127 (by decide) ?_
      refine r_sub [2, 3, 4, 5, 6, 7, 8, 9, 1, 0] rfl ?_
      exact hK _ _ _ h
theorem sl_X7_thunderOdds_93 {X : kX} {g : kG} {N : Nat} {Q : Int64 → kS → Prop} (hc : kOk X g RX7 cX7_thunderOdds 15 (some .long) 3) (hZ : kRl X g cX7_thunderOdds Q) {x1 : Int32} {x2 : Int32} {x3 : Int32} {x4 : Int32} {x5 : Int64} {x7 : Int64} {x9 : Int32} {E130 : Int64 → kS → Prop} (hE130 : ∀ (x10 : Int64) (τ : kS), E130 x10 τ → kP X g 15 130 [(0, kz g 55), (1, .int x1), (2, .int x2), (3, .int x3), (4, .int x4), (5, .long x5), (7, .long x7), (9, .int x9), (10, .long x10)] [] τ) : ∀ (n : Nat) (x10 : Int64) (x12 : Int32) (σ : kS), l_X7_thunderOdds_93 N Q x1 x2 x3 x4 x5 x7 x9 E130 n x10 x12 σ → kP X g 15 93 [(0, kz g 55), (1, .int x1), (2, .int x2), (3, .int x3), (4, .int x4), (5, .long x5), (7, .long x7), (9, .int x9), (10, .long x10), (12, .int x12)] [] σ := by
  intro n
  induction n with
  | zero => intro x10 x12 σ h; exact h.elim
  | succ n ih => intro x10 x12 σ h; exact sb_X7_thunderOdds_93 hc hZ hE130 ih h
def b_X7_thunderOdds_79 (N : Nat) (Q : Int64 → kS → Prop) (x1 : Int32) (x2 : Int32) (x3 : Int32) (x4 : Int32) (x7 : Int64) (E170 : Int64 → kS → Prop) (K : Int64 → Int32 → kS → Prop) (x5 : Int64) (x9 : Int32) (σ : kS) : Prop :=
  if (1 <<< (x3 &&& 31)) ≤ x9 then (E170 x5 σ) else (l_X7_thunderOdds_93 N Q x1 x2 x3 x4 x5 x7 x9 (fun (x10_19 : Int64) (σ_20 : kS) => w_X7_shiftIn N σ_20 x3 (fun (r_22 : Int32) (σ_21 : kS) => w_X7_ones N σ_21 x9 (fun (r_24 : Int32) (σ_23 : kS) => w_X7_over N σ_23 (r_22 + r_24) (fun (r_26 : Int32) (σ_25 : kS) => w_X7_biasOf N σ_25 x1 (fun (r_28 : Int32) (σ_27 : kS) => if r_26 = r_28 then (∀ x5_29 : Int64, x5_29 = x5 + x10_19 → (∀ x9_30 : Int32, x9_30 = x9 + 1 → (K x5_29 x9_30 σ_27))) else (∀ x5_31 : Int64, x5_31 = x5 + 0 → (∀ x9_32 : Int32, x9_32 = x9 + 1 → (K x5_31 x9_32 σ_27)))))))) N 1 0 σ)
def l_X7_thunderOdds_79 (N : Nat) (Q : Int64 → kS → Prop) (x1 : Int32) (x2 : Int32) (x3 : Int32) (x4 : Int32) (x7 : Int64) (E170 : Int64 → kS → Prop) : Nat → Int64 → Int32 → kS → Prop
  | 0 => fun _ _ _ => False
  | n + 1 => b_X7_thunderOdds_79 N Q x1 x2 x3 x4 x7 E170 (l_X7_thunderOdds_79 N Q x1 x2 x3 x4 x7 E170 n)
set_option maxHeartbeats 4000000 in
set_option maxRecDepth 100000 in
theorem sb_X7_thunderOdds_79 {X : kX} {g : kG} {N : Nat} {Q : Int64 → kS → Prop} (hc : kOk X g RX7 cX7_thunderOdds 15 (some .long) 3) (hZ : kRl X g cX7_thunderOdds Q) {x1 : Int32} {x2 : Int32} {x3 : Int32} {x4 : Int32} {x7 : Int64} {E170 : Int64 → kS → Prop} (hE170 : ∀ (x5 : Int64) (τ : kS), E170 x5 τ → kP X g 15 170 [(4, .int x4), (5, .long x5), (7, .long x7)] [] τ) {K : Int64 → Int32 → kS → Prop} (hK : ∀ (x5 : Int64) (x9 : Int32) (τ : kS), K x5 x9 τ → kP X g 15 79 [(0, kz g 55), (1, .int x1), (2, .int x2), (3, .int x3), (4, .int x4), (5, .long x5), (7, .long x7), (9, .int x9)] [] τ) {x5 : Int64} {x9 : Int32} {σ : kS} (h : b_X7_thunderOdds_79 N Q x1 x2 x3 x4 x7 E170 K x5 x9 σ) : kP X g 15 79 [(0, kz g 55), (1, .int x1), (2, .int x2), (3, .int x3), (4, .int x4), (5, .long x5), (7, .long x7), (9, .int x9)] [] σ := by
  unfold b_X7_thunderOdds_79 at h
  refine r_iload hc 7 dX7_thunderOdds_79 rfl ?_
  refine r_iconst (v := 1) hc dX7_thunderOdds_81 rfl ?_
  refine r_iload_n hc 3 dX7_thunderOdds_82 rfl ?_
  refine r_ishl hc dX7_thunderOdds_83 ?_
  refine r_ic_ge hc 170 dX7_thunderOdds_84 (by decide) (fun q => ?_) (fun q => ?_)
  · have h := kif_t h q
    refine r_sub [4, 5, 6] rfl ?_
    exact hE170 _ _ h
  · have h := kif_f h q
    refine r_lconst (v := 1) hc dX7_thunderOdds_87 rfl ?_
    refine r_lstore hc [(10, .long 1), (0, kz g 55), (1, .int x1), (2, .int x2), (3, .int x3), (4, .int x4), (5, .long x5), (7, .long x7), (9, .int x9)] dX7_thunderOdds_88 (by decide) rfl ?_
    refine r_iconst (v := 0) hc dX7_thunderOdds_90 rfl ?_
    refine r_istore hc [(12, .int 0), (10, .long 1), (0, kz g 55), (1, .int x1), (2, .int x2), (3, .int x3), (4, .int x4), (5, .long x5), (7, .long x7), (9, .int x9)] dX7_thunderOdds_91 (by decide) rfl ?_
    refine r_sub [2, 3, 4, 5, 6, 7, 8, 9, 1, 0] rfl ?_
    refine sl_X7_thunderOdds_93 hc hZ (fun x10_19 σ_20 h => ?_) _ _ _ _ h
    refine r_lload hc 5 dX7_thunderOdds_130 rfl ?_
    refine r_aload_n hc 0 dX7_thunderOdds_132 rfl ?_
    refine r_aload_n hc 0 dX7_thunderOdds_133 rfl ?_
    refine r_iload_n hc 3 dX7_thunderOdds_134 rfl ?_
    refine r_callVi (d := 1) hc (m_X7_shiftIn h) cw_X7_shiftIn wi_X7_shiftIn ws_X7_shiftIn lm_X7_154 (by decide) (by decide) rv_X7 rfl rfl (Nat.le_of_ble_eq_true rfl) dX7_thunderOdds_135 (fun r_22 σ_21 h => ?_)
    refine r_iload hc 7 dX7_thunderOdds_138 rfl ?_
    refine r_callSi (d := 0) hc (m_X7_ones h) cw_X7_ones wt_X7_ones lm_X7_199 (by decide) (by decide) rfl rfl (Nat.le_of_ble_eq_true rfl) dX7_thunderOdds_140 (fun r_24 σ_23 h => ?_)
    refine r_iadd hc dX7_thunderOdds_143 ?_
    refine r_callVi (d := 0) hc (m_X7_over h) cw_X7_over wi_X7_over ws_X7_over lm_X7_146 (by decide) (by decide) rv_X7 rfl rfl (Nat.le_of_ble_eq_true rfl) dX7_thunderOdds_144 (fun r_26 σ_25 h => ?_)
    refine r_aload_n hc 0 dX7_thunderOdds_147 rfl ?_
    refine r_iload_n hc 1 dX7_thunderOdds_148 rfl ?_
    refine r_callVi (d := 2) hc (m_X7_biasOf h) cw_X7_biasOf wi_X7_biasOf ws_X7_biasOf lm_X7_169 (by decide) (by decide) rv_X7 rfl rfl (Nat.le_of_ble_eq_true rfl) dX7_thunderOdds_149 (fun r_28 σ_27 h => ?_)
    refine r_ic_ne hc 160 dX7_thunderOdds_152 (by decide) (fun q => ?_) (fun q => ?_)
    · have h := kif_t h q
      refine r_lload hc 8 dX7_thunderOdds_155 rfl ?_
      refine r_goto hc 161 dX7_thunderOdds_157 (by decide) ?_
      refine r_ladd hc dX7_thunderOdds_161 ?_
      refine r_nmJ (fun x5_29 ex5_29 => ?_)
      have h := h x5_29 ex5_29
      refine r_lstore hc [(5, .long x5_29), (0, kz g 55), (1, .int x1), (2, .int x2), (3, .int x3), (4, .int x4), (7, .long x7), (9, .int x9), (10, .long x10_19)] dX7_thunderOdds_162 (by decide) rfl ?_
      obtain ⟨x9_30, ex9_30⟩ : ∃ v : Int32, v = x9 + 1 := ⟨_, rfl⟩
      have h := h x9_30 ex9_30
      refine r_iinc (v := x9_30) hc 7 [(9, .int x9_30), (5, .long x5_29), (0, kz g 55), (1, .int x1), (2, .int x2), (3, .int x3), (4, .int x4), (7, .long x7), (10, .long x10_19)] dX7_thunderOdds_164 rfl (by rw [ex9_30]; rfl) (by decide) rfl ?_
      refine r_goto hc 79 dX7_thunderOdds_167 (by decide) ?_
      refine r_sub [2, 3, 4, 5, 6, 1, 7, 0] rfl ?_
      exact hK _ _ _ h
    · have h := kif_f h q
      refine r_lconst (v := 0) hc dX7_thunderOdds_160 rfl ?_
      refine r_ladd hc dX7_thunderOdds_161 ?_
      refine r_nmJ (fun x5_31 ex5_31 => ?_)
      have h := h x5_31 ex5_31
      refine r_lstore hc [(5, .long x5_31), (0, kz g 55), (1, .int x1), (2, .int x2), (3, .int x3), (4, .int x4), (7, .long x7), (9, .int x9), (10, .long x10_19)] dX7_thunderOdds_162 (by decide) rfl ?_
      obtain ⟨x9_32, ex9_32⟩ : ∃ v : Int32, v = x9 + 1 := ⟨_, rfl⟩
      have h := h x9_32 ex9_32
      refine r_iinc (v := x9_32) hc 7 [(9, .int x9_32), (5, .long x5_31), (0, kz g 55), (1, .int x1), (2, .int x2), (3, .int x3), (4, .int x4), (7, .long x7), (10, .long x10_19)] dX7_thunderOdds_164 rfl (by rw [ex9_32]; rfl) (by decide) rfl ?_
      refine r_goto hc 79 dX7_thunderOdds_167 (by decide) ?_
      refine r_sub [2, 3, 4, 5, 6, 1, 7, 0] rfl ?_
      exact hK _ _ _ h
theorem sl_X7_thunderOdds_79 {X : kX} {g : kG} {N : Nat} {Q : Int64 → kS → Prop} (hc : kOk X g RX7 cX7_thunderOdds 15 (some .long) 3) (hZ : kRl X g cX7_thunderOdds Q) {x1 : Int32} {x2 : Int32} {x3 : Int32} {x4 : Int32} {x7 : Int64} {E170 : Int64 → kS → Prop} (hE170 : ∀ (x5 : Int64) (τ : kS), E170 x5 τ → kP X g 15 170 [(4, .int x4), (5, .long x5), (7, .long x7)] [] τ) : ∀ (n : Nat) (x5 : Int64) (x9 : Int32) (σ : kS), l_X7_thunderOdds_79 N Q x1 x2 x3 x4 x7 E170 n x5 x9 σ → kP X g 15 79 [(0, kz g 55), (1, .int x1), (2, .int x2), (3, .int x3), (4, .int x4), (5, .long x5), (7, .long x7), (9, .int x9)] [] σ := by
  intro n
  induction n with
  | zero => intro x5 x9 σ h; exact h.elim
  | succ n ih => intro x5 x9 σ h; exact sb_X7_thunderOdds_79 hc hZ hE170 ih h
def b_X7_thunderOdds_178 (N : Nat) (Q : Int64 → kS → Prop) (x4 : Int32) (x5 : Int64) (x7 : Int64) (E203 : Int64 → kS → Prop) (K : Int64 → Int64 → kS → Prop) (x9 : Int64) (x11 : Int64) (σ : kS) : Prop :=
  if (lg_cmp x11 0) = 0 then (E203 x9 σ) else (¬ x11 = 0 ∧ (∀ x13_36 : Int64, x13_36 = kremL x9 x11 → (K x11 x13_36 σ)))
def l_X7_thunderOdds_178 (N : Nat) (Q : Int64 → kS → Prop) (x4 : Int32) (x5 : Int64) (x7 : Int64) (E203 : Int64 → kS → Prop) : Nat → Int64 → Int64 → kS → Prop
  | 0 => fun _ _ _ => False
  | n + 1 => b_X7_thunderOdds_178 N Q x4 x5 x7 E203 (l_X7_thunderOdds_178 N Q x4 x5 x7 E203 n)
set_option maxHeartbeats 4000000 in
set_option maxRecDepth 100000 in
theorem sb_X7_thunderOdds_178 {X : kX} {g : kG} {N : Nat} {Q : Int64 → kS → Prop} (hc : kOk X g RX7 cX7_thunderOdds 15 (some .long) 3) (hZ : kRl X g cX7_thunderOdds Q) {x4 : Int32} {x5 : Int64} {x7 : Int64} {E203 : Int64 → kS → Prop} (hE203 : ∀ (x9 : Int64) (τ : kS), E203 x9 τ → kP X g 15 203 [(4, .int x4), (5, .long x5), (7, .long x7), (9, .long x9)] [] τ) {K : Int64 → Int64 → kS → Prop} (hK : ∀ (x9 : Int64) (x11 : Int64) (τ : kS), K x9 x11 τ → kP X g 15 178 [(4, .int x4), (5, .long x5), (7, .long x7), (9, .long x9), (11, .long x11)] [] τ) {x9 : Int64} {x11 : Int64} {σ : kS} (h : b_X7_thunderOdds_178 N Q x4 x5 x7 E203 K x9 x11 σ) : kP X g 15 178 [(4, .int x4), (5, .long x5), (7, .long x7), (9, .long x9), (11, .long x11)] [] σ := by
  unfold b_X7_thunderOdds_178 at h
  refine r_lload hc 4 dX7_thunderOdds_178 rfl ?_
  refine r_lconst (v := 0) hc dX7_thunderOdds_180 rfl ?_
  refine r_lcmp hc dX7_thunderOdds_181 ?_
  refine r_if_eq hc 203 dX7_thunderOdds_182 (by decide) (fun q => ?_) (fun q => ?_)
  · have h := kif_t h q
    refine r_sub [0, 1, 2, 3] rfl ?_
    exact hE203 _ _ h
  · have h := kif_f h q
    refine r_lload hc 3 dX7_thunderOdds_185 rfl ?_
    refine r_lload hc 4 dX7_thunderOdds_187 rfl ?_
    obtain ⟨hn_35, h⟩ := h
    refine r_lrem hc dX7_thunderOdds_189 hn_35 ?_
    refine r_nmJ (fun x13_36 ex13_36 => ?_)
    have h := h x13_36 ex13_36
    refine r_lstore hc [(13, .long x13_36), (4, .int x4), (5, .long x5), (7, .long x7), (9, .long x9), (11, .long x11)] dX7_thunderOdds_190 (by decide) rfl ?_
    refine r_lload hc 5 dX7_thunderOdds_192 rfl ?_
    refine r_lstore hc [(9, .long x11), (13, .long x13_36), (4, .int x4), (5, .long x5), (7, .long x7), (11, .long x11)] dX7_thunderOdds_194 (by decide) rfl ?_
    refine r_lload hc 1 dX7_thunderOdds_196 rfl ?_
    refine r_lstore hc [(11, .long x13_36), (9, .long x11), (13, .long x13_36), (4, .int x4), (5, .long x5), (7, .long x7)] dX7_thunderOdds_198 (by decide) rfl ?_
    refine r_goto hc 178 dX7_thunderOdds_200 (by decide) ?_
    refine r_sub [3, 4, 5, 1, 0] rfl ?_
    exact hK _ _ _ h
theorem sl_X7_thunderOdds_178 {X : kX} {g : kG} {N : Nat} {Q : Int64 → kS → Prop} (hc : kOk X g RX7 cX7_thunderOdds 15 (some .long) 3) (hZ : kRl X g cX7_thunderOdds Q) {x4 : Int32} {x5 : Int64} {x7 : Int64} {E203 : Int64 → kS → Prop} (hE203 : ∀ (x9 : Int64) (τ : kS), E203 x9 τ → kP X g 15 203 [(4, .int x4), (5, .long x5), (7, .long x7), (9, .long x9)] [] τ) : ∀ (n : Nat) (x9 : Int64) (x11 : Int64) (σ : kS), l_X7_thunderOdds_178 N Q x4 x5 x7 E203 n x9 x11 σ → kP X g 15 178 [(4, .int x4), (5, .long x5), (7, .long x7), (9, .long x9), (11, .long x11)] [] σ := by
  intro n
  induction n with
  | zero => intro x9 x11 σ h; exact h.elim
  | succ n ih => intro x9 x11 σ h; exact sb_X7_thunderOdds_178 hc hZ hE203 ih h
def w_X7_thunderOdds (N : Nat) (σ : kS) (x1 : Int32) (x2 : Int32) (x3 : Int32) (x4 : Int32) (Q : Int64 → kS → Prop) : Prop :=
  w_X7_isPupil N σ x1 (fun (r_2 : Int32) (σ_1 : kS) => if r_2 = 0 then (Q (-1000001) σ_1) else (w_X7_in N σ_1 (x2.toInt64) 0 10 (fun (r_4 : Int32) (σ_3 : kS) => if r_4 = 0 then (Q (-1000001) σ_3) else (w_X7_in N σ_3 (x3.toInt64) 0 6 (fun (r_6 : Int32) (σ_5 : kS) => if r_6 = 0 then (Q (-1000001) σ_5) else (w_X7_in N σ_5 (x4.toInt64) 0 1 (fun (r_8 : Int32) (σ_7 : kS) => if r_8 = 0 then (Q (-1000001) σ_7) else (l_X7_thunderOdds_56 N Q x1 x2 x3 x4 0 (fun (x7_11 : Int64) (σ_12 : kS) => l_X7_thunderOdds_79 N Q x1 x2 x3 x4 x7_11 (fun (x5_33 : Int64) (σ_34 : kS) => l_X7_thunderOdds_178 N Q x4 x5_33 x7_11 (fun (x9_37 : Int64) (σ_38 : kS) => if x4 = 0 then (¬ x9_37 = 0 ∧ (Q (x5_33 / x9_37) σ_38)) else (¬ x9_37 = 0 ∧ (Q (x7_11 / x9_37) σ_38))) N x5_33 x7_11 σ_34) N 0 0 σ_12) N 1 0 σ_7))))))))
set_option maxHeartbeats 4000000 in
set_option maxRecDepth 100000 in
theorem s_X7_thunderOdds {X : kX} {g : kG} {N : Nat} {Q : Int64 → kS → Prop} (hc : kOk X g RX7 cX7_thunderOdds 15 (some .long) 3) (hZ : kRl X g cX7_thunderOdds Q) {σ : kS} {x1 : Int32} {x2 : Int32} {x3 : Int32} {x4 : Int32} (h : w_X7_thunderOdds N σ x1 x2 x3 x4 Q) : kP X g 15 0 [(0, kz g 55), (1, .int x1), (2, .int x2), (3, .int x3), (4, .int x4)] [] σ := by
  unfold w_X7_thunderOdds at h
  refine r_aload_n hc 0 dX7_thunderOdds_0 rfl ?_
  refine r_iload_n hc 1 dX7_thunderOdds_1 rfl ?_
  refine r_callVi (d := 1) hc (m_X7_isPupil h) cw_X7_isPupil wi_X7_isPupil ws_X7_isPupil lm_X7_159 (by decide) (by decide) rv_X7 rfl rfl (Nat.le_of_ble_eq_true rfl) dX7_thunderOdds_2 (fun r_2 σ_1 h => ?_)
  refine r_if_eq hc 43 dX7_thunderOdds_5 (by decide) (fun q => ?_) (fun q => ?_)
  · have h := kif_t h q
    refine r_ldc2_w hc lK_X7_218 dX7_thunderOdds_43 ?_
    exact r_lret (ls0 := []) hZ dX7_thunderOdds_46 h
  · have h := kif_f h q
    refine r_iload_n hc 2 dX7_thunderOdds_8 rfl ?_
    refine r_i2l hc dX7_thunderOdds_9 ?_
    refine r_lconst (v := 0) hc dX7_thunderOdds_10 rfl ?_
    refine r_ldc2_w hc lK_X7_216 dX7_thunderOdds_11 ?_
    refine r_callSi (d := 0) hc (m_X7_in h) cw_X7_in wt_X7_in lm_X7_57 (by decide) (by decide) rfl rfl (Nat.le_of_ble_eq_true rfl) dX7_thunderOdds_14 (fun r_4 σ_3 h => ?_)
    refine r_if_eq hc 43 dX7_thunderOdds_17 (by decide) (fun q => ?_) (fun q => ?_)
    · have h := kif_t h q
      refine r_ldc2_w hc lK_X7_218 dX7_thunderOdds_43 ?_
      exact r_lret (ls0 := []) hZ dX7_thunderOdds_46 h
    · have h := kif_f h q
      refine r_iload_n hc 3 dX7_thunderOdds_20 rfl ?_
      refine r_i2l hc dX7_thunderOdds_21 ?_
      refine r_lconst (v := 0) hc dX7_thunderOdds_22 rfl ?_
      refine r_ldc2_w hc lK_X7_205 dX7_thunderOdds_23 ?_
      refine r_callSi (d := 0) hc (m_X7_in h) cw_X7_in wt_X7_in lm_X7_57 (by decide) (by decide) rfl rfl (Nat.le_of_ble_eq_true rfl) dX7_thunderOdds_26 (fun r_6 σ_5 h => ?_)
      refine r_if_eq hc 43 dX7_thunderOdds_29 (by decide) (fun q => ?_) (fun q => ?_)
      · have h := kif_t h q
        refine r_ldc2_w hc lK_X7_218 dX7_thunderOdds_43 ?_
        exact r_lret (ls0 := []) hZ dX7_thunderOdds_46 h
      · have h := kif_f h q
        refine r_iload hc 4 dX7_thunderOdds_32 rfl ?_
        refine r_i2l hc dX7_thunderOdds_34 ?_
        refine r_lconst (v := 0) hc dX7_thunderOdds_35 rfl ?_
        refine r_lconst (v := 1) hc dX7_thunderOdds_36 rfl ?_
        refine r_callSi (d := 0) hc (m_X7_in h) cw_X7_in wt_X7_in lm_X7_57 (by decide) (by decide) rfl rfl (Nat.le_of_ble_eq_true rfl) dX7_thunderOdds_37 (fun r_8 σ_7 h => ?_)
        refine r_if_ne hc 47 dX7_thunderOdds_40 (by decide) (fun q => ?_) (fun q => ?_)
        · have h := kif_t h q
          refine r_ldc2_w hc lK_X7_218 dX7_thunderOdds_43 ?_
          exact r_lret (ls0 := []) hZ dX7_thunderOdds_46 h
        · have h := kif_f h q
          refine r_lconst (v := 0) hc dX7_thunderOdds_47 rfl ?_
          refine r_lstore hc [(5, .long 0), (0, kz g 55), (1, .int x1), (2, .int x2), (3, .int x3), (4, .int x4)] dX7_thunderOdds_48 (by decide) rfl ?_
          refine r_lconst (v := 1) hc dX7_thunderOdds_50 rfl ?_
          refine r_lstore hc [(7, .long 1), (5, .long 0), (0, kz g 55), (1, .int x1), (2, .int x2), (3, .int x3), (4, .int x4)] dX7_thunderOdds_51 (by decide) rfl ?_
          refine r_iconst (v := 0) hc dX7_thunderOdds_53 rfl ?_
          refine r_istore hc [(9, .int 0), (7, .long 1), (5, .long 0), (0, kz g 55), (1, .int x1), (2, .int x2), (3, .int x3), (4, .int x4)] dX7_thunderOdds_54 (by decide) rfl ?_
          refine r_sub [3, 4, 5, 6, 7, 2, 1, 0] rfl ?_
          refine sl_X7_thunderOdds_56 hc hZ (fun x7_11 σ_12 h => ?_) _ _ _ _ h
          refine r_iconst (v := 0) hc dX7_thunderOdds_76 rfl ?_
          refine r_istore hc [(9, .int 0), (0, kz g 55), (1, .int x1), (2, .int x2), (3, .int x3), (4, .int x4), (5, .long 0), (7, .long x7_11)] dX7_thunderOdds_77 (by decide) rfl ?_
          refine r_sub [1, 2, 3, 4, 5, 6, 7, 0] rfl ?_
          refine sl_X7_thunderOdds_79 hc hZ (fun x5_33 σ_34 h => ?_) _ _ _ _ h
          refine r_lload hc 1 dX7_thunderOdds_170 rfl ?_
          refine r_lstore hc [(9, .long x5_33), (4, .int x4), (5, .long x5_33), (7, .long x7_11)] dX7_thunderOdds_172 (by decide) rfl ?_
          refine r_lload hc 3 dX7_thunderOdds_174 rfl ?_
          refine r_lstore hc [(11, .long x7_11), (9, .long x5_33), (4, .int x4), (5, .long x5_33), (7, .long x7_11)] dX7_thunderOdds_176 (by decide) rfl ?_
          refine r_sub [2, 3, 4, 1, 0] rfl ?_
          refine sl_X7_thunderOdds_178 hc hZ (fun x9_37 σ_38 h => ?_) _ _ _ _ h
          refine r_iload hc 0 dX7_thunderOdds_203 rfl ?_
          refine r_if_ne hc 216 dX7_thunderOdds_205 (by decide) (fun q => ?_) (fun q => ?_)
          · have h := kif_t h q
            refine r_lload hc 1 dX7_thunderOdds_208 rfl ?_
            refine r_lload hc 3 dX7_thunderOdds_210 rfl ?_
            obtain ⟨hn_39, h⟩ := h
            refine r_ldiv hc dX7_thunderOdds_212 hn_39 ?_
            refine r_goto hc 221 dX7_thunderOdds_213 (by decide) ?_
            exact r_lret (ls0 := []) hZ dX7_thunderOdds_221 h
          · have h := kif_f h q
            refine r_lload hc 2 dX7_thunderOdds_216 rfl ?_
            refine r_lload hc 3 dX7_thunderOdds_218 rfl ?_
            obtain ⟨hn_40, h⟩ := h
            refine r_ldiv hc dX7_thunderOdds_220 hn_40 ?_
            exact r_lret (ls0 := []) hZ dX7_thunderOdds_221 h
theorem m_X7_thunderOdds {l : Launch} {g : kG} {N : Nat} {σ : kS} {x1 : Int32} {x2 : Int32} {x3 : Int32} {x4 : Int32} {Q : Int64 → kS → Prop} (h : w_X7_thunderOdds N σ x1 x2 x3 x4 Q) : kMl l g yX7_thunderOdds cX7_thunderOdds 15 (some .long) 3 [kz g 55, .int x1, .int x2, .int x3, .int x4] σ Q :=
  k_met_l (by decide +kernel) rfl (Nat.le_of_ble_eq_true rfl) (fun X hl hc hZ => s_X7_thunderOdds hc hZ h)
def b_X7_drawn_135 (N : Nat) (Q : Int32 → kS → Prop) (x1 : Int32) (x3 : Int32) (x4 : Int64) (x6 : Int32) (x7 : Int32) (x8 : Int32) (E175 : Int32 → kS → Prop) (K : Int32 → Int32 → kS → Prop) (x9 : Int32) (x10 : Int32) (σ : kS) : Prop :=
  vp_in 4 57 ∧ (if (σ 59 (4 : Int32).toNatClampNeg) ≤ x10 then (E175 x9 σ) else (if x9 = 0 then (w_X7_biasOf N σ x10 (fun (r_21 : Int32) (σ_20 : kS) => if r_21 = x6 then (∀ x10_22 : Int32, x10_22 = x10 + 1 → (K 1 x10_22 σ_20)) else (∀ x10_23 : Int32, x10_23 = x10 + 1 → (K 0 x10_23 σ_20)))) else (∀ x10_24 : Int32, x10_24 = x10 + 1 → (K 1 x10_24 σ))))
def l_X7_drawn_135 (N : Nat) (Q : Int32 → kS → Prop) (x1 : Int32) (x3 : Int32) (x4 : Int64) (x6 : Int32) (x7 : Int32) (x8 : Int32) (E175 : Int32 → kS → Prop) : Nat → Int32 → Int32 → kS → Prop
  | 0 => fun _ _ _ => False
  | n + 1 => b_X7_drawn_135 N Q x1 x3 x4 x6 x7 x8 E175 (l_X7_drawn_135 N Q x1 x3 x4 x6 x7 x8 E175 n)
set_option maxHeartbeats 4000000 in
set_option maxRecDepth 100000 in
theorem sb_X7_drawn_135 {X : kX} {g : kG} {N : Nat} {Q : Int32 → kS → Prop} (hc : kOk X g RX7 cX7_drawn 11 (some .int) 3) (hZ : kRi X g cX7_drawn Q) {x1 : Int32} {x3 : Int32} {x4 : Int64} {x6 : Int32} {x7 : Int32} {x8 : Int32} {E175 : Int32 → kS → Prop} (hE175 : ∀ (x9 : Int32) (τ : kS), E175 x9 τ → kP X g 11 175 [(0, kz g 55), (1, .int x1), (3, .int x3), (4, .long x4), (6, .int x6), (7, .int x7), (8, .int x8), (9, .int x9)] [] τ) {K : Int32 → Int32 → kS → Prop} (hK : ∀ (x9 : Int32) (x10 : Int32) (τ : kS), K x9 x10 τ → kP X g 11 135 [(0, kz g 55), (1, .int x1), (3, .int x3), (4, .long x4), (6, .int x6), (7, .int x7), (8, .int x8), (9, .int x9), (10, .int x10)] [] τ) {x9 : Int32} {x10 : Int32} {σ : kS} (h : b_X7_drawn_135 N Q x1 x3 x4 x6 x7 x8 E175 K x9 x10 σ) : kP X g 11 135 [(0, kz g 55), (1, .int x1), (3, .int x3), (4, .long x4), (6, .int x6), (7, .int x7), (8, .int x8), (9, .int x9), (10, .int x10)] [] σ := by
  unfold b_X7_drawn_135 at h
  refine r_iload hc 8 dX7_drawn_135 rfl ?_
  refine r_aload_n hc 0 dX7_drawn_137 rfl ?_
  refine gf_X7_5 hc lf_X7_19 dX7_drawn_138 ?_
  refine r_iconst (v := 4) hc dX7_drawn_141 rfl ?_
  obtain ⟨hi_19, h⟩ := h
  refine r_iald hc kia_59 hi_19 dX7_drawn_142 ?_
  refine r_ic_ge hc 175 dX7_drawn_143 (by decide) (fun q => ?_) (fun q => ?_)
  · have h := kif_t h q
    refine r_sub [0, 1, 2, 3, 4, 5, 6, 7] rfl ?_
    exact hE175 _ _ h
  · have h := kif_f h q
    refine r_iload hc 7 dX7_drawn_146 rfl ?_
    refine r_if_ne hc 162 dX7_drawn_148 (by decide) (fun q => ?_) (fun q => ?_)
    · have h := kif_t h q
      refine r_aload_n hc 0 dX7_drawn_151 rfl ?_
      refine r_iload hc 8 dX7_drawn_152 rfl ?_
      refine r_callVi (d := 2) hc (m_X7_biasOf h) cw_X7_biasOf wi_X7_biasOf ws_X7_biasOf lm_X7_169 (by decide) (by decide) rv_X7 rfl rfl (Nat.le_of_ble_eq_true rfl) dX7_drawn_154 (fun r_21 σ_20 h => ?_)
      refine r_iload hc 4 dX7_drawn_157 rfl ?_
      refine r_ic_ne hc 166 dX7_drawn_159 (by decide) (fun q => ?_) (fun q => ?_)
      · have h := kif_t h q
        refine r_iconst (v := 1) hc dX7_drawn_162 rfl ?_
        refine r_goto hc 167 dX7_drawn_163 (by decide) ?_
        refine r_istore hc [(9, .int 1), (0, kz g 55), (1, .int x1), (3, .int x3), (4, .long x4), (6, .int x6), (7, .int x7), (8, .int x8), (10, .int x10)] dX7_drawn_167 (by decide) rfl ?_
        obtain ⟨x10_22, ex10_22⟩ : ∃ v : Int32, v = x10 + 1 := ⟨_, rfl⟩
        have h := h x10_22 ex10_22
        refine r_iinc (v := x10_22) hc 8 [(10, .int x10_22), (9, .int 1), (0, kz g 55), (1, .int x1), (3, .int x3), (4, .long x4), (6, .int x6), (7, .int x7), (8, .int x8)] dX7_drawn_169 rfl (by rw [ex10_22]; rfl) (by decide) rfl ?_
        refine r_goto hc 135 dX7_drawn_172 (by decide) ?_
        refine r_sub [2, 3, 4, 5, 6, 7, 8, 1, 0] rfl ?_
        exact hK _ _ _ h
      · have h := kif_f h q
        refine r_iconst (v := 0) hc dX7_drawn_166 rfl ?_
        refine r_istore hc [(9, .int 0), (0, kz g 55), (1, .int x1), (3, .int x3), (4, .long x4), (6, .int x6), (7, .int x7), (8, .int x8), (10, .int x10)] dX7_drawn_167 (by decide) rfl ?_
        obtain ⟨x10_23, ex10_23⟩ : ∃ v : Int32, v = x10 + 1 := ⟨_, rfl⟩
        have h := h x10_23 ex10_23
        refine r_iinc (v := x10_23) hc 8 [(10, .int x10_23), (9, .int 0), (0, kz g 55), (1, .int x1), (3, .int x3), (4, .long x4), (6, .int x6), (7, .int x7), (8, .int x8)] dX7_drawn_169 rfl (by rw [ex10_23]; rfl) (by decide) rfl ?_
        refine r_goto hc 135 dX7_drawn_172 (by decide) ?_
        refine r_sub [2, 3, 4, 5, 6, 7, 8, 1, 0] rfl ?_
        exact hK _ _ _ h
    · have h := kif_f h q
      refine r_iconst (v := 1) hc dX7_drawn_162 rfl ?_
      refine r_goto hc 167 dX7_drawn_163 (by decide) ?_
      refine r_istore hc [(9, .int 1), (0, kz g 55), (1, .int x1), (3, .int x3), (4, .long x4), (6, .int x6), (7, .int x7), (8, .int x8), (10, .int x10)] dX7_drawn_167 (by decide) rfl ?_
      obtain ⟨x10_24, ex10_24⟩ : ∃ v : Int32, v = x10 + 1 := ⟨_, rfl⟩
      have h := h x10_24 ex10_24
      refine r_iinc (v := x10_24) hc 8 [(10, .int x10_24), (9, .int 1), (0, kz g 55), (1, .int x1), (3, .int x3), (4, .long x4), (6, .int x6), (7, .int x7), (8, .int x8)] dX7_drawn_169 rfl (by rw [ex10_24]; rfl) (by decide) rfl ?_
      refine r_goto hc 135 dX7_drawn_172 (by decide) ?_
      refine r_sub [2, 3, 4, 5, 6, 7, 8, 1, 0] rfl ?_
      exact hK _ _ _ h
theorem sl_X7_drawn_135 {X : kX} {g : kG} {N : Nat} {Q : Int32 → kS → Prop} (hc : kOk X g RX7 cX7_drawn 11 (some .int) 3) (hZ : kRi X g cX7_drawn Q) {x1 : Int32} {x3 : Int32} {x4 : Int64} {x6 : Int32} {x7 : Int32} {x8 : Int32} {E175 : Int32 → kS → Prop} (hE175 : ∀ (x9 : Int32) (τ : kS), E175 x9 τ → kP X g 11 175 [(0, kz g 55), (1, .int x1), (3, .int x3), (4, .long x4), (6, .int x6), (7, .int x7), (8, .int x8), (9, .int x9)] [] τ) : ∀ (n : Nat) (x9 : Int32) (x10 : Int32) (σ : kS), l_X7_drawn_135 N Q x1 x3 x4 x6 x7 x8 E175 n x9 x10 σ → kP X g 11 135 [(0, kz g 55), (1, .int x1), (3, .int x3), (4, .long x4), (6, .int x6), (7, .int x7), (8, .int x8), (9, .int x9), (10, .int x10)] [] σ := by
  intro n
  induction n with
  | zero => intro x9 x10 σ h; exact h.elim
  | succ n ih => intro x9 x10 σ h; exact sb_X7_drawn_135 hc hZ hE175 ih h
def j_X7_drawn_111 (N : Nat) (Q : Int32 → kS → Prop) (x1 : Int32) (x3 : Int32) (x4 : Int64) (x7 : Int32) (x8 : Int32) (s0 : Int32) (s1 : Int32) (K : Int64 → Int32 → Int32 → Int32 → kS → Prop) (σ : kS) : Prop :=
  ∀ x6_15 : Int32, x6_15 = s1 + s0 → (vp_in 1 57 ∧ (w_X7_over N σ (x6_15 + (σ 59 (1 : Int32).toNatClampNeg)) (fun (r_18 : Int32) (σ_17 : kS) => l_X7_drawn_135 N Q x1 x3 x4 r_18 x7 x8 (fun (x9_25 : Int32) (σ_26 : kS) => if x9_25 = 0 then (∀ x7_27 : Int32, x7_27 = x7 + 0 → (∀ x8_28 : Int32, x8_28 = x8 + 1 → (K x4 r_18 x7_27 x8_28 σ_26))) else (∀ x7_29 : Int32, x7_29 = x7 + 1 → (∀ x8_30 : Int32, x8_30 = x8 + 1 → (K x4 r_18 x7_29 x8_30 σ_26)))) N 0 0 σ_17)))
set_option maxHeartbeats 4000000 in
set_option maxRecDepth 100000 in
theorem sj_X7_drawn_111 {X : kX} {g : kG} {N : Nat} {Q : Int32 → kS → Prop} (hc : kOk X g RX7 cX7_drawn 11 (some .int) 3) (hZ : kRi X g cX7_drawn Q) {x1 : Int32} {x3 : Int32} {x4 : Int64} {x7 : Int32} {x8 : Int32} {s0 : Int32} {s1 : Int32} {K : Int64 → Int32 → Int32 → Int32 → kS → Prop} (hK : ∀ (x4 : Int64) (x6 : Int32) (x7 : Int32) (x8 : Int32) (τ : kS), K x4 x6 x7 x8 τ → kP X g 11 65 [(0, kz g 55), (1, .int x1), (3, .int x3), (4, .long x4), (6, .int x6), (7, .int x7), (8, .int x8)] [] τ) {σ : kS} (h : j_X7_drawn_111 N Q x1 x3 x4 x7 x8 s0 s1 K σ) : kP X g 11 111 [(0, kz g 55), (1, .int x1), (3, .int x3), (4, .long x4), (7, .int x7), (8, .int x8)] [.int s0, .int s1] σ := by
  unfold j_X7_drawn_111 at h
  refine r_iadd hc dX7_drawn_111 ?_
  refine r_nmI (fun x6_15 ex6_15 => ?_)
  have h := h x6_15 ex6_15
  refine r_istore hc [(6, .int x6_15), (0, kz g 55), (1, .int x1), (3, .int x3), (4, .long x4), (7, .int x7), (8, .int x8)] dX7_drawn_112 (by decide) rfl ?_
  refine r_aload_n hc 1 dX7_drawn_114 rfl ?_
  refine r_iload hc 0 dX7_drawn_115 rfl ?_
  refine r_aload_n hc 1 dX7_drawn_117 rfl ?_
  refine gf_X7_5 hc lf_X7_19 dX7_drawn_118 ?_
  refine r_iconst (v := 1) hc dX7_drawn_121 rfl ?_
  obtain ⟨hi_16, h⟩ := h
  refine r_iald hc kia_59 hi_16 dX7_drawn_122 ?_
  refine r_iadd hc dX7_drawn_123 ?_
  refine r_callVi (d := 0) hc (m_X7_over h) cw_X7_over wi_X7_over ws_X7_over lm_X7_146 (by decide) (by decide) rv_X7 rfl rfl (Nat.le_of_ble_eq_true rfl) dX7_drawn_124 (fun r_18 σ_17 h => ?_)
  refine r_istore hc [(6, .int r_18), (0, kz g 55), (1, .int x1), (3, .int x3), (4, .long x4), (7, .int x7), (8, .int x8)] dX7_drawn_127 (by decide) rfl ?_
  refine r_iconst (v := 0) hc dX7_drawn_129 rfl ?_
  refine r_istore hc [(9, .int 0), (6, .int r_18), (0, kz g 55), (1, .int x1), (3, .int x3), (4, .long x4), (7, .int x7), (8, .int x8)] dX7_drawn_130 (by decide) rfl ?_
  refine r_iconst (v := 0) hc dX7_drawn_132 rfl ?_
  refine r_istore hc [(10, .int 0), (9, .int 0), (6, .int r_18), (0, kz g 55), (1, .int x1), (3, .int x3), (4, .long x4), (7, .int x7), (8, .int x8)] dX7_drawn_133 (by decide) rfl ?_
  refine r_sub [3, 4, 5, 6, 2, 7, 8, 1, 0] rfl ?_
  refine sl_X7_drawn_135 hc hZ (fun x9_25 σ_26 h => ?_) _ _ _ _ h
  refine r_iload hc 5 dX7_drawn_175 rfl ?_
  refine r_iload hc 7 dX7_drawn_177 rfl ?_
  refine r_if_eq hc 186 dX7_drawn_179 (by decide) (fun q => ?_) (fun q => ?_)
  · have h := kif_t h q
    refine r_iconst (v := 0) hc dX7_drawn_186 rfl ?_
    refine r_iadd hc dX7_drawn_187 ?_
    refine r_nmI (fun x7_27 ex7_27 => ?_)
    have h := h x7_27 ex7_27
    refine r_istore hc [(7, .int x7_27), (0, kz g 55), (1, .int x1), (3, .int x3), (4, .long x4), (6, .int r_18), (8, .int x8), (9, .int x9_25)] dX7_drawn_188 (by decide) rfl ?_
    obtain ⟨x8_28, ex8_28⟩ : ∃ v : Int32, v = x8 + 1 := ⟨_, rfl⟩
    have h := h x8_28 ex8_28
    refine r_iinc (v := x8_28) hc 6 [(8, .int x8_28), (7, .int x7_27), (0, kz g 55), (1, .int x1), (3, .int x3), (4, .long x4), (6, .int r_18), (9, .int x9_25)] dX7_drawn_190 rfl (by rw [ex8_28]; rfl) (by decide) rfl ?_
    refine r_goto hc 65 dX7_drawn_193 (by decide) ?_
    refine r_sub [2, 3, 4, 5, 6, 1, 0] rfl ?_
    exact hK _ _ _ _ _ h
  · have h := kif_f h q
    refine r_iconst (v := 1) hc dX7_drawn_182 rfl ?_
    refine r_goto hc 187 dX7_drawn_183 (by decide) ?_
    refine r_iadd hc dX7_drawn_187 ?_
    refine r_nmI (fun x7_29 ex7_29 => ?_)
    have h := h x7_29 ex7_29
    refine r_istore hc [(7, .int x7_29), (0, kz g 55), (1, .int x1), (3, .int x3), (4, .long x4), (6, .int r_18), (8, .int x8), (9, .int x9_25)] dX7_drawn_188 (by decide) rfl ?_
    obtain ⟨x8_30, ex8_30⟩ : ∃ v : Int32, v = x8 + 1 := ⟨_, rfl⟩
    have h := h x8_30 ex8_30
    refine r_iinc (v := x8_30) hc 6 [(8, .int x8_30), (7, .int x7_29), (0, kz g 55), (1, .int x1), (3, .int x3), (4, .long x4), (6, .int r_18), (9, .int x9_25)] dX7_drawn_190 rfl (by rw [ex8_30]; rfl) (by decide) rfl ?_
    refine r_goto hc 65 dX7_drawn_193 (by decide) ?_
    refine r_sub [2, 3, 4, 5, 6, 1, 0] rfl ?_
    exact hK _ _ _ _ _ h
def b_X7_drawn_65 (N : Nat) (Q : Int32 → kS → Prop) (x1 : Int32) (x3 : Int32) (E196 : Int32 → Int32 → kS → Prop) (K : Int64 → Int32 → Int32 → Int32 → kS → Prop) (x4 : Int64) (x6 : Int32) (x7 : Int32) (x8 : Int32) (σ : kS) : Prop :=
  if x1 ≤ x8 then (E196 x6 x7 σ) else (¬ (2147483647 : Int64) = 0 ∧ (∀ x4_11 : Int64, x4_11 = kremL (x4 * 16807) 2147483647 → (¬ (5 : Int64) = 0 ∧ (if (lg_cmp (kremL x4_11 5) 0) = 0 then (vp_in 0 57 ∧ (¬ ((σ 59 (0 : Int32).toNatClampNeg).toInt64) = 0 ∧ (j_X7_drawn_111 N Q x1 x3 x4_11 x7 x8 ((kremL x4_11 ((σ 59 (0 : Int32).toNatClampNeg).toInt64)).toInt32) x6 K σ))) else (j_X7_drawn_111 N Q x1 x3 x4_11 x7 x8 0 x6 K σ)))))
def l_X7_drawn_65 (N : Nat) (Q : Int32 → kS → Prop) (x1 : Int32) (x3 : Int32) (E196 : Int32 → Int32 → kS → Prop) : Nat → Int64 → Int32 → Int32 → Int32 → kS → Prop
  | 0 => fun _ _ _ _ _ => False
  | n + 1 => b_X7_drawn_65 N Q x1 x3 E196 (l_X7_drawn_65 N Q x1 x3 E196 n)
set_option maxHeartbeats 4000000 in
set_option maxRecDepth 100000 in
theorem sb_X7_drawn_65 {X : kX} {g : kG} {N : Nat} {Q : Int32 → kS → Prop} (hc : kOk X g RX7 cX7_drawn 11 (some .int) 3) (hZ : kRi X g cX7_drawn Q) {x1 : Int32} {x3 : Int32} {E196 : Int32 → Int32 → kS → Prop} (hE196 : ∀ (x6 : Int32) (x7 : Int32) (τ : kS), E196 x6 x7 τ → kP X g 11 196 [(3, .int x3), (6, .int x6), (7, .int x7)] [] τ) {K : Int64 → Int32 → Int32 → Int32 → kS → Prop} (hK : ∀ (x4 : Int64) (x6 : Int32) (x7 : Int32) (x8 : Int32) (τ : kS), K x4 x6 x7 x8 τ → kP X g 11 65 [(0, kz g 55), (1, .int x1), (3, .int x3), (4, .long x4), (6, .int x6), (7, .int x7), (8, .int x8)] [] τ) {x4 : Int64} {x6 : Int32} {x7 : Int32} {x8 : Int32} {σ : kS} (h : b_X7_drawn_65 N Q x1 x3 E196 K x4 x6 x7 x8 σ) : kP X g 11 65 [(0, kz g 55), (1, .int x1), (3, .int x3), (4, .long x4), (6, .int x6), (7, .int x7), (8, .int x8)] [] σ := by
  unfold b_X7_drawn_65 at h
  refine r_iload hc 6 dX7_drawn_65 rfl ?_
  refine r_iload_n hc 1 dX7_drawn_67 rfl ?_
  refine r_ic_ge hc 196 dX7_drawn_68 (by decide) (fun q => ?_) (fun q => ?_)
  · have h := kif_t h q
    refine r_sub [2, 4, 5] rfl ?_
    exact hE196 _ _ _ h
  · have h := kif_f h q
    refine r_lload hc 3 dX7_drawn_71 rfl ?_
    refine r_ldc2_w hc lK_X7_222 dX7_drawn_73 ?_
    refine r_lmul hc dX7_drawn_76 ?_
    refine r_ldc2_w hc lK_X7_224 dX7_drawn_77 ?_
    obtain ⟨hn_10, h⟩ := h
    refine r_lrem hc dX7_drawn_80 hn_10 ?_
    refine r_nmJ (fun x4_11 ex4_11 => ?_)
    have h := h x4_11 ex4_11
    refine r_lstore hc [(4, .long x4_11), (0, kz g 55), (1, .int x1), (3, .int x3), (6, .int x6), (7, .int x7), (8, .int x8)] dX7_drawn_81 (by decide) rfl ?_
    refine r_iload hc 4 dX7_drawn_83 rfl ?_
    refine r_lload hc 0 dX7_drawn_85 rfl ?_
    refine r_ldc2_w hc lK_X7_226 dX7_drawn_87 ?_
    obtain ⟨hn_12, h⟩ := h
    refine r_lrem hc dX7_drawn_90 hn_12 ?_
    refine r_lconst (v := 0) hc dX7_drawn_91 rfl ?_
    refine r_lcmp hc dX7_drawn_92 ?_
    refine r_if_ne hc 110 dX7_drawn_93 (by decide) (fun q => ?_) (fun q => ?_)
    · have h := kif_t h q
      refine r_lload hc 0 dX7_drawn_96 rfl ?_
      refine r_aload_n hc 1 dX7_drawn_98 rfl ?_
      refine gf_X7_5 hc lf_X7_19 dX7_drawn_99 ?_
      refine r_iconst (v := 0) hc dX7_drawn_102 rfl ?_
      obtain ⟨hi_13, h⟩ := h
      refine r_iald hc kia_59 hi_13 dX7_drawn_103 ?_
      refine r_i2l hc dX7_drawn_104 ?_
      obtain ⟨hn_14, h⟩ := h
      refine r_lrem hc dX7_drawn_105 hn_14 ?_
      refine r_l2i hc dX7_drawn_106 ?_
      refine r_goto hc 111 dX7_drawn_107 (by decide) ?_
      refine r_sub [1, 2, 3, 0, 5, 6] rfl ?_
      exact sj_X7_drawn_111 hc hZ hK h
    · have h := kif_f h q
      refine r_iconst (v := 0) hc dX7_drawn_110 rfl ?_
      refine r_sub [1, 2, 3, 0, 5, 6] rfl ?_
      exact sj_X7_drawn_111 hc hZ hK h
theorem sl_X7_drawn_65 {X : kX} {g : kG} {N : Nat} {Q : Int32 → kS → Prop} (hc : kOk X g RX7 cX7_drawn 11 (some .int) 3) (hZ : kRi X g cX7_drawn Q) {x1 : Int32} {x3 : Int32} {E196 : Int32 → Int32 → kS → Prop} (hE196 : ∀ (x6 : Int32) (x7 : Int32) (τ : kS), E196 x6 x7 τ → kP X g 11 196 [(3, .int x3), (6, .int x6), (7, .int x7)] [] τ) : ∀ (n : Nat) (x4 : Int64) (x6 : Int32) (x7 : Int32) (x8 : Int32) (σ : kS), l_X7_drawn_65 N Q x1 x3 E196 n x4 x6 x7 x8 σ → kP X g 11 65 [(0, kz g 55), (1, .int x1), (3, .int x3), (4, .long x4), (6, .int x6), (7, .int x7), (8, .int x8)] [] σ := by
  intro n
  induction n with
  | zero => intro x4 x6 x7 x8 σ h; exact h.elim
  | succ n ih => intro x4 x6 x7 x8 σ h; exact sb_X7_drawn_65 hc hZ hE196 ih h
def w_X7_drawn (N : Nat) (σ : kS) (x1 : Int32) (x2 : Int32) (x3 : Int32) (Q : Int32 → kS → Prop) : Prop :=
  if (σ 55 4) = 0 then (Q (-1000002) σ) else (w_X7_in N σ (x1.toInt64) 0 60 (fun (r_2 : Int32) (σ_1 : kS) => if r_2 = 0 then (Q (-1000001) σ_1) else (w_X7_in N σ_1 (x2.toInt64) 1 999999 (fun (r_4 : Int32) (σ_3 : kS) => if r_4 = 0 then (Q (-1000001) σ_3) else (w_X7_in N σ_3 (x3.toInt64) 0 1 (fun (r_6 : Int32) (σ_5 : kS) => if r_6 = 0 then (Q (-1000001) σ_5) else (∀ x4_7 : Int64, x4_7 = x2.toInt64 → (vp_in 2 57 ∧ (∀ x6_9 : Int32, x6_9 = σ_5 59 (2 : Int32).toNatClampNeg → (l_X7_drawn_65 N Q x1 x3 (fun (x6_31 : Int32) (x7_32 : Int32) (σ_33 : kS) => if x3 = 0 then (Q x6_31 σ_33) else (Q x7_32 σ_33)) N x4_7 x6_9 0 0 σ_5))))))))))
set_option maxHeartbeats 4000000 in
set_option maxRecDepth 100000 in
theorem s_X7_drawn {X : kX} {g : kG} {N : Nat} {Q : Int32 → kS → Prop} (hc : kOk X g RX7 cX7_drawn 11 (some .int) 3) (hZ : kRi X g cX7_drawn Q) {σ : kS} {x1 : Int32} {x2 : Int32} {x3 : Int32} (h : w_X7_drawn N σ x1 x2 x3 Q) : kP X g 11 0 [(0, kz g 55), (1, .int x1), (2, .int x2), (3, .int x3)] [] σ := by
  unfold w_X7_drawn at h
  refine r_aload_n hc 0 dX7_drawn_0 rfl ?_
  refine gf_X7_4 hc lf_X7_138 dX7_drawn_1 ?_
  refine r_if_ne hc 10 dX7_drawn_4 (by decide) (fun q => ?_) (fun q => ?_)
  · have h := kif_t h q
    refine r_ldc hc lk_X7_145 dX7_drawn_7 ?_
    exact r_iret (ls0 := []) hZ dX7_drawn_9 h
  · have h := kif_f h q
    refine r_iload_n hc 1 dX7_drawn_10 rfl ?_
    refine r_i2l hc dX7_drawn_11 ?_
    refine r_lconst (v := 0) hc dX7_drawn_12 rfl ?_
    refine r_ldc2_w hc lK_X7_214 dX7_drawn_13 ?_
    refine r_callSi (d := 0) hc (m_X7_in h) cw_X7_in wt_X7_in lm_X7_57 (by decide) (by decide) rfl rfl (Nat.le_of_ble_eq_true rfl) dX7_drawn_16 (fun r_2 σ_1 h => ?_)
    refine r_if_eq hc 44 dX7_drawn_19 (by decide) (fun q => ?_) (fun q => ?_)
    · have h := kif_t h q
      refine r_ldc hc lk_X7_67 dX7_drawn_44 ?_
      exact r_iret (ls0 := []) hZ dX7_drawn_46 h
    · have h := kif_f h q
      refine r_iload_n hc 2 dX7_drawn_22 rfl ?_
      refine r_i2l hc dX7_drawn_23 ?_
      refine r_lconst (v := 1) hc dX7_drawn_24 rfl ?_
      refine r_ldc2_w hc lK_X7_220 dX7_drawn_25 ?_
      refine r_callSi (d := 0) hc (m_X7_in h) cw_X7_in wt_X7_in lm_X7_57 (by decide) (by decide) rfl rfl (Nat.le_of_ble_eq_true rfl) dX7_drawn_28 (fun r_4 σ_3 h => ?_)
      refine r_if_eq hc 44 dX7_drawn_31 (by decide) (fun q => ?_) (fun q => ?_)
      · have h := kif_t h q
        refine r_ldc hc lk_X7_67 dX7_drawn_44 ?_
        exact r_iret (ls0 := []) hZ dX7_drawn_46 h
      · have h := kif_f h q
        refine r_iload_n hc 3 dX7_drawn_34 rfl ?_
        refine r_i2l hc dX7_drawn_35 ?_
        refine r_lconst (v := 0) hc dX7_drawn_36 rfl ?_
        refine r_lconst (v := 1) hc dX7_drawn_37 rfl ?_
        refine r_callSi (d := 0) hc (m_X7_in h) cw_X7_in wt_X7_in lm_X7_57 (by decide) (by decide) rfl rfl (Nat.le_of_ble_eq_true rfl) dX7_drawn_38 (fun r_6 σ_5 h => ?_)
        refine r_if_ne hc 47 dX7_drawn_41 (by decide) (fun q => ?_) (fun q => ?_)
        · have h := kif_t h q
          refine r_ldc hc lk_X7_67 dX7_drawn_44 ?_
          exact r_iret (ls0 := []) hZ dX7_drawn_46 h
        · have h := kif_f h q
          refine r_iload_n hc 2 dX7_drawn_47 rfl ?_
          refine r_i2l hc dX7_drawn_48 ?_
          refine r_nmJ (fun x4_7 ex4_7 => ?_)
          have h := h x4_7 ex4_7
          refine r_lstore hc [(4, .long x4_7), (0, kz g 55), (1, .int x1), (2, .int x2), (3, .int x3)] dX7_drawn_49 (by decide) rfl ?_
          refine r_aload_n hc 1 dX7_drawn_51 rfl ?_
          refine gf_X7_5 hc lf_X7_19 dX7_drawn_52 ?_
          refine r_iconst (v := 2) hc dX7_drawn_55 rfl ?_
          obtain ⟨hi_8, h⟩ := h
          refine r_iald hc kia_59 hi_8 dX7_drawn_56 ?_
          refine r_nmI (fun x6_9 ex6_9 => ?_)
          have h := h x6_9 ex6_9
          refine r_istore hc [(6, .int x6_9), (4, .long x4_7), (0, kz g 55), (1, .int x1), (2, .int x2), (3, .int x3)] dX7_drawn_57 (by decide) rfl ?_
          refine r_iconst (v := 0) hc dX7_drawn_59 rfl ?_
          refine r_istore hc [(7, .int 0), (6, .int x6_9), (4, .long x4_7), (0, kz g 55), (1, .int x1), (2, .int x2), (3, .int x3)] dX7_drawn_60 (by decide) rfl ?_
          refine r_iconst (v := 0) hc dX7_drawn_62 rfl ?_
          refine r_istore hc [(8, .int 0), (7, .int 0), (6, .int x6_9), (4, .long x4_7), (0, kz g 55), (1, .int x1), (2, .int x2), (3, .int x3)] dX7_drawn_63 (by decide) rfl ?_
          refine r_sub [4, 5, 7, 3, 2, 1, 0] rfl ?_
          refine sl_X7_drawn_65 hc hZ (fun x6_31 x7_32 σ_33 h => ?_) _ _ _ _ _ _ h
          refine r_iload_n hc 0 dX7_drawn_196 rfl ?_
          refine r_if_ne hc 205 dX7_drawn_197 (by decide) (fun q => ?_) (fun q => ?_)
          · have h := kif_t h q
            refine r_iload hc 1 dX7_drawn_200 rfl ?_
            refine r_goto hc 207 dX7_drawn_202 (by decide) ?_
            exact r_iret (ls0 := []) hZ dX7_drawn_207 h
          · have h := kif_f h q
            refine r_iload hc 2 dX7_drawn_205 rfl ?_
            exact r_iret (ls0 := []) hZ dX7_drawn_207 h
theorem m_X7_drawn {l : Launch} {g : kG} {N : Nat} {σ : kS} {x1 : Int32} {x2 : Int32} {x3 : Int32} {Q : Int32 → kS → Prop} (h : w_X7_drawn N σ x1 x2 x3 Q) : kMi l g yX7_drawn cX7_drawn 11 (some .int) 3 [kz g 55, .int x1, .int x2, .int x3] σ Q :=
  k_met_i (by decide +kernel) rfl (Nat.le_of_ble_eq_true rfl) (fun X hl hc hZ => s_X7_drawn hc hZ h)
def b_X7_image_25 (N : Nat) (Q : Int32 → kS → Prop) (x1 : Int32) (E54 : kS → Prop) (K : Int32 → kS → Prop) (x2 : Int32) (σ : kS) : Prop :=
  if 57 ≤ x2 then (E54 σ) else (vp_in x2 57 ∧ (vp_in ((57 * x1) + x2) 114 ∧ (∀ σ_5 : kS, σ_5 = st2 σ 67 (((57 * x1) + x2).toNatClampNeg) (σ 59 x2.toNatClampNeg) → (∀ x2_6 : Int32, x2_6 = x2 + 1 → (K x2_6 σ_5)))))
def l_X7_image_25 (N : Nat) (Q : Int32 → kS → Prop) (x1 : Int32) (E54 : kS → Prop) : Nat → Int32 → kS → Prop
  | 0 => fun _ _ => False
  | n + 1 => b_X7_image_25 N Q x1 E54 (l_X7_image_25 N Q x1 E54 n)
set_option maxHeartbeats 4000000 in
set_option maxRecDepth 100000 in
theorem sb_X7_image_25 {X : kX} {g : kG} {N : Nat} {Q : Int32 → kS → Prop} (hc : kOk X g RX7 cX7_image 3 (some .int) 1) (hZ : kRi X g cX7_image Q) {x1 : Int32} {E54 : kS → Prop} (hE54 : ∀ (τ : kS), E54 τ → kP X g 3 54 [(0, kz g 55), (1, .int x1)] [] τ) {K : Int32 → kS → Prop} (hK : ∀ (x2 : Int32) (τ : kS), K x2 τ → kP X g 3 25 [(0, kz g 55), (1, .int x1), (2, .int x2)] [] τ) {x2 : Int32} {σ : kS} (h : b_X7_image_25 N Q x1 E54 K x2 σ) : kP X g 3 25 [(0, kz g 55), (1, .int x1), (2, .int x2)] [] σ := by
  unfold b_X7_image_25 at h
  refine r_iload_n hc 2 dX7_image_25 rfl ?_
  refine r_bipush (v := 57) hc dX7_image_26 rfl ?_
  refine r_ic_ge hc 54 dX7_image_28 (by decide) (fun q => ?_) (fun q => ?_)
  · have h := kif_t h q
    refine r_sub [0, 1] rfl ?_
    exact hE54 _ h
  · have h := kif_f h q
    refine r_aload_n hc 0 dX7_image_31 rfl ?_
    refine gf_X7_23 hc lf_X7_44 dX7_image_32 ?_
    refine r_bipush (v := 57) hc dX7_image_35 rfl ?_
    refine r_iload_n hc 1 dX7_image_37 rfl ?_
    refine r_imul hc dX7_image_38 ?_
    refine r_iload_n hc 2 dX7_image_39 rfl ?_
    refine r_iadd hc dX7_image_40 ?_
    refine r_aload_n hc 0 dX7_image_41 rfl ?_
    refine gf_X7_5 hc lf_X7_19 dX7_image_42 ?_
    refine r_iload_n hc 2 dX7_image_45 rfl ?_
    obtain ⟨hi_3, h⟩ := h
    refine r_iald hc kia_59 hi_3 dX7_image_46 ?_
    obtain ⟨hi_4, h⟩ := h
    refine r_iast hc kia_67 hi_4 dX7_image_47 ?_
    refine r_nmS (fun σ_5 eσ_5 => ?_)
    have h := h σ_5 eσ_5
    obtain ⟨x2_6, ex2_6⟩ : ∃ v : Int32, v = x2 + 1 := ⟨_, rfl⟩
    have h := h x2_6 ex2_6
    refine r_iinc (v := x2_6) hc 2 [(2, .int x2_6), (0, kz g 55), (1, .int x1)] dX7_image_48 rfl (by rw [ex2_6]; rfl) (by decide) rfl ?_
    refine r_goto hc 25 dX7_image_51 (by decide) ?_
    refine r_sub [1, 2, 0] rfl ?_
    exact hK _ _ h
theorem sl_X7_image_25 {X : kX} {g : kG} {N : Nat} {Q : Int32 → kS → Prop} (hc : kOk X g RX7 cX7_image 3 (some .int) 1) (hZ : kRi X g cX7_image Q) {x1 : Int32} {E54 : kS → Prop} (hE54 : ∀ (τ : kS), E54 τ → kP X g 3 54 [(0, kz g 55), (1, .int x1)] [] τ) : ∀ (n : Nat) (x2 : Int32) (σ : kS), l_X7_image_25 N Q x1 E54 n x2 σ → kP X g 3 25 [(0, kz g 55), (1, .int x1), (2, .int x2)] [] σ := by
  intro n
  induction n with
  | zero => intro x2 σ h; exact h.elim
  | succ n ih => intro x2 σ h; exact sb_X7_image_25 hc hZ hE54 ih h
def w_X7_image (N : Nat) (σ : kS) (x1 : Int32) (Q : Int32 → kS → Prop) : Prop :=
  w_X7_in N σ (x1.toInt64) 0 1 (fun (r_2 : Int32) (σ_1 : kS) => if r_2 = 0 then (Q (-1000001) σ_1) else (if (σ_1 55 4) = 0 then (Q (-1000002) σ_1) else (l_X7_image_25 N Q x1 (fun (σ_7 : kS) => vp_in x1 2 ∧ (∀ σ_9 : kS, σ_9 = st2 σ_7 66 x1.toNatClampNeg 1 → (Q 1 σ_9))) N 0 σ_1)))
set_option maxHeartbeats 4000000 in
set_option maxRecDepth 100000 in
theorem s_X7_image {X : kX} {g : kG} {N : Nat} {Q : Int32 → kS → Prop} (hc : kOk X g RX7 cX7_image 3 (some .int) 1) (hZ : kRi X g cX7_image Q) {σ : kS} {x1 : Int32} (h : w_X7_image N σ x1 Q) : kP X g 3 0 [(0, kz g 55), (1, .int x1)] [] σ := by
  unfold w_X7_image at h
  refine r_iload_n hc 1 dX7_image_0 rfl ?_
  refine r_i2l hc dX7_image_1 ?_
  refine r_lconst (v := 0) hc dX7_image_2 rfl ?_
  refine r_lconst (v := 1) hc dX7_image_3 rfl ?_
  refine r_callSi (d := 0) hc (m_X7_in h) cw_X7_in wt_X7_in lm_X7_57 (by decide) (by decide) rfl rfl (Nat.le_of_ble_eq_true rfl) dX7_image_4 (fun r_2 σ_1 h => ?_)
  refine r_if_ne hc 13 dX7_image_7 (by decide) (fun q => ?_) (fun q => ?_)
  · have h := kif_t h q
    refine r_ldc hc lk_X7_67 dX7_image_10 ?_
    exact r_iret (ls0 := []) hZ dX7_image_12 h
  · have h := kif_f h q
    refine r_aload_n hc 0 dX7_image_13 rfl ?_
    refine gf_X7_4 hc lf_X7_138 dX7_image_14 ?_
    refine r_if_ne hc 23 dX7_image_17 (by decide) (fun q => ?_) (fun q => ?_)
    · have h := kif_t h q
      refine r_ldc hc lk_X7_145 dX7_image_20 ?_
      exact r_iret (ls0 := []) hZ dX7_image_22 h
    · have h := kif_f h q
      refine r_iconst (v := 0) hc dX7_image_23 rfl ?_
      refine r_istore_n hc [(2, .int 0), (0, kz g 55), (1, .int x1)] dX7_image_24 (by decide) rfl ?_
      refine r_sub [1, 2, 0] rfl ?_
      refine sl_X7_image_25 hc hZ (fun σ_7 h => ?_) _ _ _ h
      refine r_aload_n hc 0 dX7_image_54 rfl ?_
      refine gf_X7_22 hc lf_X7_40 dX7_image_55 ?_
      refine r_iload_n hc 1 dX7_image_58 rfl ?_
      refine r_iconst (v := 1) hc dX7_image_59 rfl ?_
      obtain ⟨hi_8, h⟩ := h
      refine r_zast hc hi_8 rfl dX7_image_60 ?_
      refine r_nmS (fun σ_9 eσ_9 => ?_)
      have h := h σ_9 eσ_9
      refine r_iconst (v := 1) hc dX7_image_61 rfl ?_
      exact r_iret (ls0 := []) hZ dX7_image_62 h
theorem m_X7_image {l : Launch} {g : kG} {N : Nat} {σ : kS} {x1 : Int32} {Q : Int32 → kS → Prop} (h : w_X7_image N σ x1 Q) : kMi l g yX7_image cX7_image 3 (some .int) 1 [kz g 55, .int x1] σ Q :=
  k_met_i (by decide +kernel) rfl (Nat.le_of_ble_eq_true rfl) (fun X hl hc hZ => s_X7_image hc hZ h)
def b_X7_restore_27 (N : Nat) (Q : Int32 → kS → Prop) (x1 : Int32) (K : Int32 → kS → Prop) (x2 : Int32) (σ : kS) : Prop :=
  if 57 ≤ x2 then (∀ σ_4 : kS, σ_4 = st2 σ 55 17 0 → (Q 1 σ_4)) else (vp_in ((57 * x1) + x2) 114 ∧ (vp_in x2 57 ∧ (∀ σ_7 : kS, σ_7 = st2 σ 59 (x2.toNatClampNeg) (σ 67 ((57 * x1) + x2).toNatClampNeg) → (∀ x2_8 : Int32, x2_8 = x2 + 1 → (K x2_8 σ_7)))))
def l_X7_restore_27 (N : Nat) (Q : Int32 → kS → Prop) (x1 : Int32) : Nat → Int32 → kS → Prop
  | 0 => fun _ _ => False
  | n + 1 => b_X7_restore_27 N Q x1 (l_X7_restore_27 N Q x1 n)
set_option maxHeartbeats 4000000 in
set_option maxRecDepth 100000 in
theorem sb_X7_restore_27 {X : kX} {g : kG} {N : Nat} {Q : Int32 → kS → Prop} (hc : kOk X g RX7 cX7_restore 3 (some .int) 1) (hZ : kRi X g cX7_restore Q) {x1 : Int32} {K : Int32 → kS → Prop} (hK : ∀ (x2 : Int32) (τ : kS), K x2 τ → kP X g 3 27 [(0, kz g 55), (1, .int x1), (2, .int x2)] [] τ) {x2 : Int32} {σ : kS} (h : b_X7_restore_27 N Q x1 K x2 σ) : kP X g 3 27 [(0, kz g 55), (1, .int x1), (2, .int x2)] [] σ := by
  unfold b_X7_restore_27 at h
  refine r_iload_n hc 2 dX7_restore_27 rfl ?_
  refine r_bipush (v := 57) hc dX7_restore_28 rfl ?_
  refine r_ic_ge hc 56 dX7_restore_30 (by decide) (fun q => ?_) (fun q => ?_)
  · have h := kif_t h q
    refine r_aload_n hc 0 dX7_restore_56 rfl ?_
    refine r_iconst (v := 0) hc dX7_restore_57 rfl ?_
    refine pf_X7_17 hc lf_X7_142 dX7_restore_58 ?_
    refine r_nmS (fun σ_4 eσ_4 => ?_)
    have h := h σ_4 eσ_4
    refine r_iconst (v := 1) hc dX7_restore_61 rfl ?_
    exact r_iret (ls0 := []) hZ dX7_restore_62 h
  · have h := kif_f h q
    refine r_aload_n hc 0 dX7_restore_33 rfl ?_
    refine gf_X7_5 hc lf_X7_19 dX7_restore_34 ?_
    refine r_iload_n hc 2 dX7_restore_37 rfl ?_
    refine r_aload_n hc 0 dX7_restore_38 rfl ?_
    refine gf_X7_23 hc lf_X7_44 dX7_restore_39 ?_
    refine r_bipush (v := 57) hc dX7_restore_42 rfl ?_
    refine r_iload_n hc 1 dX7_restore_44 rfl ?_
    refine r_imul hc dX7_restore_45 ?_
    refine r_iload_n hc 2 dX7_restore_46 rfl ?_
    refine r_iadd hc dX7_restore_47 ?_
    obtain ⟨hi_5, h⟩ := h
    refine r_iald hc kia_67 hi_5 dX7_restore_48 ?_
    obtain ⟨hi_6, h⟩ := h
    refine r_iast hc kia_59 hi_6 dX7_restore_49 ?_
    refine r_nmS (fun σ_7 eσ_7 => ?_)
    have h := h σ_7 eσ_7
    obtain ⟨x2_8, ex2_8⟩ : ∃ v : Int32, v = x2 + 1 := ⟨_, rfl⟩
    have h := h x2_8 ex2_8
    refine r_iinc (v := x2_8) hc 2 [(2, .int x2_8), (0, kz g 55), (1, .int x1)] dX7_restore_50 rfl (by rw [ex2_8]; rfl) (by decide) rfl ?_
    refine r_goto hc 27 dX7_restore_53 (by decide) ?_
    refine r_sub [1, 2, 0] rfl ?_
    exact hK _ _ h
theorem sl_X7_restore_27 {X : kX} {g : kG} {N : Nat} {Q : Int32 → kS → Prop} (hc : kOk X g RX7 cX7_restore 3 (some .int) 1) (hZ : kRi X g cX7_restore Q) {x1 : Int32} : ∀ (n : Nat) (x2 : Int32) (σ : kS), l_X7_restore_27 N Q x1 n x2 σ → kP X g 3 27 [(0, kz g 55), (1, .int x1), (2, .int x2)] [] σ := by
  intro n
  induction n with
  | zero => intro x2 σ h; exact h.elim
  | succ n ih => intro x2 σ h; exact sb_X7_restore_27 hc hZ ih h
def w_X7_restore (N : Nat) (σ : kS) (x1 : Int32) (Q : Int32 → kS → Prop) : Prop :=
  w_X7_in N σ (x1.toInt64) 0 1 (fun (r_2 : Int32) (σ_1 : kS) => if r_2 = 0 then (Q (-1000001) σ_1) else (vp_in x1 2 ∧ (if (σ_1 66 x1.toNatClampNeg) = 0 then (Q (-1000002) σ_1) else (l_X7_restore_27 N Q x1  N 0 σ_1))))
set_option maxHeartbeats 4000000 in
set_option maxRecDepth 100000 in
theorem s_X7_restore {X : kX} {g : kG} {N : Nat} {Q : Int32 → kS → Prop} (hc : kOk X g RX7 cX7_restore 3 (some .int) 1) (hZ : kRi X g cX7_restore Q) {σ : kS} {x1 : Int32} (h : w_X7_restore N σ x1 Q) : kP X g 3 0 [(0, kz g 55), (1, .int x1)] [] σ := by
  unfold w_X7_restore at h
  refine r_iload_n hc 1 dX7_restore_0 rfl ?_
  refine r_i2l hc dX7_restore_1 ?_
  refine r_lconst (v := 0) hc dX7_restore_2 rfl ?_
  refine r_lconst (v := 1) hc dX7_restore_3 rfl ?_
  refine r_callSi (d := 0) hc (m_X7_in h) cw_X7_in wt_X7_in lm_X7_57 (by decide) (by decide) rfl rfl (Nat.le_of_ble_eq_true rfl) dX7_restore_4 (fun r_2 σ_1 h => ?_)
  refine r_if_ne hc 13 dX7_restore_7 (by decide) (fun q => ?_) (fun q => ?_)
  · have h := kif_t h q
    refine r_ldc hc lk_X7_67 dX7_restore_10 ?_
    exact r_iret (ls0 := []) hZ dX7_restore_12 h
  · have h := kif_f h q
    refine r_aload_n hc 0 dX7_restore_13 rfl ?_
    refine gf_X7_22 hc lf_X7_40 dX7_restore_14 ?_
    refine r_iload_n hc 1 dX7_restore_17 rfl ?_
    obtain ⟨hi_3, h⟩ := h
    refine r_zald hc hi_3 dX7_restore_18 ?_
    refine r_if_ne hc 25 dX7_restore_19 (by decide) (fun q => ?_) (fun q => ?_)
    · have h := kif_t h q
      refine r_ldc hc lk_X7_145 dX7_restore_22 ?_
      exact r_iret (ls0 := []) hZ dX7_restore_24 h
    · have h := kif_f h q
      refine r_iconst (v := 0) hc dX7_restore_25 rfl ?_
      refine r_istore_n hc [(2, .int 0), (0, kz g 55), (1, .int x1)] dX7_restore_26 (by decide) rfl ?_
      refine r_sub [1, 2, 0] rfl ?_
      refine sl_X7_restore_27 hc hZ _ _ _ h
theorem m_X7_restore {l : Launch} {g : kG} {N : Nat} {σ : kS} {x1 : Int32} {Q : Int32 → kS → Prop} (h : w_X7_restore N σ x1 Q) : kMi l g yX7_restore cX7_restore 3 (some .int) 1 [kz g 55, .int x1] σ Q :=
  k_met_i (by decide +kernel) rfl (Nat.le_of_ble_eq_true rfl) (fun X hl hc hZ => s_X7_restore hc hZ h)
def w_X7_kind (N : Nat) (σ : kS) (x1 : Int32) (Q : Int32 → kS → Prop) : Prop :=
  w_X7_isPupil N σ x1 (fun (r_2 : Int32) (σ_1 : kS) => if r_2 = 0 then (Q (-1000001) σ_1) else (vp_in (42 + x1) 57 ∧ (Q (σ_1 59 (42 + x1).toNatClampNeg) σ_1)))
set_option maxHeartbeats 4000000 in
set_option maxRecDepth 100000 in
theorem s_X7_kind {X : kX} {g : kG} {N : Nat} {Q : Int32 → kS → Prop} (hc : kOk X g RX7 cX7_kind 2 (some .int) 2) (hZ : kRi X g cX7_kind Q) {σ : kS} {x1 : Int32} (h : w_X7_kind N σ x1 Q) : kP X g 2 0 [(0, kz g 55), (1, .int x1)] [] σ := by
  unfold w_X7_kind at h
  refine r_aload_n hc 0 dX7_kind_0 rfl ?_
  refine r_iload_n hc 1 dX7_kind_1 rfl ?_
  refine r_callVi (d := 1) hc (m_X7_isPupil h) cw_X7_isPupil wi_X7_isPupil ws_X7_isPupil lm_X7_159 (by decide) (by decide) rv_X7 rfl rfl (Nat.le_of_ble_eq_true rfl) dX7_kind_2 (fun r_2 σ_1 h => ?_)
  refine r_if_eq hc 20 dX7_kind_5 (by decide) (fun q => ?_) (fun q => ?_)
  · have h := kif_t h q
    refine r_ldc hc lk_X7_67 dX7_kind_20 ?_
    exact r_iret (ls0 := []) hZ dX7_kind_22 h
  · have h := kif_f h q
    refine r_aload_n hc 0 dX7_kind_8 rfl ?_
    refine gf_X7_5 hc lf_X7_19 dX7_kind_9 ?_
    refine r_bipush (v := 42) hc dX7_kind_12 rfl ?_
    refine r_iload_n hc 1 dX7_kind_14 rfl ?_
    refine r_iadd hc dX7_kind_15 ?_
    obtain ⟨hi_3, h⟩ := h
    refine r_iald hc kia_59 hi_3 dX7_kind_16 ?_
    refine r_goto hc 22 dX7_kind_17 (by decide) ?_
    exact r_iret (ls0 := []) hZ dX7_kind_22 h
theorem m_X7_kind {l : Launch} {g : kG} {N : Nat} {σ : kS} {x1 : Int32} {Q : Int32 → kS → Prop} (h : w_X7_kind N σ x1 Q) : kMi l g yX7_kind cX7_kind 2 (some .int) 2 [kz g 55, .int x1] σ Q :=
  k_met_i (by decide +kernel) rfl (Nat.le_of_ble_eq_true rfl) (fun X hl hc hZ => s_X7_kind hc hZ h)
def j_X7_isKind_19 (N : Nat) (Q : Int32 → kS → Prop) (x0 : Int32) (x1 : Int32) (σ : kS) : Prop :=
  if x1 = 4 then (if x0 = 5 then (Q 1 σ) else (Q 0 σ)) else (Q 0 σ)
set_option maxHeartbeats 4000000 in
set_option maxRecDepth 100000 in
theorem sj_X7_isKind_19 {X : kX} {g : kG} {N : Nat} {Q : Int32 → kS → Prop} (hc : kOk X g RX7 cX7_isKind 2 (some .boolean) 0) (hZ : kRz X g cX7_isKind Q) {x0 : Int32} {x1 : Int32} {σ : kS} (h : j_X7_isKind_19 N Q x0 x1 σ) : kP X g 2 19 [(0, .int x0), (1, .int x1)] [] σ := by
  unfold j_X7_isKind_19 at h
  refine r_iload_n hc 1 dX7_isKind_19 rfl ?_
  refine r_iconst (v := 4) hc dX7_isKind_20 rfl ?_
  refine r_ic_ne hc 33 dX7_isKind_21 (by decide) (fun q => ?_) (fun q => ?_)
  · have h := kif_t h q
    refine r_iload_n hc 0 dX7_isKind_24 rfl ?_
    refine r_iconst (v := 5) hc dX7_isKind_25 rfl ?_
    refine r_ic_ne hc 33 dX7_isKind_26 (by decide) (fun q => ?_) (fun q => ?_)
    · have h := kif_t h q
      refine r_iconst (v := 1) hc dX7_isKind_29 rfl ?_
      refine r_goto hc 34 dX7_isKind_30 (by decide) ?_
      exact r_zret (ls0 := []) hZ dX7_isKind_34 (Or.inr rfl) h
    · have h := kif_f h q
      refine r_iconst (v := 0) hc dX7_isKind_33 rfl ?_
      exact r_zret (ls0 := []) hZ dX7_isKind_34 (Or.inl rfl) h
  · have h := kif_f h q
    refine r_iconst (v := 0) hc dX7_isKind_33 rfl ?_
    exact r_zret (ls0 := []) hZ dX7_isKind_34 (Or.inl rfl) h
def w_X7_isKind (N : Nat) (σ : kS) (x0 : Int32) (x1 : Int32) (Q : Int32 → kS → Prop) : Prop :=
  if x1 = 0 then (Q 1 σ) else (if x0 = x1 then (Q 1 σ) else (if x1 = 1 then (if x0 < 4 then (Q 1 σ) else (j_X7_isKind_19 N Q x0 x1 σ)) else (j_X7_isKind_19 N Q x0 x1 σ)))
set_option maxHeartbeats 4000000 in
set_option maxRecDepth 100000 in
theorem s_X7_isKind {X : kX} {g : kG} {N : Nat} {Q : Int32 → kS → Prop} (hc : kOk X g RX7 cX7_isKind 2 (some .boolean) 0) (hZ : kRz X g cX7_isKind Q) {σ : kS} {x0 : Int32} {x1 : Int32} (h : w_X7_isKind N σ x0 x1 Q) : kP X g 2 0 [(0, .int x0), (1, .int x1)] [] σ := by
  unfold w_X7_isKind at h
  refine r_iload_n hc 1 dX7_isKind_0 rfl ?_
  refine r_if_eq hc 29 dX7_isKind_1 (by decide) (fun q => ?_) (fun q => ?_)
  · have h := kif_t h q
    refine r_iconst (v := 1) hc dX7_isKind_29 rfl ?_
    refine r_goto hc 34 dX7_isKind_30 (by decide) ?_
    exact r_zret (ls0 := []) hZ dX7_isKind_34 (Or.inr rfl) h
  · have h := kif_f h q
    refine r_iload_n hc 0 dX7_isKind_4 rfl ?_
    refine r_iload_n hc 1 dX7_isKind_5 rfl ?_
    refine r_ic_eq hc 29 dX7_isKind_6 (by decide) (fun q => ?_) (fun q => ?_)
    · have h := kif_t h q
      refine r_iconst (v := 1) hc dX7_isKind_29 rfl ?_
      refine r_goto hc 34 dX7_isKind_30 (by decide) ?_
      exact r_zret (ls0 := []) hZ dX7_isKind_34 (Or.inr rfl) h
    · have h := kif_f h q
      refine r_iload_n hc 1 dX7_isKind_9 rfl ?_
      refine r_iconst (v := 1) hc dX7_isKind_10 rfl ?_
      refine r_ic_ne hc 19 dX7_isKind_11 (by decide) (fun q => ?_) (fun q => ?_)
      · have h := kif_t h q
        refine r_iload_n hc 0 dX7_isKind_14 rfl ?_
        refine r_iconst (v := 4) hc dX7_isKind_15 rfl ?_
        refine r_ic_lt hc 29 dX7_isKind_16 (by decide) (fun q => ?_) (fun q => ?_)
        · have h := kif_t h q
          refine r_iconst (v := 1) hc dX7_isKind_29 rfl ?_
          refine r_goto hc 34 dX7_isKind_30 (by decide) ?_
          exact r_zret (ls0 := []) hZ dX7_isKind_34 (Or.inr rfl) h
        · have h := kif_f h q
          exact sj_X7_isKind_19 hc hZ h
      · have h := kif_f h q
        exact sj_X7_isKind_19 hc hZ h
theorem m_X7_isKind {l : Launch} {g : kG} {N : Nat} {σ : kS} {x0 : Int32} {x1 : Int32} {Q : Int32 → kS → Prop} (h : w_X7_isKind N σ x0 x1 Q) : kMi l g yX7_isKind cX7_isKind 2 (some .boolean) 0 [.int x0, .int x1] σ Q :=
  k_met_z (by decide +kernel) rfl (Nat.le_of_ble_eq_true rfl) (fun X hl hc hZ => s_X7_isKind hc hZ h)
def w_X7_as (N : Nat) (σ : kS) (x1 : Int32) (x2 : Int32) (Q : Int32 → kS → Prop) : Prop :=
  w_X7_isPupil N σ x1 (fun (r_2 : Int32) (σ_1 : kS) => if r_2 = 0 then (Q (-1000001) σ_1) else (w_X7_in N σ_1 (x2.toInt64) 0 5 (fun (r_4 : Int32) (σ_3 : kS) => if r_4 = 0 then (Q (-1000001) σ_3) else (vp_in (42 + x1) 57 ∧ (w_X7_isKind N σ_3 (σ_3 59 (42 + x1).toNatClampNeg) x2 (fun (r_7 : Int32) (σ_6 : kS) => if r_7 = 0 then (w_X7_find N σ_6 3 (fun (r_9 : Int32) (σ_8 : kS) => Q r_9 σ_8)) else (w_X7_well N σ_6 x1 (fun (r_11 : Int32) (σ_10 : kS) => Q r_11 σ_10))))))))
set_option maxHeartbeats 4000000 in
set_option maxRecDepth 100000 in
theorem s_X7_as {X : kX} {g : kG} {N : Nat} {Q : Int32 → kS → Prop} (hc : kOk X g RX7 cX7_as 3 (some .int) 2) (hZ : kRi X g cX7_as Q) {σ : kS} {x1 : Int32} {x2 : Int32} (h : w_X7_as N σ x1 x2 Q) : kP X g 3 0 [(0, kz g 55), (1, .int x1), (2, .int x2)] [] σ := by
  unfold w_X7_as at h
  refine r_aload_n hc 0 dX7_as_0 rfl ?_
  refine r_iload_n hc 1 dX7_as_1 rfl ?_
  refine r_callVi (d := 1) hc (m_X7_isPupil h) cw_X7_isPupil wi_X7_isPupil ws_X7_isPupil lm_X7_159 (by decide) (by decide) rv_X7 rfl rfl (Nat.le_of_ble_eq_true rfl) dX7_as_2 (fun r_2 σ_1 h => ?_)
  refine r_if_eq hc 20 dX7_as_5 (by decide) (fun q => ?_) (fun q => ?_)
  · have h := kif_t h q
    refine r_ldc hc lk_X7_67 dX7_as_20 ?_
    exact r_iret (ls0 := []) hZ dX7_as_22 h
  · have h := kif_f h q
    refine r_iload_n hc 2 dX7_as_8 rfl ?_
    refine r_i2l hc dX7_as_9 ?_
    refine r_lconst (v := 0) hc dX7_as_10 rfl ?_
    refine r_ldc2_w hc lK_X7_226 dX7_as_11 ?_
    refine r_callSi (d := 0) hc (m_X7_in h) cw_X7_in wt_X7_in lm_X7_57 (by decide) (by decide) rfl rfl (Nat.le_of_ble_eq_true rfl) dX7_as_14 (fun r_4 σ_3 h => ?_)
    refine r_if_ne hc 23 dX7_as_17 (by decide) (fun q => ?_) (fun q => ?_)
    · have h := kif_t h q
      refine r_ldc hc lk_X7_67 dX7_as_20 ?_
      exact r_iret (ls0 := []) hZ dX7_as_22 h
    · have h := kif_f h q
      refine r_aload_n hc 0 dX7_as_23 rfl ?_
      refine gf_X7_5 hc lf_X7_19 dX7_as_24 ?_
      refine r_bipush (v := 42) hc dX7_as_27 rfl ?_
      refine r_iload_n hc 1 dX7_as_29 rfl ?_
      refine r_iadd hc dX7_as_30 ?_
      obtain ⟨hi_5, h⟩ := h
      refine r_iald hc kia_59 hi_5 dX7_as_31 ?_
      refine r_iload_n hc 2 dX7_as_32 rfl ?_
      refine r_callSi (d := 0) hc (m_X7_isKind h) cw_X7_isKind wt_X7_isKind lm_X7_228 (by decide) (by decide) rfl rfl (Nat.le_of_ble_eq_true rfl) dX7_as_33 (fun r_7 σ_6 h => ?_)
      refine r_if_eq hc 47 dX7_as_36 (by decide) (fun q => ?_) (fun q => ?_)
      · have h := kif_t h q
        refine r_aload_n hc 0 dX7_as_47 rfl ?_
        refine r_iconst (v := 3) hc dX7_as_48 rfl ?_
        refine r_callVi (d := 0) hc (m_X7_find h) cw_X7_find wi_X7_find ws_X7_find lm_X7_68 (by decide) (by decide) rv_X7 rfl rfl (Nat.le_of_ble_eq_true rfl) dX7_as_49 (fun r_9 σ_8 h => ?_)
        exact r_iret (ls0 := []) hZ dX7_as_52 h
      · have h := kif_f h q
        refine r_aload_n hc 0 dX7_as_39 rfl ?_
        refine r_iload_n hc 1 dX7_as_40 rfl ?_
        refine r_callVi (d := 0) hc (m_X7_well h) cw_X7_well wi_X7_well ws_X7_well lm_X7_72 (by decide) (by decide) rv_X7 rfl rfl (Nat.le_of_ble_eq_true rfl) dX7_as_41 (fun r_11 σ_10 h => ?_)
        refine r_goto hc 52 dX7_as_44 (by decide) ?_
        exact r_iret (ls0 := []) hZ dX7_as_52 h
theorem m_X7_as {l : Launch} {g : kG} {N : Nat} {σ : kS} {x1 : Int32} {x2 : Int32} {Q : Int32 → kS → Prop} (h : w_X7_as N σ x1 x2 Q) : kMi l g yX7_as cX7_as 3 (some .int) 2 [kz g 55, .int x1, .int x2] σ Q :=
  k_met_i (by decide +kernel) rfl (Nat.le_of_ble_eq_true rfl) (fun X hl hc hZ => s_X7_as hc hZ h)
def w_X7_begin (N : Nat) (σ : kS) (x1 : Int32) (Q : kS → Prop) : Prop :=
  if 16 ≤ (σ 55 25) then (Q σ) else (vp_in (σ 55 25) 16 ∧ (∀ σ_2 : kS, σ_2 = st2 σ 68 ((σ 55 25).toNatClampNeg) x1 → (∀ σ_3 : kS, σ_3 = st2 σ_2 55 25 ((σ_2 55 25) + 1) → (Q σ_3))))
set_option maxHeartbeats 4000000 in
set_option maxRecDepth 100000 in
theorem s_X7_begin {X : kX} {g : kG} {N : Nat} {Q : kS → Prop} (hc : kOk X g RX7 cX7_begin 2 none 0) (hZ : kRw X g cX7_begin Q) {σ : kS} {x1 : Int32} (h : w_X7_begin N σ x1 Q) : kP X g 2 0 [(0, kz g 55), (1, .int x1)] [] σ := by
  unfold w_X7_begin at h
  refine r_aload_n hc 0 dX7_begin_0 rfl ?_
  refine gf_X7_25 hc lf_X7_231 dX7_begin_1 ?_
  refine r_bipush (v := 16) hc dX7_begin_4 rfl ?_
  refine r_ic_ge hc 29 dX7_begin_6 (by decide) (fun q => ?_) (fun q => ?_)
  · have h := kif_t h q
    exact r_vret (ls0 := []) hZ dX7_begin_29 h
  · have h := kif_f h q
    refine r_aload_n hc 0 dX7_begin_9 rfl ?_
    refine gf_X7_24 hc lf_X7_47 dX7_begin_10 ?_
    refine r_aload_n hc 0 dX7_begin_13 rfl ?_
    refine gf_X7_25 hc lf_X7_231 dX7_begin_14 ?_
    refine r_iload_n hc 1 dX7_begin_17 rfl ?_
    obtain ⟨hi_1, h⟩ := h
    refine r_iast hc kia_68 hi_1 dX7_begin_18 ?_
    refine r_nmS (fun σ_2 eσ_2 => ?_)
    have h := h σ_2 eσ_2
    refine r_aload_n hc 0 dX7_begin_19 rfl ?_
    refine r_dup hc dX7_begin_20 rfl ?_
    refine gf_X7_25 hc lf_X7_231 dX7_begin_21 ?_
    refine r_iconst (v := 1) hc dX7_begin_24 rfl ?_
    refine r_iadd hc dX7_begin_25 ?_
    refine pf_X7_25 hc lf_X7_231 dX7_begin_26 ?_
    refine r_nmS (fun σ_3 eσ_3 => ?_)
    have h := h σ_3 eσ_3
    exact r_vret (ls0 := []) hZ dX7_begin_29 h
theorem m_X7_begin {l : Launch} {g : kG} {N : Nat} {σ : kS} {x1 : Int32} {Q : kS → Prop} (h : w_X7_begin N σ x1 Q) : kMv l g yX7_begin cX7_begin 2 none 0 [kz g 55, .int x1] σ Q :=
  k_met_v (by decide +kernel) rfl (Nat.le_of_ble_eq_true rfl) (fun X hl hc hZ => s_X7_begin hc hZ h)
def w_X7_lent (N : Nat) (σ : kS) (x1 : Int32) (x2 : Int32) (Q : Int32 → kS → Prop) : Prop :=
  w_X7_begin N σ x2 (fun (σ_1 : kS) => if x2 = 10 then (vp_in (52 + x1) 57 ∧ (Q (σ_1 59 (52 + x1).toNatClampNeg) σ_1)) else (Q x1 σ_1))
set_option maxHeartbeats 4000000 in
set_option maxRecDepth 100000 in
theorem s_X7_lent {X : kX} {g : kG} {N : Nat} {Q : Int32 → kS → Prop} (hc : kOk X g RX7 cX7_lent 3 (some .int) 1) (hZ : kRi X g cX7_lent Q) {σ : kS} {x1 : Int32} {x2 : Int32} (h : w_X7_lent N σ x1 x2 Q) : kP X g 3 0 [(0, kz g 55), (1, .int x1), (2, .int x2)] [] σ := by
  unfold w_X7_lent at h
  refine r_aload_n hc 0 dX7_lent_0 rfl ?_
  refine r_iload_n hc 2 dX7_lent_1 rfl ?_
  refine r_callVv (d := 0) hc (m_X7_begin h) cw_X7_begin wi_X7_begin ws_X7_begin lm_X7_234 (by decide) (by decide) rv_X7 rfl rfl (Nat.le_of_ble_eq_true rfl) dX7_lent_2 (fun σ_1 h => ?_)
  refine r_iload_n hc 2 dX7_lent_5 rfl ?_
  refine r_bipush (v := 10) hc dX7_lent_6 rfl ?_
  refine r_ic_ne hc 23 dX7_lent_8 (by decide) (fun q => ?_) (fun q => ?_)
  · have h := kif_t h q
    refine r_aload_n hc 0 dX7_lent_11 rfl ?_
    refine gf_X7_5 hc lf_X7_19 dX7_lent_12 ?_
    refine r_bipush (v := 52) hc dX7_lent_15 rfl ?_
    refine r_iload_n hc 1 dX7_lent_17 rfl ?_
    refine r_iadd hc dX7_lent_18 ?_
    obtain ⟨hi_3, h⟩ := h
    refine r_iald hc kia_59 hi_3 dX7_lent_19 ?_
    refine r_goto hc 24 dX7_lent_20 (by decide) ?_
    exact r_iret (ls0 := []) hZ dX7_lent_24 h
  · have h := kif_f h q
    refine r_iload_n hc 1 dX7_lent_23 rfl ?_
    exact r_iret (ls0 := []) hZ dX7_lent_24 h
theorem m_X7_lent {l : Launch} {g : kG} {N : Nat} {σ : kS} {x1 : Int32} {x2 : Int32} {Q : Int32 → kS → Prop} (h : w_X7_lent N σ x1 x2 Q) : kMi l g yX7_lent cX7_lent 3 (some .int) 1 [kz g 55, .int x1, .int x2] σ Q :=
  k_met_i (by decide +kernel) rfl (Nat.le_of_ble_eq_true rfl) (fun X hl hc hZ => s_X7_lent hc hZ h)
def w_X7_playerMark (N : Nat) (σ : kS) (x1 : Int32) (Q : Int32 → kS → Prop) : Prop :=
  w_X7_begin N σ 21 (fun (σ_1 : kS) => w_X7_lent N σ_1 x1 20 (fun (r_4 : Int32) (σ_3 : kS) => vp_in (47 + x1) 57 ∧ (Q (r_4 + (σ_3 59 (47 + x1).toNatClampNeg)) σ_3)))
set_option maxHeartbeats 4000000 in
set_option maxRecDepth 100000 in
theorem s_X7_playerMark {X : kX} {g : kG} {N : Nat} {Q : Int32 → kS → Prop} (hc : kOk X g RX7 cX7_playerMark 2 (some .int) 2) (hZ : kRi X g cX7_playerMark Q) {σ : kS} {x1 : Int32} (h : w_X7_playerMark N σ x1 Q) : kP X g 2 0 [(0, kz g 55), (1, .int x1)] [] σ := by
  unfold w_X7_playerMark at h
  refine r_aload_n hc 0 dX7_playerMark_0 rfl ?_
  refine r_bipush (v := 21) hc dX7_playerMark_1 rfl ?_
  refine r_callVv (d := 0) hc (m_X7_begin h) cw_X7_begin wi_X7_begin ws_X7_begin lm_X7_234 (by decide) (by decide) rv_X7 rfl rfl (Nat.le_of_ble_eq_true rfl) dX7_playerMark_3 (fun σ_1 h => ?_)
  refine r_aload_n hc 0 dX7_playerMark_6 rfl ?_
  refine r_iload_n hc 1 dX7_playerMark_7 rfl ?_
  refine r_bipush (v := 20) hc dX7_playerMark_8 rfl ?_
  refine r_callVi (d := 1) hc (m_X7_lent h) cw_X7_lent wi_X7_lent ws_X7_lent lm_X7_238 (by decide) (by decide) rv_X7 rfl rfl (Nat.le_of_ble_eq_true rfl) dX7_playerMark_10 (fun r_4 σ_3 h => ?_)
  refine r_aload_n hc 0 dX7_playerMark_13 rfl ?_
  refine gf_X7_5 hc lf_X7_19 dX7_playerMark_14 ?_
  refine r_bipush (v := 47) hc dX7_playerMark_17 rfl ?_
  refine r_iload_n hc 1 dX7_playerMark_19 rfl ?_
  refine r_iadd hc dX7_playerMark_20 ?_
  obtain ⟨hi_5, h⟩ := h
  refine r_iald hc kia_59 hi_5 dX7_playerMark_21 ?_
  refine r_iadd hc dX7_playerMark_22 ?_
  exact r_iret (ls0 := []) hZ dX7_playerMark_23 h
theorem m_X7_playerMark {l : Launch} {g : kG} {N : Nat} {σ : kS} {x1 : Int32} {Q : Int32 → kS → Prop} (h : w_X7_playerMark N σ x1 Q) : kMi l g yX7_playerMark cX7_playerMark 2 (some .int) 2 [kz g 55, .int x1] σ Q :=
  k_met_i (by decide +kernel) rfl (Nat.le_of_ble_eq_true rfl) (fun X hl hc hZ => s_X7_playerMark hc hZ h)
def w_X7_carrierSize (N : Nat) (σ : kS) (x1 : Int32) (Q : Int32 → kS → Prop) : Prop :=
  w_X7_begin N σ 13 (fun (σ_1 : kS) => w_X7_lent N σ_1 x1 10 (fun (r_4 : Int32) (σ_3 : kS) => Q (r_4 - 100) σ_3))
set_option maxHeartbeats 4000000 in
set_option maxRecDepth 100000 in
theorem s_X7_carrierSize {X : kX} {g : kG} {N : Nat} {Q : Int32 → kS → Prop} (hc : kOk X g RX7 cX7_carrierSize 2 (some .int) 2) (hZ : kRi X g cX7_carrierSize Q) {σ : kS} {x1 : Int32} (h : w_X7_carrierSize N σ x1 Q) : kP X g 2 0 [(0, kz g 55), (1, .int x1)] [] σ := by
  unfold w_X7_carrierSize at h
  refine r_aload_n hc 0 dX7_carrierSize_0 rfl ?_
  refine r_bipush (v := 13) hc dX7_carrierSize_1 rfl ?_
  refine r_callVv (d := 0) hc (m_X7_begin h) cw_X7_begin wi_X7_begin ws_X7_begin lm_X7_234 (by decide) (by decide) rv_X7 rfl rfl (Nat.le_of_ble_eq_true rfl) dX7_carrierSize_3 (fun σ_1 h => ?_)
  refine r_aload_n hc 0 dX7_carrierSize_6 rfl ?_
  refine r_iload_n hc 1 dX7_carrierSize_7 rfl ?_
  refine r_bipush (v := 10) hc dX7_carrierSize_8 rfl ?_
  refine r_callVi (d := 1) hc (m_X7_lent h) cw_X7_lent wi_X7_lent ws_X7_lent lm_X7_238 (by decide) (by decide) rv_X7 rfl rfl (Nat.le_of_ble_eq_true rfl) dX7_carrierSize_10 (fun r_4 σ_3 h => ?_)
  refine r_bipush (v := 100) hc dX7_carrierSize_13 rfl ?_
  refine r_isub hc dX7_carrierSize_15 ?_
  exact r_iret (ls0 := []) hZ dX7_carrierSize_16 h
theorem m_X7_carrierSize {l : Launch} {g : kG} {N : Nat} {σ : kS} {x1 : Int32} {Q : Int32 → kS → Prop} (h : w_X7_carrierSize N σ x1 Q) : kMi l g yX7_carrierSize cX7_carrierSize 2 (some .int) 2 [kz g 55, .int x1] σ Q :=
  k_met_i (by decide +kernel) rfl (Nat.le_of_ble_eq_true rfl) (fun X hl hc hZ => s_X7_carrierSize hc hZ h)
def w_X7_sizeOfCarrier (N : Nat) (σ : kS) (x1 : Int32) (Q : Int32 → kS → Prop) : Prop :=
  vp_in (42 + x1) 57 ∧ (if (σ 59 (42 + x1).toNatClampNeg) = 5 then (w_X7_begin N σ 14 (fun (σ_2 : kS) => w_X7_carrierSize N σ_2 x1 (fun (r_5 : Int32) (σ_4 : kS) => Q (2 * r_5) σ_4))) else (w_X7_carrierSize N σ x1 (fun (r_7 : Int32) (σ_6 : kS) => Q r_7 σ_6)))
set_option maxHeartbeats 4000000 in
set_option maxRecDepth 100000 in
theorem s_X7_sizeOfCarrier {X : kX} {g : kG} {N : Nat} {Q : Int32 → kS → Prop} (hc : kOk X g RX7 cX7_sizeOfCarrier 2 (some .int) 3) (hZ : kRi X g cX7_sizeOfCarrier Q) {σ : kS} {x1 : Int32} (h : w_X7_sizeOfCarrier N σ x1 Q) : kP X g 2 0 [(0, kz g 55), (1, .int x1)] [] σ := by
  unfold w_X7_sizeOfCarrier at h
  refine r_aload_n hc 0 dX7_sizeOfCarrier_0 rfl ?_
  refine gf_X7_5 hc lf_X7_19 dX7_sizeOfCarrier_1 ?_
  refine r_bipush (v := 42) hc dX7_sizeOfCarrier_4 rfl ?_
  refine r_iload_n hc 1 dX7_sizeOfCarrier_6 rfl ?_
  refine r_iadd hc dX7_sizeOfCarrier_7 ?_
  obtain ⟨hi_1, h⟩ := h
  refine r_iald hc kia_59 hi_1 dX7_sizeOfCarrier_8 ?_
  refine r_iconst (v := 5) hc dX7_sizeOfCarrier_9 rfl ?_
  refine r_ic_ne hc 27 dX7_sizeOfCarrier_10 (by decide) (fun q => ?_) (fun q => ?_)
  · have h := kif_t h q
    refine r_aload_n hc 0 dX7_sizeOfCarrier_13 rfl ?_
    refine r_bipush (v := 14) hc dX7_sizeOfCarrier_14 rfl ?_
    refine r_callVv (d := 0) hc (m_X7_begin h) cw_X7_begin wi_X7_begin ws_X7_begin lm_X7_234 (by decide) (by decide) rv_X7 rfl rfl (Nat.le_of_ble_eq_true rfl) dX7_sizeOfCarrier_16 (fun σ_2 h => ?_)
    refine r_iconst (v := 2) hc dX7_sizeOfCarrier_19 rfl ?_
    refine r_aload_n hc 0 dX7_sizeOfCarrier_20 rfl ?_
    refine r_iload_n hc 1 dX7_sizeOfCarrier_21 rfl ?_
    refine r_callVi (d := 2) hc (m_X7_carrierSize h) cw_X7_carrierSize wi_X7_carrierSize ws_X7_carrierSize lm_X7_241 (by decide) (by decide) rv_X7 rfl rfl (Nat.le_of_ble_eq_true rfl) dX7_sizeOfCarrier_22 (fun r_5 σ_4 h => ?_)
    refine r_imul hc dX7_sizeOfCarrier_25 ?_
    exact r_iret (ls0 := []) hZ dX7_sizeOfCarrier_26 h
  · have h := kif_f h q
    refine r_aload_n hc 0 dX7_sizeOfCarrier_27 rfl ?_
    refine r_iload_n hc 1 dX7_sizeOfCarrier_28 rfl ?_
    refine r_callVi (d := 2) hc (m_X7_carrierSize h) cw_X7_carrierSize wi_X7_carrierSize ws_X7_carrierSize lm_X7_241 (by decide) (by decide) rv_X7 rfl rfl (Nat.le_of_ble_eq_true rfl) dX7_sizeOfCarrier_29 (fun r_7 σ_6 h => ?_)
    exact r_iret (ls0 := []) hZ dX7_sizeOfCarrier_32 h
theorem m_X7_sizeOfCarrier {l : Launch} {g : kG} {N : Nat} {σ : kS} {x1 : Int32} {Q : Int32 → kS → Prop} (h : w_X7_sizeOfCarrier N σ x1 Q) : kMi l g yX7_sizeOfCarrier cX7_sizeOfCarrier 2 (some .int) 3 [kz g 55, .int x1] σ Q :=
  k_met_i (by decide +kernel) rfl (Nat.le_of_ble_eq_true rfl) (fun X hl hc hZ => s_X7_sizeOfCarrier hc hZ h)
def w_X7_markOf (N : Nat) (σ : kS) (x1 : Int32) (Q : Int32 → kS → Prop) : Prop :=
  vp_in (42 + x1) 57 ∧ (∀ x2_2 : Int32, x2_2 = σ 59 (42 + x1).toNatClampNeg → (if x2_2 = 2 then (w_X7_begin N σ 24 (fun (σ_3 : kS) => w_X7_playerMark N σ_3 x1 (fun (r_6 : Int32) (σ_5 : kS) => Q (2 * r_6) σ_5))) else (if x2_2 = 3 then (w_X7_begin N σ 22 (fun (σ_7 : kS) => w_X7_playerMark N σ_7 x1 (fun (r_10 : Int32) (σ_9 : kS) => Q (r_10 - 1000) σ_9))) else (if x2_2 = 1 then (w_X7_playerMark N σ x1 (fun (r_12 : Int32) (σ_11 : kS) => Q r_12 σ_11)) else (w_X7_begin N σ 23 (fun (σ_13 : kS) => w_X7_lent N σ_13 x1 20 (fun (r_16 : Int32) (σ_15 : kS) => w_X7_sizeOfCarrier N σ_15 x1 (fun (r_18 : Int32) (σ_17 : kS) => Q (r_16 - r_18) σ_17))))))))
set_option maxHeartbeats 4000000 in
set_option maxRecDepth 100000 in
theorem s_X7_markOf {X : kX} {g : kG} {N : Nat} {Q : Int32 → kS → Prop} (hc : kOk X g RX7 cX7_markOf 4 (some .int) 4) (hZ : kRi X g cX7_markOf Q) {σ : kS} {x1 : Int32} (h : w_X7_markOf N σ x1 Q) : kP X g 4 0 [(0, kz g 55), (1, .int x1)] [] σ := by
  unfold w_X7_markOf at h
  refine r_aload_n hc 0 dX7_markOf_0 rfl ?_
  refine gf_X7_5 hc lf_X7_19 dX7_markOf_1 ?_
  refine r_bipush (v := 42) hc dX7_markOf_4 rfl ?_
  refine r_iload_n hc 1 dX7_markOf_6 rfl ?_
  refine r_iadd hc dX7_markOf_7 ?_
  obtain ⟨hi_1, h⟩ := h
  refine r_iald hc kia_59 hi_1 dX7_markOf_8 ?_
  refine r_nmI (fun x2_2 ex2_2 => ?_)
  have h := h x2_2 ex2_2
  refine r_istore_n hc [(2, .int x2_2), (0, kz g 55), (1, .int x1)] dX7_markOf_9 (by decide) rfl ?_
  refine r_iload_n hc 0 dX7_markOf_10 rfl ?_
  refine r_iconst (v := 2) hc dX7_markOf_11 rfl ?_
  refine r_ic_ne hc 29 dX7_markOf_12 (by decide) (fun q => ?_) (fun q => ?_)
  · have h := kif_t h q
    refine r_aload_n hc 1 dX7_markOf_15 rfl ?_
    refine r_bipush (v := 24) hc dX7_markOf_16 rfl ?_
    refine r_callVv (d := 0) hc (m_X7_begin h) cw_X7_begin wi_X7_begin ws_X7_begin lm_X7_234 (by decide) (by decide) rv_X7 rfl rfl (Nat.le_of_ble_eq_true rfl) dX7_markOf_18 (fun σ_3 h => ?_)
    refine r_iconst (v := 2) hc dX7_markOf_21 rfl ?_
    refine r_aload_n hc 1 dX7_markOf_22 rfl ?_
    refine r_iload_n hc 2 dX7_markOf_23 rfl ?_
    refine r_callVi (d := 2) hc (m_X7_playerMark h) cw_X7_playerMark wi_X7_playerMark ws_X7_playerMark lm_X7_244 (by decide) (by decide) rv_X7 rfl rfl (Nat.le_of_ble_eq_true rfl) dX7_markOf_24 (fun r_6 σ_5 h => ?_)
    refine r_imul hc dX7_markOf_27 ?_
    exact r_iret (ls0 := []) hZ dX7_markOf_28 h
  · have h := kif_f h q
    refine r_iload_n hc 0 dX7_markOf_29 rfl ?_
    refine r_iconst (v := 3) hc dX7_markOf_30 rfl ?_
    refine r_ic_ne hc 50 dX7_markOf_31 (by decide) (fun q => ?_) (fun q => ?_)
    · have h := kif_t h q
      refine r_aload_n hc 1 dX7_markOf_34 rfl ?_
      refine r_bipush (v := 22) hc dX7_markOf_35 rfl ?_
      refine r_callVv (d := 0) hc (m_X7_begin h) cw_X7_begin wi_X7_begin ws_X7_begin lm_X7_234 (by decide) (by decide) rv_X7 rfl rfl (Nat.le_of_ble_eq_true rfl) dX7_markOf_37 (fun σ_7 h => ?_)
      refine r_aload_n hc 1 dX7_markOf_40 rfl ?_
      refine r_iload_n hc 2 dX7_markOf_41 rfl ?_
      refine r_callVi (d := 2) hc (m_X7_playerMark h) cw_X7_playerMark wi_X7_playerMark ws_X7_playerMark lm_X7_244 (by decide) (by decide) rv_X7 rfl rfl (Nat.le_of_ble_eq_true rfl) dX7_markOf_42 (fun r_10 σ_9 h => ?_)
      refine r_sipush (v := 1000) hc dX7_markOf_45 rfl ?_
      refine r_isub hc dX7_markOf_48 ?_
      exact r_iret (ls0 := []) hZ dX7_markOf_49 h
    · have h := kif_f h q
      refine r_iload_n hc 0 dX7_markOf_50 rfl ?_
      refine r_iconst (v := 1) hc dX7_markOf_51 rfl ?_
      refine r_ic_ne hc 61 dX7_markOf_52 (by decide) (fun q => ?_) (fun q => ?_)
      · have h := kif_t h q
        refine r_aload_n hc 1 dX7_markOf_55 rfl ?_
        refine r_iload_n hc 2 dX7_markOf_56 rfl ?_
        refine r_callVi (d := 2) hc (m_X7_playerMark h) cw_X7_playerMark wi_X7_playerMark ws_X7_playerMark lm_X7_244 (by decide) (by decide) rv_X7 rfl rfl (Nat.le_of_ble_eq_true rfl) dX7_markOf_57 (fun r_12 σ_11 h => ?_)
        exact r_iret (ls0 := []) hZ dX7_markOf_60 h
      · have h := kif_f h q
        refine r_aload_n hc 1 dX7_markOf_61 rfl ?_
        refine r_bipush (v := 23) hc dX7_markOf_62 rfl ?_
        refine r_callVv (d := 0) hc (m_X7_begin h) cw_X7_begin wi_X7_begin ws_X7_begin lm_X7_234 (by decide) (by decide) rv_X7 rfl rfl (Nat.le_of_ble_eq_true rfl) dX7_markOf_64 (fun σ_13 h => ?_)
        refine r_aload_n hc 1 dX7_markOf_67 rfl ?_
        refine r_iload_n hc 2 dX7_markOf_68 rfl ?_
        refine r_bipush (v := 20) hc dX7_markOf_69 rfl ?_
        refine r_callVi (d := 1) hc (m_X7_lent h) cw_X7_lent wi_X7_lent ws_X7_lent lm_X7_238 (by decide) (by decide) rv_X7 rfl rfl (Nat.le_of_ble_eq_true rfl) dX7_markOf_71 (fun r_16 σ_15 h => ?_)
        refine r_istore_n hc [(3, .int r_16), (2, .int x2_2), (0, kz g 55), (1, .int x1)] dX7_markOf_74 (by decide) rfl ?_
        refine r_iload_n hc 0 dX7_markOf_75 rfl ?_
        refine r_aload_n hc 2 dX7_markOf_76 rfl ?_
        refine r_iload_n hc 3 dX7_markOf_77 rfl ?_
        refine r_callVi (d := 3) hc (m_X7_sizeOfCarrier h) cw_X7_sizeOfCarrier wi_X7_sizeOfCarrier ws_X7_sizeOfCarrier lm_X7_247 (by decide) (by decide) rv_X7 rfl rfl (Nat.le_of_ble_eq_true rfl) dX7_markOf_78 (fun r_18 σ_17 h => ?_)
        refine r_isub hc dX7_markOf_81 ?_
        exact r_iret (ls0 := []) hZ dX7_markOf_82 h
theorem m_X7_markOf {l : Launch} {g : kG} {N : Nat} {σ : kS} {x1 : Int32} {Q : Int32 → kS → Prop} (h : w_X7_markOf N σ x1 Q) : kMi l g yX7_markOf cX7_markOf 4 (some .int) 4 [kz g 55, .int x1] σ Q :=
  k_met_i (by decide +kernel) rfl (Nat.le_of_ble_eq_true rfl) (fun X hl hc hZ => s_X7_markOf hc hZ h)
def w_X7_playerSize (N : Nat) (σ : kS) (x1 : Int32) (Q : Int32 → kS → Prop) : Prop :=
  w_X7_begin N σ 11 (fun (σ_1 : kS) => w_X7_lent N σ_1 x1 10 (fun (r_4 : Int32) (σ_3 : kS) => w_X7_markOf N σ_3 x1 (fun (r_6 : Int32) (σ_5 : kS) => Q (r_4 + r_6) σ_5)))
set_option maxHeartbeats 4000000 in
set_option maxRecDepth 100000 in
theorem s_X7_playerSize {X : kX} {g : kG} {N : Nat} {Q : Int32 → kS → Prop} (hc : kOk X g RX7 cX7_playerSize 3 (some .int) 5) (hZ : kRi X g cX7_playerSize Q) {σ : kS} {x1 : Int32} (h : w_X7_playerSize N σ x1 Q) : kP X g 3 0 [(0, kz g 55), (1, .int x1)] [] σ := by
  unfold w_X7_playerSize at h
  refine r_aload_n hc 0 dX7_playerSize_0 rfl ?_
  refine r_bipush (v := 11) hc dX7_playerSize_1 rfl ?_
  refine r_callVv (d := 0) hc (m_X7_begin h) cw_X7_begin wi_X7_begin ws_X7_begin lm_X7_234 (by decide) (by decide) rv_X7 rfl rfl (Nat.le_of_ble_eq_true rfl) dX7_playerSize_3 (fun σ_1 h => ?_)
  refine r_aload_n hc 0 dX7_playerSize_6 rfl ?_
  refine r_iload_n hc 1 dX7_playerSize_7 rfl ?_
  refine r_bipush (v := 10) hc dX7_playerSize_8 rfl ?_
  refine r_callVi (d := 1) hc (m_X7_lent h) cw_X7_lent wi_X7_lent ws_X7_lent lm_X7_238 (by decide) (by decide) rv_X7 rfl rfl (Nat.le_of_ble_eq_true rfl) dX7_playerSize_10 (fun r_4 σ_3 h => ?_)
  refine r_istore_n hc [(2, .int r_4), (0, kz g 55), (1, .int x1)] dX7_playerSize_13 (by decide) rfl ?_
  refine r_iload_n hc 0 dX7_playerSize_14 rfl ?_
  refine r_aload_n hc 1 dX7_playerSize_15 rfl ?_
  refine r_iload_n hc 2 dX7_playerSize_16 rfl ?_
  refine r_callVi (d := 4) hc (m_X7_markOf h) cw_X7_markOf wi_X7_markOf ws_X7_markOf lm_X7_250 (by decide) (by decide) rv_X7 rfl rfl (Nat.le_of_ble_eq_true rfl) dX7_playerSize_17 (fun r_6 σ_5 h => ?_)
  refine r_iadd hc dX7_playerSize_20 ?_
  exact r_iret (ls0 := []) hZ dX7_playerSize_21 h
theorem m_X7_playerSize {l : Launch} {g : kG} {N : Nat} {σ : kS} {x1 : Int32} {Q : Int32 → kS → Prop} (h : w_X7_playerSize N σ x1 Q) : kMi l g yX7_playerSize cX7_playerSize 3 (some .int) 5 [kz g 55, .int x1] σ Q :=
  k_met_i (by decide +kernel) rfl (Nat.le_of_ble_eq_true rfl) (fun X hl hc hZ => s_X7_playerSize hc hZ h)
def w_X7_sizeOf (N : Nat) (σ : kS) (x1 : Int32) (Q : Int32 → kS → Prop) : Prop :=
  vp_in (42 + x1) 57 ∧ (∀ x2_2 : Int32, x2_2 = σ 59 (42 + x1).toNatClampNeg → (if x2_2 = 2 then (w_X7_begin N σ 12 (fun (σ_3 : kS) => w_X7_playerSize N σ_3 x1 (fun (r_6 : Int32) (σ_5 : kS) => Q (-r_6) σ_5))) else (if x2_2 < 4 then (w_X7_playerSize N σ x1 (fun (r_8 : Int32) (σ_7 : kS) => Q r_8 σ_7)) else (w_X7_sizeOfCarrier N σ x1 (fun (r_10 : Int32) (σ_9 : kS) => Q r_10 σ_9)))))
set_option maxHeartbeats 4000000 in
set_option maxRecDepth 100000 in
theorem s_X7_sizeOf {X : kX} {g : kG} {N : Nat} {Q : Int32 → kS → Prop} (hc : kOk X g RX7 cX7_sizeOf 3 (some .int) 6) (hZ : kRi X g cX7_sizeOf Q) {σ : kS} {x1 : Int32} (h : w_X7_sizeOf N σ x1 Q) : kP X g 3 0 [(0, kz g 55), (1, .int x1)] [] σ := by
  unfold w_X7_sizeOf at h
  refine r_aload_n hc 0 dX7_sizeOf_0 rfl ?_
  refine gf_X7_5 hc lf_X7_19 dX7_sizeOf_1 ?_
  refine r_bipush (v := 42) hc dX7_sizeOf_4 rfl ?_
  refine r_iload_n hc 1 dX7_sizeOf_6 rfl ?_
  refine r_iadd hc dX7_sizeOf_7 ?_
  obtain ⟨hi_1, h⟩ := h
  refine r_iald hc kia_59 hi_1 dX7_sizeOf_8 ?_
  refine r_nmI (fun x2_2 ex2_2 => ?_)
  have h := h x2_2 ex2_2
  refine r_istore_n hc [(2, .int x2_2), (0, kz g 55), (1, .int x1)] dX7_sizeOf_9 (by decide) rfl ?_
  refine r_iload_n hc 0 dX7_sizeOf_10 rfl ?_
  refine r_iconst (v := 2) hc dX7_sizeOf_11 rfl ?_
  refine r_ic_ne hc 28 dX7_sizeOf_12 (by decide) (fun q => ?_) (fun q => ?_)
  · have h := kif_t h q
    refine r_aload_n hc 1 dX7_sizeOf_15 rfl ?_
    refine r_bipush (v := 12) hc dX7_sizeOf_16 rfl ?_
    refine r_callVv (d := 0) hc (m_X7_begin h) cw_X7_begin wi_X7_begin ws_X7_begin lm_X7_234 (by decide) (by decide) rv_X7 rfl rfl (Nat.le_of_ble_eq_true rfl) dX7_sizeOf_18 (fun σ_3 h => ?_)
    refine r_aload_n hc 1 dX7_sizeOf_21 rfl ?_
    refine r_iload_n hc 2 dX7_sizeOf_22 rfl ?_
    refine r_callVi (d := 5) hc (m_X7_playerSize h) cw_X7_playerSize wi_X7_playerSize ws_X7_playerSize lm_X7_253 (by decide) (by decide) rv_X7 rfl rfl (Nat.le_of_ble_eq_true rfl) dX7_sizeOf_23 (fun r_6 σ_5 h => ?_)
    refine r_ineg hc dX7_sizeOf_26 ?_
    exact r_iret (ls0 := []) hZ dX7_sizeOf_27 h
  · have h := kif_f h q
    refine r_iload_n hc 0 dX7_sizeOf_28 rfl ?_
    refine r_iconst (v := 4) hc dX7_sizeOf_29 rfl ?_
    refine r_ic_lt hc 41 dX7_sizeOf_30 (by decide) (fun q => ?_) (fun q => ?_)
    · have h := kif_t h q
      refine r_aload_n hc 1 dX7_sizeOf_41 rfl ?_
      refine r_iload_n hc 2 dX7_sizeOf_42 rfl ?_
      refine r_callVi (d := 5) hc (m_X7_playerSize h) cw_X7_playerSize wi_X7_playerSize ws_X7_playerSize lm_X7_253 (by decide) (by decide) rv_X7 rfl rfl (Nat.le_of_ble_eq_true rfl) dX7_sizeOf_43 (fun r_8 σ_7 h => ?_)
      exact r_iret (ls0 := []) hZ dX7_sizeOf_46 h
    · have h := kif_f h q
      refine r_aload_n hc 1 dX7_sizeOf_33 rfl ?_
      refine r_iload_n hc 2 dX7_sizeOf_34 rfl ?_
      refine r_callVi (d := 3) hc (m_X7_sizeOfCarrier h) cw_X7_sizeOfCarrier wi_X7_sizeOfCarrier ws_X7_sizeOfCarrier lm_X7_247 (by decide) (by decide) rv_X7 rfl rfl (Nat.le_of_ble_eq_true rfl) dX7_sizeOf_35 (fun r_10 σ_9 h => ?_)
      refine r_goto hc 46 dX7_sizeOf_38 (by decide) ?_
      exact r_iret (ls0 := []) hZ dX7_sizeOf_46 h
theorem m_X7_sizeOf {l : Launch} {g : kG} {N : Nat} {σ : kS} {x1 : Int32} {Q : Int32 → kS → Prop} (h : w_X7_sizeOf N σ x1 Q) : kMi l g yX7_sizeOf cX7_sizeOf 3 (some .int) 6 [kz g 55, .int x1] σ Q :=
  k_met_i (by decide +kernel) rfl (Nat.le_of_ble_eq_true rfl) (fun X hl hc hZ => s_X7_sizeOf hc hZ h)
def w_X7_ask (N : Nat) (σ : kS) (x1 : Int32) (x2 : Int32) (Q : Int32 → kS → Prop) : Prop :=
  w_X7_isPupil N σ x1 (fun (r_2 : Int32) (σ_1 : kS) => if r_2 = 0 then (Q (-1000001) σ_1) else (w_X7_in N σ_1 (x2.toInt64) 0 1 (fun (r_4 : Int32) (σ_3 : kS) => if r_4 = 0 then (Q (-1000001) σ_3) else (∀ σ_5 : kS, σ_5 = st2 σ_3 55 25 0 → (if x2 = 0 then (w_X7_sizeOf N σ_5 x1 (fun (r_7 : Int32) (σ_6 : kS) => Q r_7 σ_6)) else (w_X7_markOf N σ_5 x1 (fun (r_9 : Int32) (σ_8 : kS) => Q r_9 σ_8)))))))
set_option maxHeartbeats 4000000 in
set_option maxRecDepth 100000 in
theorem s_X7_ask {X : kX} {g : kG} {N : Nat} {Q : Int32 → kS → Prop} (hc : kOk X g RX7 cX7_ask 3 (some .int) 7) (hZ : kRi X g cX7_ask Q) {σ : kS} {x1 : Int32} {x2 : Int32} (h : w_X7_ask N σ x1 x2 Q) : kP X g 3 0 [(0, kz g 55), (1, .int x1), (2, .int x2)] [] σ := by
  unfold w_X7_ask at h
  refine r_aload_n hc 0 dX7_ask_0 rfl ?_
  refine r_iload_n hc 1 dX7_ask_1 rfl ?_
  refine r_callVi (d := 1) hc (m_X7_isPupil h) cw_X7_isPupil wi_X7_isPupil ws_X7_isPupil lm_X7_159 (by decide) (by decide) rv_X7 rfl rfl (Nat.le_of_ble_eq_true rfl) dX7_ask_2 (fun r_2 σ_1 h => ?_)
  refine r_if_eq hc 18 dX7_ask_5 (by decide) (fun q => ?_) (fun q => ?_)
  · have h := kif_t h q
    refine r_ldc hc lk_X7_67 dX7_ask_18 ?_
    exact r_iret (ls0 := []) hZ dX7_ask_20 h
  · have h := kif_f h q
    refine r_iload_n hc 2 dX7_ask_8 rfl ?_
    refine r_i2l hc dX7_ask_9 ?_
    refine r_lconst (v := 0) hc dX7_ask_10 rfl ?_
    refine r_lconst (v := 1) hc dX7_ask_11 rfl ?_
    refine r_callSi (d := 0) hc (m_X7_in h) cw_X7_in wt_X7_in lm_X7_57 (by decide) (by decide) rfl rfl (Nat.le_of_ble_eq_true rfl) dX7_ask_12 (fun r_4 σ_3 h => ?_)
    refine r_if_ne hc 21 dX7_ask_15 (by decide) (fun q => ?_) (fun q => ?_)
    · have h := kif_t h q
      refine r_ldc hc lk_X7_67 dX7_ask_18 ?_
      exact r_iret (ls0 := []) hZ dX7_ask_20 h
    · have h := kif_f h q
      refine r_aload_n hc 0 dX7_ask_21 rfl ?_
      refine r_iconst (v := 0) hc dX7_ask_22 rfl ?_
      refine pf_X7_25 hc lf_X7_231 dX7_ask_23 ?_
      refine r_nmS (fun σ_5 eσ_5 => ?_)
      have h := h σ_5 eσ_5
      refine r_iload_n hc 2 dX7_ask_26 rfl ?_
      refine r_if_ne hc 38 dX7_ask_27 (by decide) (fun q => ?_) (fun q => ?_)
      · have h := kif_t h q
        refine r_aload_n hc 0 dX7_ask_30 rfl ?_
        refine r_iload_n hc 1 dX7_ask_31 rfl ?_
        refine r_callVi (d := 6) hc (m_X7_sizeOf h) cw_X7_sizeOf wi_X7_sizeOf ws_X7_sizeOf lm_X7_256 (by decide) (by decide) rv_X7 rfl rfl (Nat.le_of_ble_eq_true rfl) dX7_ask_32 (fun r_7 σ_6 h => ?_)
        refine r_goto hc 43 dX7_ask_35 (by decide) ?_
        exact r_iret (ls0 := []) hZ dX7_ask_43 h
      · have h := kif_f h q
        refine r_aload_n hc 0 dX7_ask_38 rfl ?_
        refine r_iload_n hc 1 dX7_ask_39 rfl ?_
        refine r_callVi (d := 4) hc (m_X7_markOf h) cw_X7_markOf wi_X7_markOf ws_X7_markOf lm_X7_250 (by decide) (by decide) rv_X7 rfl rfl (Nat.le_of_ble_eq_true rfl) dX7_ask_40 (fun r_9 σ_8 h => ?_)
        exact r_iret (ls0 := []) hZ dX7_ask_43 h
theorem m_X7_ask {l : Launch} {g : kG} {N : Nat} {σ : kS} {x1 : Int32} {x2 : Int32} {Q : Int32 → kS → Prop} (h : w_X7_ask N σ x1 x2 Q) : kMi l g yX7_ask cX7_ask 3 (some .int) 7 [kz g 55, .int x1, .int x2] σ Q :=
  k_met_i (by decide +kernel) rfl (Nat.le_of_ble_eq_true rfl) (fun X hl hc hZ => s_X7_ask hc hZ h)
def w_X7_trace (N : Nat) (σ : kS) (x1 : Int32) (Q : Int32 → kS → Prop) : Prop :=
  w_X7_in N σ (x1.toInt64) 0 (((σ 55 25) - 1).toInt64) (fun (r_2 : Int32) (σ_1 : kS) => if r_2 = 0 then (Q (-1000000) σ_1) else (vp_in x1 16 ∧ (Q (σ_1 68 x1.toNatClampNeg) σ_1)))
set_option maxHeartbeats 4000000 in
set_option maxRecDepth 100000 in
theorem s_X7_trace {X : kX} {g : kG} {N : Nat} {Q : Int32 → kS → Prop} (hc : kOk X g RX7 cX7_trace 2 (some .int) 1) (hZ : kRi X g cX7_trace Q) {σ : kS} {x1 : Int32} (h : w_X7_trace N σ x1 Q) : kP X g 2 0 [(0, kz g 55), (1, .int x1)] [] σ := by
  unfold w_X7_trace at h
  refine r_iload_n hc 1 dX7_trace_0 rfl ?_
  refine r_i2l hc dX7_trace_1 ?_
  refine r_lconst (v := 0) hc dX7_trace_2 rfl ?_
  refine r_aload_n hc 0 dX7_trace_3 rfl ?_
  refine gf_X7_25 hc lf_X7_231 dX7_trace_4 ?_
  refine r_iconst (v := 1) hc dX7_trace_7 rfl ?_
  refine r_isub hc dX7_trace_8 ?_
  refine r_i2l hc dX7_trace_9 ?_
  refine r_callSi (d := 0) hc (m_X7_in h) cw_X7_in wt_X7_in lm_X7_57 (by decide) (by decide) rfl rfl (Nat.le_of_ble_eq_true rfl) dX7_trace_10 (fun r_2 σ_1 h => ?_)
  refine r_if_eq hc 25 dX7_trace_13 (by decide) (fun q => ?_) (fun q => ?_)
  · have h := kif_t h q
    refine r_ldc hc lk_X7_165 dX7_trace_25 ?_
    exact r_iret (ls0 := []) hZ dX7_trace_27 h
  · have h := kif_f h q
    refine r_aload_n hc 0 dX7_trace_16 rfl ?_
    refine gf_X7_24 hc lf_X7_47 dX7_trace_17 ?_
    refine r_iload_n hc 1 dX7_trace_20 rfl ?_
    obtain ⟨hi_3, h⟩ := h
    refine r_iald hc kia_68 hi_3 dX7_trace_21 ?_
    refine r_goto hc 27 dX7_trace_22 (by decide) ?_
    exact r_iret (ls0 := []) hZ dX7_trace_27 h
theorem m_X7_trace {l : Launch} {g : kG} {N : Nat} {σ : kS} {x1 : Int32} {Q : Int32 → kS → Prop} (h : w_X7_trace N σ x1 Q) : kMi l g yX7_trace cX7_trace 2 (some .int) 1 [kz g 55, .int x1] σ Q :=
  k_met_i (by decide +kernel) rfl (Nat.le_of_ble_eq_true rfl) (fun X hl hc hZ => s_X7_trace hc hZ h)
def b_X7_count_4 (N : Nat) (Q : Int32 → kS → Prop) (x1 : Int32) (E33 : Int32 → kS → Prop) (K : Int32 → Int32 → kS → Prop) (x2 : Int32) (x3 : Int32) (σ : kS) : Prop :=
  if 8 ≤ x3 then (E33 x2 σ) else (vp_in x3 8 ∧ (if (σ 57 x3.toNatClampNeg) < 0 then (∀ x2_2 : Int32, x2_2 = x2 + 0 → (∀ x3_3 : Int32, x3_3 = x3 + 1 → (K x2_2 x3_3 σ))) else (∀ x2_4 : Int32, x2_4 = x2 + 1 → (∀ x3_5 : Int32, x3_5 = x3 + 1 → (K x2_4 x3_5 σ)))))
def l_X7_count_4 (N : Nat) (Q : Int32 → kS → Prop) (x1 : Int32) (E33 : Int32 → kS → Prop) : Nat → Int32 → Int32 → kS → Prop
  | 0 => fun _ _ _ => False
  | n + 1 => b_X7_count_4 N Q x1 E33 (l_X7_count_4 N Q x1 E33 n)
set_option maxHeartbeats 4000000 in
set_option maxRecDepth 100000 in
theorem sb_X7_count_4 {X : kX} {g : kG} {N : Nat} {Q : Int32 → kS → Prop} (hc : kOk X g RX7 cX7_count 4 (some .int) 0) (hZ : kRi X g cX7_count Q) {x1 : Int32} {E33 : Int32 → kS → Prop} (hE33 : ∀ (x2 : Int32) (τ : kS), E33 x2 τ → kP X g 4 33 [(0, kz g 55), (1, .int x1), (2, .int x2)] [] τ) {K : Int32 → Int32 → kS → Prop} (hK : ∀ (x2 : Int32) (x3 : Int32) (τ : kS), K x2 x3 τ → kP X g 4 4 [(0, kz g 55), (1, .int x1), (2, .int x2), (3, .int x3)] [] τ) {x2 : Int32} {x3 : Int32} {σ : kS} (h : b_X7_count_4 N Q x1 E33 K x2 x3 σ) : kP X g 4 4 [(0, kz g 55), (1, .int x1), (2, .int x2), (3, .int x3)] [] σ := by
  unfold b_X7_count_4 at h
  refine r_iload_n hc 3 dX7_count_4 rfl ?_
  refine r_bipush (v := 8) hc dX7_count_5 rfl ?_
  refine r_ic_ge hc 33 dX7_count_7 (by decide) (fun q => ?_) (fun q => ?_)
  · have h := kif_t h q
    refine r_sub [0, 1, 2] rfl ?_
    exact hE33 _ _ h
  · have h := kif_f h q
    refine r_iload_n hc 2 dX7_count_10 rfl ?_
    refine r_aload_n hc 0 dX7_count_11 rfl ?_
    refine gf_X7_1 hc lf_X7_13 dX7_count_12 ?_
    refine r_iload_n hc 3 dX7_count_15 rfl ?_
    obtain ⟨hi_1, h⟩ := h
    refine r_iald hc kia_57 hi_1 dX7_count_16 ?_
    refine r_if_lt hc 24 dX7_count_17 (by decide) (fun q => ?_) (fun q => ?_)
    · have h := kif_t h q
      refine r_iconst (v := 0) hc dX7_count_24 rfl ?_
      refine r_iadd hc dX7_count_25 ?_
      refine r_nmI (fun x2_2 ex2_2 => ?_)
      have h := h x2_2 ex2_2
      refine r_istore_n hc [(2, .int x2_2), (0, kz g 55), (1, .int x1), (3, .int x3)] dX7_count_26 (by decide) rfl ?_
      obtain ⟨x3_3, ex3_3⟩ : ∃ v : Int32, v = x3 + 1 := ⟨_, rfl⟩
      have h := h x3_3 ex3_3
      refine r_iinc (v := x3_3) hc 3 [(3, .int x3_3), (2, .int x2_2), (0, kz g 55), (1, .int x1)] dX7_count_27 rfl (by rw [ex3_3]; rfl) (by decide) rfl ?_
      refine r_goto hc 4 dX7_count_30 (by decide) ?_
      refine r_sub [2, 3, 1, 0] rfl ?_
      exact hK _ _ _ h
    · have h := kif_f h q
      refine r_iconst (v := 1) hc dX7_count_20 rfl ?_
      refine r_goto hc 25 dX7_count_21 (by decide) ?_
      refine r_iadd hc dX7_count_25 ?_
      refine r_nmI (fun x2_4 ex2_4 => ?_)
      have h := h x2_4 ex2_4
      refine r_istore_n hc [(2, .int x2_4), (0, kz g 55), (1, .int x1), (3, .int x3)] dX7_count_26 (by decide) rfl ?_
      obtain ⟨x3_5, ex3_5⟩ : ∃ v : Int32, v = x3 + 1 := ⟨_, rfl⟩
      have h := h x3_5 ex3_5
      refine r_iinc (v := x3_5) hc 3 [(3, .int x3_5), (2, .int x2_4), (0, kz g 55), (1, .int x1)] dX7_count_27 rfl (by rw [ex3_5]; rfl) (by decide) rfl ?_
      refine r_goto hc 4 dX7_count_30 (by decide) ?_
      refine r_sub [2, 3, 1, 0] rfl ?_
      exact hK _ _ _ h
theorem sl_X7_count_4 {X : kX} {g : kG} {N : Nat} {Q : Int32 → kS → Prop} (hc : kOk X g RX7 cX7_count 4 (some .int) 0) (hZ : kRi X g cX7_count Q) {x1 : Int32} {E33 : Int32 → kS → Prop} (hE33 : ∀ (x2 : Int32) (τ : kS), E33 x2 τ → kP X g 4 33 [(0, kz g 55), (1, .int x1), (2, .int x2)] [] τ) : ∀ (n : Nat) (x2 : Int32) (x3 : Int32) (σ : kS), l_X7_count_4 N Q x1 E33 n x2 x3 σ → kP X g 4 4 [(0, kz g 55), (1, .int x1), (2, .int x2), (3, .int x3)] [] σ := by
  intro n
  induction n with
  | zero => intro x2 x3 σ h; exact h.elim
  | succ n ih => intro x2 x3 σ h; exact sb_X7_count_4 hc hZ hE33 ih h
def w_X7_count (N : Nat) (σ : kS) (x1 : Int32) (Q : Int32 → kS → Prop) : Prop :=
  l_X7_count_4 N Q x1 (fun (x2_6 : Int32) (σ_7 : kS) => if x1 = 0 then (Q x2_6 σ_7) else (if x1 = 1 then (vp_in 0 57 ∧ (Q (σ_7 59 (0 : Int32).toNatClampNeg) σ_7)) else (if x1 = 2 then (vp_in 1 57 ∧ (Q (σ_7 59 (1 : Int32).toNatClampNeg) σ_7)) else (if x1 = 3 then (vp_in 2 57 ∧ (Q (σ_7 59 (2 : Int32).toNatClampNeg) σ_7)) else (if x1 = 4 then (vp_in 3 57 ∧ (Q (σ_7 59 (3 : Int32).toNatClampNeg) σ_7)) else (if x1 = 5 then (vp_in 4 57 ∧ (Q (σ_7 59 (4 : Int32).toNatClampNeg) σ_7)) else (if x1 = 6 then (vp_in 5 57 ∧ (Q (σ_7 59 (5 : Int32).toNatClampNeg) σ_7)) else (if x1 = 7 then (Q (σ_7 55 17) σ_7) else (if x1 = 8 then (Q (σ_7 55 8) σ_7) else (Q (-1000001) σ_7)))))))))) N 0 0 σ
set_option maxHeartbeats 4000000 in
set_option maxRecDepth 100000 in
theorem s_X7_count {X : kX} {g : kG} {N : Nat} {Q : Int32 → kS → Prop} (hc : kOk X g RX7 cX7_count 4 (some .int) 0) (hZ : kRi X g cX7_count Q) {σ : kS} {x1 : Int32} (h : w_X7_count N σ x1 Q) : kP X g 4 0 [(0, kz g 55), (1, .int x1)] [] σ := by
  unfold w_X7_count at h
  refine r_iconst (v := 0) hc dX7_count_0 rfl ?_
  refine r_istore_n hc [(2, .int 0), (0, kz g 55), (1, .int x1)] dX7_count_1 (by decide) rfl ?_
  refine r_iconst (v := 0) hc dX7_count_2 rfl ?_
  refine r_istore_n hc [(3, .int 0), (2, .int 0), (0, kz g 55), (1, .int x1)] dX7_count_3 (by decide) rfl ?_
  refine r_sub [2, 3, 1, 0] rfl ?_
  refine sl_X7_count_4 hc hZ (fun x2_6 σ_7 h => ?_) _ _ _ _ h
  refine r_iload_n hc 1 dX7_count_33 rfl ?_
  by_cases q_8 : x1 = 0
  · have h := kif_t h q_8
    refine r_tabIn hc 84 dX7_count_34 (by rw [q_8]; decide) (by rw [q_8]; decide) (by rw [q_8] <;> rfl) (by decide) ?_
    refine r_iload_n hc 2 dX7_count_84 rfl ?_
    exact r_iret (ls0 := []) hZ dX7_count_85 h
  have h := kif_f h q_8
  have zq_8 : x1.toInt ≠ 0 := ktne q_8
  by_cases q_10 : x1 = 1
  · have h := kif_t h q_10
    refine r_tabIn hc 86 dX7_count_34 (by rw [q_10]; decide) (by rw [q_10]; decide) (by rw [q_10] <;> rfl) (by decide) ?_
    refine r_aload_n hc 0 dX7_count_86 rfl ?_
    refine gf_X7_5 hc lf_X7_19 dX7_count_87 ?_
    refine r_iconst (v := 0) hc dX7_count_90 rfl ?_
    obtain ⟨hi_9, h⟩ := h
    refine r_iald hc kia_59 hi_9 dX7_count_91 ?_
    exact r_iret (ls0 := []) hZ dX7_count_92 h
  have h := kif_f h q_10
  have zq_10 : x1.toInt ≠ 1 := ktne q_10
  by_cases q_12 : x1 = 2
  · have h := kif_t h q_12
    refine r_tabIn hc 93 dX7_count_34 (by rw [q_12]; decide) (by rw [q_12]; decide) (by rw [q_12] <;> rfl) (by decide) ?_
    refine r_aload_n hc 0 dX7_count_93 rfl ?_
    refine gf_X7_5 hc lf_X7_19 dX7_count_94 ?_
    refine r_iconst (v := 1) hc dX7_count_97 rfl ?_
    obtain ⟨hi_11, h⟩ := h
    refine r_iald hc kia_59 hi_11 dX7_count_98 ?_
    exact r_iret (ls0 := []) hZ dX7_count_99 h
  have h := kif_f h q_12
  have zq_12 : x1.toInt ≠ 2 := ktne q_12
  by_cases q_14 : x1 = 3
  · have h := kif_t h q_14
    refine r_tabIn hc 100 dX7_count_34 (by rw [q_14]; decide) (by rw [q_14]; decide) (by rw [q_14] <;> rfl) (by decide) ?_
    refine r_aload_n hc 0 dX7_count_100 rfl ?_
    refine gf_X7_5 hc lf_X7_19 dX7_count_101 ?_
    refine r_iconst (v := 2) hc dX7_count_104 rfl ?_
    obtain ⟨hi_13, h⟩ := h
    refine r_iald hc kia_59 hi_13 dX7_count_105 ?_
    exact r_iret (ls0 := []) hZ dX7_count_106 h
  have h := kif_f h q_14
  have zq_14 : x1.toInt ≠ 3 := ktne q_14
  by_cases q_16 : x1 = 4
  · have h := kif_t h q_16
    refine r_tabIn hc 107 dX7_count_34 (by rw [q_16]; decide) (by rw [q_16]; decide) (by rw [q_16] <;> rfl) (by decide) ?_
    refine r_aload_n hc 0 dX7_count_107 rfl ?_
    refine gf_X7_5 hc lf_X7_19 dX7_count_108 ?_
    refine r_iconst (v := 3) hc dX7_count_111 rfl ?_
    obtain ⟨hi_15, h⟩ := h
    refine r_iald hc kia_59 hi_15 dX7_count_112 ?_
    exact r_iret (ls0 := []) hZ dX7_count_113 h
  have h := kif_f h q_16
  have zq_16 : x1.toInt ≠ 4 := ktne q_16
  by_cases q_18 : x1 = 5
  · have h := kif_t h q_18
    refine r_tabIn hc 114 dX7_count_34 (by rw [q_18]; decide) (by rw [q_18]; decide) (by rw [q_18] <;> rfl) (by decide) ?_
    refine r_aload_n hc 0 dX7_count_114 rfl ?_
    refine gf_X7_5 hc lf_X7_19 dX7_count_115 ?_
    refine r_iconst (v := 4) hc dX7_count_118 rfl ?_
    obtain ⟨hi_17, h⟩ := h
    refine r_iald hc kia_59 hi_17 dX7_count_119 ?_
    exact r_iret (ls0 := []) hZ dX7_count_120 h
  have h := kif_f h q_18
  have zq_18 : x1.toInt ≠ 5 := ktne q_18
  by_cases q_20 : x1 = 6
  · have h := kif_t h q_20
    refine r_tabIn hc 121 dX7_count_34 (by rw [q_20]; decide) (by rw [q_20]; decide) (by rw [q_20] <;> rfl) (by decide) ?_
    refine r_aload_n hc 0 dX7_count_121 rfl ?_
    refine gf_X7_5 hc lf_X7_19 dX7_count_122 ?_
    refine r_iconst (v := 5) hc dX7_count_125 rfl ?_
    obtain ⟨hi_19, h⟩ := h
    refine r_iald hc kia_59 hi_19 dX7_count_126 ?_
    exact r_iret (ls0 := []) hZ dX7_count_127 h
  have h := kif_f h q_20
  have zq_20 : x1.toInt ≠ 6 := ktne q_20
  by_cases q_21 : x1 = 7
  · have h := kif_t h q_21
    refine r_tabIn hc 128 dX7_count_34 (by rw [q_21]; decide) (by rw [q_21]; decide) (by rw [q_21] <;> rfl) (by decide) ?_
    refine r_aload_n hc 0 dX7_count_128 rfl ?_
    refine gf_X7_17 hc lf_X7_142 dX7_count_129 ?_
    exact r_iret (ls0 := []) hZ dX7_count_132 h
  have h := kif_f h q_21
  have zq_21 : x1.toInt ≠ 7 := ktne q_21
  by_cases q_22 : x1 = 8
  · have h := kif_t h q_22
    refine r_tabIn hc 133 dX7_count_34 (by rw [q_22]; decide) (by rw [q_22]; decide) (by rw [q_22] <;> rfl) (by decide) ?_
    refine r_aload_n hc 0 dX7_count_133 rfl ?_
    refine gf_X7_8 hc lf_X7_81 dX7_count_134 ?_
    exact r_iret (ls0 := []) hZ dX7_count_137 h
  have h := kif_f h q_22
  have zq_22 : x1.toInt ≠ 8 := ktne q_22
  refine r_tabOut hc 138 dX7_count_34 (by omega) (by decide) ?_
  refine r_ldc hc lk_X7_67 dX7_count_138 ?_
  exact r_iret (ls0 := []) hZ dX7_count_140 h
theorem m_X7_count {l : Launch} {g : kG} {N : Nat} {σ : kS} {x1 : Int32} {Q : Int32 → kS → Prop} (h : w_X7_count N σ x1 Q) : kMi l g yX7_count cX7_count 4 (some .int) 0 [kz g 55, .int x1] σ Q :=
  k_met_i (by decide +kernel) rfl (Nat.le_of_ble_eq_true rfl) (fun X hl hc hZ => s_X7_count hc hZ h)
def w_X7_status (N : Nat) (σ : kS) (Q : Int32 → kS → Prop) : Prop :=
  Q (σ 55 3) σ
set_option maxHeartbeats 4000000 in
set_option maxRecDepth 100000 in
theorem s_X7_status {X : kX} {g : kG} {N : Nat} {Q : Int32 → kS → Prop} (hc : kOk X g RX7 cX7_status 1 (some .int) 0) (hZ : kRi X g cX7_status Q) {σ : kS} (h : w_X7_status N σ Q) : kP X g 1 0 [(0, kz g 55)] [] σ := by
  unfold w_X7_status at h
  refine r_aload_n hc 0 dX7_status_0 rfl ?_
  refine gf_X7_3 hc lf_X7_50 dX7_status_1 ?_
  exact r_iret (ls0 := []) hZ dX7_status_4 h
theorem m_X7_status {l : Launch} {g : kG} {N : Nat} {σ : kS} {Q : Int32 → kS → Prop} (h : w_X7_status N σ Q) : kMi l g yX7_status cX7_status 1 (some .int) 0 [kz g 55] σ Q :=
  k_met_i (by decide +kernel) rfl (Nat.le_of_ble_eq_true rfl) (fun X hl hc hZ => s_X7_status hc hZ h)
