def w_X7_in (N : Nat) (σ : kS) (x0 : Int64) (x2 : Int64) (x4 : Int64) (Q : Int32 → kS → Prop) : Prop :=
  if (lg_cmp x0 x2) < 0 then (Q 0 σ) else (if 0 < (lg_cmp x0 x4) then (Q 0 σ) else (Q 1 σ))
set_option maxHeartbeats 4000000 in
set_option maxRecDepth 100000 in
theorem s_X7_in {X : kX} {g : kG} {N : Nat} {Q : Int32 → kS → Prop} (hc : kOk X g RX7 cX7_in 6 (some .boolean) 0) (hZ : kRz X g cX7_in Q) {σ : kS} {x0 : Int64} {x2 : Int64} {x4 : Int64} (h : w_X7_in N σ x0 x2 x4 Q) : kP X g 6 0 [(0, .long x0), (2, .long x2), (4, .long x4)] [] σ := by
  unfold w_X7_in at h
  refine r_lload_n hc 0 dX7_in_0 rfl ?_
  refine r_lload_n hc 1 dX7_in_1 rfl ?_
  refine r_lcmp hc dX7_in_2 ?_
  refine r_if_lt hc 17 dX7_in_3 (by decide) (fun q => ?_) (fun q => ?_)
  · have h := kif_t h q
    refine r_iconst (v := 0) hc dX7_in_17 rfl ?_
    exact r_zret (ls0 := []) hZ dX7_in_18 (Or.inl rfl) h
  · have h := kif_f h q
    refine r_lload_n hc 0 dX7_in_6 rfl ?_
    refine r_lload hc 2 dX7_in_7 rfl ?_
    refine r_lcmp hc dX7_in_9 ?_
    refine r_if_gt hc 17 dX7_in_10 (by decide) (fun q => ?_) (fun q => ?_)
    · have h := kif_t h q
      refine r_iconst (v := 0) hc dX7_in_17 rfl ?_
      exact r_zret (ls0 := []) hZ dX7_in_18 (Or.inl rfl) h
    · have h := kif_f h q
      refine r_iconst (v := 1) hc dX7_in_13 rfl ?_
      refine r_goto hc 18 dX7_in_14 (by decide) ?_
      exact r_zret (ls0 := []) hZ dX7_in_18 (Or.inr rfl) h
theorem m_X7_in {l : Launch} {g : kG} {N : Nat} {σ : kS} {x0 : Int64} {x2 : Int64} {x4 : Int64} {Q : Int32 → kS → Prop} (h : w_X7_in N σ x0 x2 x4 Q) : kMi l g yX7_in cX7_in 6 (some .boolean) 0 [.long x0, .long x2, .long x4] σ Q :=
  k_met_z (by decide +kernel) rfl (Nat.le_of_ble_eq_true rfl) (fun X hl hc hZ => s_X7_in hc hZ h)
def w_X7_has (N : Nat) (σ : kS) (x0 : Int32) (x1 : Int32) (Q : Int32 → kS → Prop) : Prop :=
  if ((x0 >>> (x1 &&& 31)) &&& 1) = 1 then (Q 1 σ) else (Q 0 σ)
set_option maxHeartbeats 4000000 in
set_option maxRecDepth 100000 in
theorem s_X7_has {X : kX} {g : kG} {N : Nat} {Q : Int32 → kS → Prop} (hc : kOk X g RX7 cX7_has 2 (some .boolean) 0) (hZ : kRz X g cX7_has Q) {σ : kS} {x0 : Int32} {x1 : Int32} (h : w_X7_has N σ x0 x1 Q) : kP X g 2 0 [(0, .int x0), (1, .int x1)] [] σ := by
  unfold w_X7_has at h
  refine r_iload_n hc 0 dX7_has_0 rfl ?_
  refine r_iload_n hc 1 dX7_has_1 rfl ?_
  refine r_ishr hc dX7_has_2 ?_
  refine r_iconst (v := 1) hc dX7_has_3 rfl ?_
  refine r_iand hc dX7_has_4 ?_
  refine r_iconst (v := 1) hc dX7_has_5 rfl ?_
  refine r_ic_ne hc 13 dX7_has_6 (by decide) (fun q => ?_) (fun q => ?_)
  · have h := kif_t h q
    refine r_iconst (v := 1) hc dX7_has_9 rfl ?_
    refine r_goto hc 14 dX7_has_10 (by decide) ?_
    exact r_zret (ls0 := []) hZ dX7_has_14 (Or.inr rfl) h
  · have h := kif_f h q
    refine r_iconst (v := 0) hc dX7_has_13 rfl ?_
    exact r_zret (ls0 := []) hZ dX7_has_14 (Or.inl rfl) h
theorem m_X7_has {l : Launch} {g : kG} {N : Nat} {σ : kS} {x0 : Int32} {x1 : Int32} {Q : Int32 → kS → Prop} (h : w_X7_has N σ x0 x1 Q) : kMi l g yX7_has cX7_has 2 (some .boolean) 0 [.int x0, .int x1] σ Q :=
  k_met_z (by decide +kernel) rfl (Nat.le_of_ble_eq_true rfl) (fun X hl hc hZ => s_X7_has hc hZ h)
def b_X7_ones_4 (N : Nat) (Q : Int32 → kS → Prop) (K : Int32 → Int32 → kS → Prop) (x1 : Int32) (x2 : Int32) (σ : kS) : Prop :=
  if x2 = 0 then (Q x1 σ) else (∀ x1_1 : Int32, x1_1 = x1 + 1 → (∀ x2_2 : Int32, x2_2 = x2 &&& (x2 - 1) → (K x1_1 x2_2 σ)))
def l_X7_ones_4 (N : Nat) (Q : Int32 → kS → Prop) : Nat → Int32 → Int32 → kS → Prop
  | 0 => fun _ _ _ => False
  | n + 1 => b_X7_ones_4 N Q (l_X7_ones_4 N Q n)
set_option maxHeartbeats 4000000 in
set_option maxRecDepth 100000 in
theorem sb_X7_ones_4 {X : kX} {g : kG} {N : Nat} {Q : Int32 → kS → Prop} (hc : kOk X g RX7 cX7_ones 3 (some .int) 0) (hZ : kRi X g cX7_ones Q) {K : Int32 → Int32 → kS → Prop} (hK : ∀ (x1 : Int32) (x2 : Int32) (τ : kS), K x1 x2 τ → kP X g 3 4 [(1, .int x1), (2, .int x2)] [] τ) {x1 : Int32} {x2 : Int32} {σ : kS} (h : b_X7_ones_4 N Q K x1 x2 σ) : kP X g 3 4 [(1, .int x1), (2, .int x2)] [] σ := by
  unfold b_X7_ones_4 at h
  refine r_iload_n hc 1 dX7_ones_4 rfl ?_
  refine r_if_eq hc 20 dX7_ones_5 (by decide) (fun q => ?_) (fun q => ?_)
  · have h := kif_t h q
    refine r_iload_n hc 0 dX7_ones_20 rfl ?_
    exact r_iret (ls0 := []) hZ dX7_ones_21 h
  · have h := kif_f h q
    obtain ⟨x1_1, ex1_1⟩ : ∃ v : Int32, v = x1 + 1 := ⟨_, rfl⟩
    have h := h x1_1 ex1_1
    refine r_iinc (v := x1_1) hc 0 [(1, .int x1_1), (2, .int x2)] dX7_ones_8 rfl (by rw [ex1_1]; rfl) (by decide) rfl ?_
    refine r_iload_n hc 1 dX7_ones_11 rfl ?_
    refine r_iload_n hc 1 dX7_ones_12 rfl ?_
    refine r_iconst (v := 1) hc dX7_ones_13 rfl ?_
    refine r_isub hc dX7_ones_14 ?_
    refine r_iand hc dX7_ones_15 ?_
    refine r_nmI (fun x2_2 ex2_2 => ?_)
    have h := h x2_2 ex2_2
    refine r_istore_n hc [(2, .int x2_2), (1, .int x1_1)] dX7_ones_16 (by decide) rfl ?_
    refine r_goto hc 4 dX7_ones_17 (by decide) ?_
    refine r_sub [1, 0] rfl ?_
    exact hK _ _ _ h
theorem sl_X7_ones_4 {X : kX} {g : kG} {N : Nat} {Q : Int32 → kS → Prop} (hc : kOk X g RX7 cX7_ones 3 (some .int) 0) (hZ : kRi X g cX7_ones Q) : ∀ (n : Nat) (x1 : Int32) (x2 : Int32) (σ : kS), l_X7_ones_4 N Q n x1 x2 σ → kP X g 3 4 [(1, .int x1), (2, .int x2)] [] σ := by
  intro n
  induction n with
  | zero => intro x1 x2 σ h; exact h.elim
  | succ n ih => intro x1 x2 σ h; exact sb_X7_ones_4 hc hZ ih h
def w_X7_ones (N : Nat) (σ : kS) (x0 : Int32) (Q : Int32 → kS → Prop) : Prop :=
  l_X7_ones_4 N Q  N 0 x0 σ
set_option maxHeartbeats 4000000 in
set_option maxRecDepth 100000 in
theorem s_X7_ones {X : kX} {g : kG} {N : Nat} {Q : Int32 → kS → Prop} (hc : kOk X g RX7 cX7_ones 3 (some .int) 0) (hZ : kRi X g cX7_ones Q) {σ : kS} {x0 : Int32} (h : w_X7_ones N σ x0 Q) : kP X g 3 0 [(0, .int x0)] [] σ := by
  unfold w_X7_ones at h
  refine r_iconst (v := 0) hc dX7_ones_0 rfl ?_
  refine r_istore_n hc [(1, .int 0), (0, .int x0)] dX7_ones_1 (by decide) rfl ?_
  refine r_iload_n hc 1 dX7_ones_2 rfl ?_
  refine r_istore_n hc [(2, .int x0), (1, .int 0), (0, .int x0)] dX7_ones_3 (by decide) rfl ?_
  refine r_sub [1, 0] rfl ?_
  refine sl_X7_ones_4 hc hZ _ _ _ _ h
theorem m_X7_ones {l : Launch} {g : kG} {N : Nat} {σ : kS} {x0 : Int32} {Q : Int32 → kS → Prop} (h : w_X7_ones N σ x0 Q) : kMi l g yX7_ones cX7_ones 3 (some .int) 0 [.int x0] σ Q :=
  k_met_i (by decide +kernel) rfl (Nat.le_of_ble_eq_true rfl) (fun X hl hc hZ => s_X7_ones hc hZ h)
def w_X7_find (N : Nat) (σ : kS) (x1 : Int32) (Q : Int32 → kS → Prop) : Prop :=
  ∀ σ_1 : kS, σ_1 = st2 σ 55 3 x1 → (Q ((-1000010) - x1) σ_1)
set_option maxHeartbeats 4000000 in
set_option maxRecDepth 100000 in
theorem s_X7_find {X : kX} {g : kG} {N : Nat} {Q : Int32 → kS → Prop} (hc : kOk X g RX7 cX7_find 2 (some .int) 0) (hZ : kRi X g cX7_find Q) {σ : kS} {x1 : Int32} (h : w_X7_find N σ x1 Q) : kP X g 2 0 [(0, kz g 55), (1, .int x1)] [] σ := by
  unfold w_X7_find at h
  refine r_aload_n hc 0 dX7_find_0 rfl ?_
  refine r_iload_n hc 1 dX7_find_1 rfl ?_
  refine pf_X7_3 hc lf_X7_50 dX7_find_2 ?_
  refine r_nmS (fun σ_1 eσ_1 => ?_)
  have h := h σ_1 eσ_1
  refine r_ldc hc lk_X7_54 dX7_find_5 ?_
  refine r_iload_n hc 1 dX7_find_7 rfl ?_
  refine r_isub hc dX7_find_8 ?_
  exact r_iret (ls0 := []) hZ dX7_find_9 h
theorem m_X7_find {l : Launch} {g : kG} {N : Nat} {σ : kS} {x1 : Int32} {Q : Int32 → kS → Prop} (h : w_X7_find N σ x1 Q) : kMi l g yX7_find cX7_find 2 (some .int) 0 [kz g 55, .int x1] σ Q :=
  k_met_i (by decide +kernel) rfl (Nat.le_of_ble_eq_true rfl) (fun X hl hc hZ => s_X7_find hc hZ h)
def w_X7_well (N : Nat) (σ : kS) (x1 : Int32) (Q : Int32 → kS → Prop) : Prop :=
  ∀ σ_1 : kS, σ_1 = st2 σ 55 3 0 → (Q x1 σ_1)
set_option maxHeartbeats 4000000 in
set_option maxRecDepth 100000 in
theorem s_X7_well {X : kX} {g : kG} {N : Nat} {Q : Int32 → kS → Prop} (hc : kOk X g RX7 cX7_well 2 (some .int) 0) (hZ : kRi X g cX7_well Q) {σ : kS} {x1 : Int32} (h : w_X7_well N σ x1 Q) : kP X g 2 0 [(0, kz g 55), (1, .int x1)] [] σ := by
  unfold w_X7_well at h
  refine r_aload_n hc 0 dX7_well_0 rfl ?_
  refine r_iconst (v := 0) hc dX7_well_1 rfl ?_
  refine pf_X7_3 hc lf_X7_50 dX7_well_2 ?_
  refine r_nmS (fun σ_1 eσ_1 => ?_)
  have h := h σ_1 eσ_1
  refine r_iload_n hc 1 dX7_well_5 rfl ?_
  exact r_iret (ls0 := []) hZ dX7_well_6 h
theorem m_X7_well {l : Launch} {g : kG} {N : Nat} {σ : kS} {x1 : Int32} {Q : Int32 → kS → Prop} (h : w_X7_well N σ x1 Q) : kMi l g yX7_well cX7_well 2 (some .int) 0 [kz g 55, .int x1] σ Q :=
  k_met_i (by decide +kernel) rfl (Nat.le_of_ble_eq_true rfl) (fun X hl hc hZ => s_X7_well hc hZ h)
def w_X7_isRow (N : Nat) (σ : kS) (x0 : Int32) (Q : Int32 → kS → Prop) : Prop :=
  w_X7_in N σ (x0.toInt64) 0 7 (fun (r_2 : Int32) (σ_1 : kS) => (r_2 = 0 ∨ r_2 = 1) ∧ Q r_2 σ_1)
set_option maxHeartbeats 4000000 in
set_option maxRecDepth 100000 in
theorem s_X7_isRow {X : kX} {g : kG} {N : Nat} {Q : Int32 → kS → Prop} (hc : kOk X g RX7 cX7_isRow 1 (some .boolean) 1) (hZ : kRz X g cX7_isRow Q) {σ : kS} {x0 : Int32} (h : w_X7_isRow N σ x0 Q) : kP X g 1 0 [(0, .int x0)] [] σ := by
  unfold w_X7_isRow at h
  refine r_iload_n hc 0 dX7_isRow_0 rfl ?_
  refine r_i2l hc dX7_isRow_1 ?_
  refine r_lconst (v := 0) hc dX7_isRow_2 rfl ?_
  refine r_ldc2_w hc lK_X7_55 dX7_isRow_3 ?_
  refine r_callSi (d := 0) hc (m_X7_in h) cw_X7_in wt_X7_in lm_X7_57 (by decide) (by decide) rfl rfl (Nat.le_of_ble_eq_true rfl) dX7_isRow_6 (fun r_2 σ_1 h => ?_)
  exact r_zret (ls0 := []) hZ dX7_isRow_9 h.1 h.2
theorem m_X7_isRow {l : Launch} {g : kG} {N : Nat} {σ : kS} {x0 : Int32} {Q : Int32 → kS → Prop} (h : w_X7_isRow N σ x0 Q) : kMi l g yX7_isRow cX7_isRow 1 (some .boolean) 1 [.int x0] σ Q :=
  k_met_z (by decide +kernel) rfl (Nat.le_of_ble_eq_true rfl) (fun X hl hc hZ => s_X7_isRow hc hZ h)
def b_X7_row_55 (N : Nat) (Q : Int32 → kS → Prop) (x1 : Int32) (x3 : Int32) (E81 : kS → Prop) (K : Int32 → kS → Prop) (x4 : Int32) (σ : kS) : Prop :=
  if 40 ≤ x4 then (E81 σ) else (vp_in ((40 * x1) + x4) 320 ∧ (∀ σ_10 : kS, σ_10 = st2 σ 58 (((40 * x1) + x4).toNatClampNeg) 0 → (∀ x4_11 : Int32, x4_11 = x4 + 1 → (K x4_11 σ_10))))
def l_X7_row_55 (N : Nat) (Q : Int32 → kS → Prop) (x1 : Int32) (x3 : Int32) (E81 : kS → Prop) : Nat → Int32 → kS → Prop
  | 0 => fun _ _ => False
  | n + 1 => b_X7_row_55 N Q x1 x3 E81 (l_X7_row_55 N Q x1 x3 E81 n)
set_option maxHeartbeats 4000000 in
set_option maxRecDepth 100000 in
theorem sb_X7_row_55 {X : kX} {g : kG} {N : Nat} {Q : Int32 → kS → Prop} (hc : kOk X g RX7 cX7_row 5 (some .int) 2) (hZ : kRi X g cX7_row Q) {x1 : Int32} {x3 : Int32} {E81 : kS → Prop} (hE81 : ∀ (τ : kS), E81 τ → kP X g 5 81 [(0, kz g 55), (3, .int x3)] [] τ) {K : Int32 → kS → Prop} (hK : ∀ (x4 : Int32) (τ : kS), K x4 τ → kP X g 5 55 [(0, kz g 55), (1, .int x1), (3, .int x3), (4, .int x4)] [] τ) {x4 : Int32} {σ : kS} (h : b_X7_row_55 N Q x1 x3 E81 K x4 σ) : kP X g 5 55 [(0, kz g 55), (1, .int x1), (3, .int x3), (4, .int x4)] [] σ := by
  unfold b_X7_row_55 at h
  refine r_iload hc 3 dX7_row_55 rfl ?_
  refine r_bipush (v := 40) hc dX7_row_57 rfl ?_
  refine r_ic_ge hc 81 dX7_row_59 (by decide) (fun q => ?_) (fun q => ?_)
  · have h := kif_t h q
    refine r_sub [0, 2] rfl ?_
    exact hE81 _ h
  · have h := kif_f h q
    refine r_aload_n hc 0 dX7_row_62 rfl ?_
    refine gf_X7_2 hc lf_X7_16 dX7_row_63 ?_
    refine r_bipush (v := 40) hc dX7_row_66 rfl ?_
    refine r_iload_n hc 1 dX7_row_68 rfl ?_
    refine r_imul hc dX7_row_69 ?_
    refine r_iload hc 3 dX7_row_70 rfl ?_
    refine r_iadd hc dX7_row_72 ?_
    refine r_iconst (v := 0) hc dX7_row_73 rfl ?_
    obtain ⟨hi_9, h⟩ := h
    refine r_iast hc kia_58 hi_9 dX7_row_74 ?_
    refine r_nmS (fun σ_10 eσ_10 => ?_)
    have h := h σ_10 eσ_10
    obtain ⟨x4_11, ex4_11⟩ : ∃ v : Int32, v = x4 + 1 := ⟨_, rfl⟩
    have h := h x4_11 ex4_11
    refine r_iinc (v := x4_11) hc 3 [(4, .int x4_11), (0, kz g 55), (1, .int x1), (3, .int x3)] dX7_row_75 rfl (by rw [ex4_11]; rfl) (by decide) rfl ?_
    refine r_goto hc 55 dX7_row_78 (by decide) ?_
    refine r_sub [1, 2, 3, 0] rfl ?_
    exact hK _ _ h
theorem sl_X7_row_55 {X : kX} {g : kG} {N : Nat} {Q : Int32 → kS → Prop} (hc : kOk X g RX7 cX7_row 5 (some .int) 2) (hZ : kRi X g cX7_row Q) {x1 : Int32} {x3 : Int32} {E81 : kS → Prop} (hE81 : ∀ (τ : kS), E81 τ → kP X g 5 81 [(0, kz g 55), (3, .int x3)] [] τ) : ∀ (n : Nat) (x4 : Int32) (σ : kS), l_X7_row_55 N Q x1 x3 E81 n x4 σ → kP X g 5 55 [(0, kz g 55), (1, .int x1), (3, .int x3), (4, .int x4)] [] σ := by
  intro n
  induction n with
  | zero => intro x4 σ h; exact h.elim
  | succ n ih => intro x4 σ h; exact sb_X7_row_55 hc hZ hE81 ih h
def w_X7_row (N : Nat) (σ : kS) (x1 : Int32) (x2 : Int32) (x3 : Int32) (Q : Int32 → kS → Prop) : Prop :=
  w_X7_isRow N σ x1 (fun (r_2 : Int32) (σ_1 : kS) => if r_2 = 0 then (Q (-1000001) σ_1) else (w_X7_in N σ_1 (x2.toInt64) 0 2 (fun (r_4 : Int32) (σ_3 : kS) => if r_4 = 0 then (Q (-1000001) σ_3) else (if x3 ≤ 40 then (if 0 ≤ x3 then (vp_in x1 8 ∧ (∀ σ_6 : kS, σ_6 = st2 σ_3 56 (x1.toNatClampNeg) x2 → (vp_in x1 8 ∧ (∀ σ_8 : kS, σ_8 = st2 σ_6 57 (x1.toNatClampNeg) x3 → (l_X7_row_55 N Q x1 x3 (fun (σ_12 : kS) => w_X7_well N σ_12 x3 (fun (r_14 : Int32) (σ_13 : kS) => Q r_14 σ_13)) N 0 σ_8))))) else (w_X7_find N σ_3 4 (fun (r_16 : Int32) (σ_15 : kS) => Q r_16 σ_15))) else (Q (-1000001) σ_3)))))
set_option maxHeartbeats 4000000 in
set_option maxRecDepth 100000 in
theorem s_X7_row {X : kX} {g : kG} {N : Nat} {Q : Int32 → kS → Prop} (hc : kOk X g RX7 cX7_row 5 (some .int) 2) (hZ : kRi X g cX7_row Q) {σ : kS} {x1 : Int32} {x2 : Int32} {x3 : Int32} (h : w_X7_row N σ x1 x2 x3 Q) : kP X g 5 0 [(0, kz g 55), (1, .int x1), (2, .int x2), (3, .int x3)] [] σ := by
  unfold w_X7_row at h
  refine r_iload_n hc 1 dX7_row_0 rfl ?_
  refine r_callSi (d := 1) hc (m_X7_isRow h) cw_X7_isRow wt_X7_isRow lm_X7_61 (by decide) (by decide) rfl rfl (Nat.le_of_ble_eq_true rfl) dX7_row_1 (fun r_2 σ_1 h => ?_)
  refine r_if_eq hc 25 dX7_row_4 (by decide) (fun q => ?_) (fun q => ?_)
  · have h := kif_t h q
    refine r_ldc hc lk_X7_67 dX7_row_25 ?_
    exact r_iret (ls0 := []) hZ dX7_row_27 h
  · have h := kif_f h q
    refine r_iload_n hc 2 dX7_row_7 rfl ?_
    refine r_i2l hc dX7_row_8 ?_
    refine r_lconst (v := 0) hc dX7_row_9 rfl ?_
    refine r_ldc2_w hc lK_X7_65 dX7_row_10 ?_
    refine r_callSi (d := 0) hc (m_X7_in h) cw_X7_in wt_X7_in lm_X7_57 (by decide) (by decide) rfl rfl (Nat.le_of_ble_eq_true rfl) dX7_row_13 (fun r_4 σ_3 h => ?_)
    refine r_if_eq hc 25 dX7_row_16 (by decide) (fun q => ?_) (fun q => ?_)
    · have h := kif_t h q
      refine r_ldc hc lk_X7_67 dX7_row_25 ?_
      exact r_iret (ls0 := []) hZ dX7_row_27 h
    · have h := kif_f h q
      refine r_iload_n hc 3 dX7_row_19 rfl ?_
      refine r_bipush (v := 40) hc dX7_row_20 rfl ?_
      refine r_ic_le hc 28 dX7_row_22 (by decide) (fun q => ?_) (fun q => ?_)
      · have h := kif_t h q
        refine r_iload_n hc 3 dX7_row_28 rfl ?_
        refine r_if_ge hc 38 dX7_row_29 (by decide) (fun q => ?_) (fun q => ?_)
        · have h := kif_t h q
          refine r_aload_n hc 0 dX7_row_38 rfl ?_
          refine gf_X7_0 hc lf_X7_7 dX7_row_39 ?_
          refine r_iload_n hc 1 dX7_row_42 rfl ?_
          refine r_iload_n hc 2 dX7_row_43 rfl ?_
          obtain ⟨hi_5, h⟩ := h
          refine r_iast hc kia_56 hi_5 dX7_row_44 ?_
          refine r_nmS (fun σ_6 eσ_6 => ?_)
          have h := h σ_6 eσ_6
          refine r_aload_n hc 0 dX7_row_45 rfl ?_
          refine gf_X7_1 hc lf_X7_13 dX7_row_46 ?_
          refine r_iload_n hc 1 dX7_row_49 rfl ?_
          refine r_iload_n hc 3 dX7_row_50 rfl ?_
          obtain ⟨hi_7, h⟩ := h
          refine r_iast hc kia_57 hi_7 dX7_row_51 ?_
          refine r_nmS (fun σ_8 eσ_8 => ?_)
          have h := h σ_8 eσ_8
          refine r_iconst (v := 0) hc dX7_row_52 rfl ?_
          refine r_istore hc [(4, .int 0), (0, kz g 55), (1, .int x1), (2, .int x2), (3, .int x3)] dX7_row_53 (by decide) rfl ?_
          refine r_sub [1, 2, 4, 0] rfl ?_
          refine sl_X7_row_55 hc hZ (fun σ_12 h => ?_) _ _ _ h
          refine r_aload_n hc 0 dX7_row_81 rfl ?_
          refine r_iload_n hc 1 dX7_row_82 rfl ?_
          refine r_callVi (d := 0) hc (m_X7_well h) cw_X7_well wi_X7_well ws_X7_well lm_X7_72 (by decide) (by decide) rv_X7 rfl rfl (Nat.le_of_ble_eq_true rfl) dX7_row_83 (fun r_14 σ_13 h => ?_)
          exact r_iret (ls0 := []) hZ dX7_row_86 h
        · have h := kif_f h q
          refine r_aload_n hc 0 dX7_row_32 rfl ?_
          refine r_iconst (v := 4) hc dX7_row_33 rfl ?_
          refine r_callVi (d := 0) hc (m_X7_find h) cw_X7_find wi_X7_find ws_X7_find lm_X7_68 (by decide) (by decide) rv_X7 rfl rfl (Nat.le_of_ble_eq_true rfl) dX7_row_34 (fun r_16 σ_15 h => ?_)
          exact r_iret (ls0 := []) hZ dX7_row_37 h
      · have h := kif_f h q
        refine r_ldc hc lk_X7_67 dX7_row_25 ?_
        exact r_iret (ls0 := []) hZ dX7_row_27 h
theorem m_X7_row {l : Launch} {g : kG} {N : Nat} {σ : kS} {x1 : Int32} {x2 : Int32} {x3 : Int32} {Q : Int32 → kS → Prop} (h : w_X7_row N σ x1 x2 x3 Q) : kMi l g yX7_row cX7_row 5 (some .int) 2 [kz g 55, .int x1, .int x2, .int x3] σ Q :=
  k_met_i (by decide +kernel) rfl (Nat.le_of_ble_eq_true rfl) (fun X hl hc hZ => s_X7_row hc hZ h)
def w_X7_asLane (N : Nat) (σ : kS) (x0 : Int32) (x1 : Int32) (Q : Int32 → kS → Prop) : Prop :=
  if x0 = 0 then (Q ((x1 <<< (24 &&& 31)) >>> (24 &&& 31)) σ) else (if x0 = 1 then (Q ((x1 <<< (16 &&& 31)) >>> (16 &&& 31)) σ) else (Q x1 σ))
set_option maxHeartbeats 4000000 in
set_option maxRecDepth 100000 in
theorem s_X7_asLane {X : kX} {g : kG} {N : Nat} {Q : Int32 → kS → Prop} (hc : kOk X g RX7 cX7_asLane 2 (some .int) 0) (hZ : kRi X g cX7_asLane Q) {σ : kS} {x0 : Int32} {x1 : Int32} (h : w_X7_asLane N σ x0 x1 Q) : kP X g 2 0 [(0, .int x0), (1, .int x1)] [] σ := by
  unfold w_X7_asLane at h
  refine r_iload_n hc 0 dX7_asLane_0 rfl ?_
  refine r_if_ne hc 14 dX7_asLane_1 (by decide) (fun q => ?_) (fun q => ?_)
  · have h := kif_t h q
    refine r_iload_n hc 1 dX7_asLane_4 rfl ?_
    refine r_bipush (v := 24) hc dX7_asLane_5 rfl ?_
    refine r_ishl hc dX7_asLane_7 ?_
    refine r_bipush (v := 24) hc dX7_asLane_8 rfl ?_
    refine r_ishr hc dX7_asLane_10 ?_
    refine r_goto hc 30 dX7_asLane_11 (by decide) ?_
    exact r_iret (ls0 := []) hZ dX7_asLane_30 h
  · have h := kif_f h q
    refine r_iload_n hc 0 dX7_asLane_14 rfl ?_
    refine r_iconst (v := 1) hc dX7_asLane_15 rfl ?_
    refine r_ic_ne hc 29 dX7_asLane_16 (by decide) (fun q => ?_) (fun q => ?_)
    · have h := kif_t h q
      refine r_iload_n hc 1 dX7_asLane_19 rfl ?_
      refine r_bipush (v := 16) hc dX7_asLane_20 rfl ?_
      refine r_ishl hc dX7_asLane_22 ?_
      refine r_bipush (v := 16) hc dX7_asLane_23 rfl ?_
      refine r_ishr hc dX7_asLane_25 ?_
      refine r_goto hc 30 dX7_asLane_26 (by decide) ?_
      exact r_iret (ls0 := []) hZ dX7_asLane_30 h
    · have h := kif_f h q
      refine r_iload_n hc 1 dX7_asLane_29 rfl ?_
      exact r_iret (ls0 := []) hZ dX7_asLane_30 h
theorem m_X7_asLane {l : Launch} {g : kG} {N : Nat} {σ : kS} {x0 : Int32} {x1 : Int32} {Q : Int32 → kS → Prop} (h : w_X7_asLane N σ x0 x1 Q) : kMi l g yX7_asLane cX7_asLane 2 (some .int) 0 [.int x0, .int x1] σ Q :=
  k_met_i (by decide +kernel) rfl (Nat.le_of_ble_eq_true rfl) (fun X hl hc hZ => s_X7_asLane hc hZ h)
def w_X7_set (N : Nat) (σ : kS) (x1 : Int32) (x2 : Int32) (x3 : Int32) (Q : Int32 → kS → Prop) : Prop :=
  w_X7_isRow N σ x1 (fun (r_2 : Int32) (σ_1 : kS) => if r_2 = 0 then (Q (-1000001) σ_1) else (vp_in x1 8 ∧ (if 0 ≤ (σ_1 57 x1.toNatClampNeg) then (vp_in x1 8 ∧ (w_X7_in N σ_1 (x2.toInt64) 0 (((σ_1 57 x1.toNatClampNeg) - 1).toInt64) (fun (r_6 : Int32) (σ_5 : kS) => if r_6 = 0 then (w_X7_find N σ_5 2 (fun (r_8 : Int32) (σ_7 : kS) => Q r_8 σ_7)) else (vp_in x1 8 ∧ (w_X7_asLane N σ_5 (σ_5 56 x1.toNatClampNeg) x3 (fun (r_11 : Int32) (σ_10 : kS) => vp_in ((40 * x1) + x2) 320 ∧ (∀ σ_13 : kS, σ_13 = st2 σ_10 58 (((40 * x1) + x2).toNatClampNeg) r_11 → (vp_in ((40 * x1) + x2) 320 ∧ (w_X7_well N σ_13 (σ_13 58 ((40 * x1) + x2).toNatClampNeg) (fun (r_16 : Int32) (σ_15 : kS) => Q r_16 σ_15)))))))))) else (w_X7_find N σ_1 1 (fun (r_18 : Int32) (σ_17 : kS) => Q r_18 σ_17)))))
set_option maxHeartbeats 4000000 in
set_option maxRecDepth 100000 in
theorem s_X7_set {X : kX} {g : kG} {N : Nat} {Q : Int32 → kS → Prop} (hc : kOk X g RX7 cX7_set 4 (some .int) 2) (hZ : kRi X g cX7_set Q) {σ : kS} {x1 : Int32} {x2 : Int32} {x3 : Int32} (h : w_X7_set N σ x1 x2 x3 Q) : kP X g 4 0 [(0, kz g 55), (1, .int x1), (2, .int x2), (3, .int x3)] [] σ := by
  unfold w_X7_set at h
  refine r_iload_n hc 1 dX7_set_0 rfl ?_
  refine r_callSi (d := 1) hc (m_X7_isRow h) cw_X7_isRow wt_X7_isRow lm_X7_61 (by decide) (by decide) rfl rfl (Nat.le_of_ble_eq_true rfl) dX7_set_1 (fun r_2 σ_1 h => ?_)
  refine r_if_ne hc 10 dX7_set_4 (by decide) (fun q => ?_) (fun q => ?_)
  · have h := kif_t h q
    refine r_ldc hc lk_X7_67 dX7_set_7 ?_
    exact r_iret (ls0 := []) hZ dX7_set_9 h
  · have h := kif_f h q
    refine r_aload_n hc 0 dX7_set_10 rfl ?_
    refine gf_X7_1 hc lf_X7_13 dX7_set_11 ?_
    refine r_iload_n hc 1 dX7_set_14 rfl ?_
    obtain ⟨hi_3, h⟩ := h
    refine r_iald hc kia_57 hi_3 dX7_set_15 ?_
    refine r_if_ge hc 25 dX7_set_16 (by decide) (fun q => ?_) (fun q => ?_)
    · have h := kif_t h q
      refine r_iload_n hc 2 dX7_set_25 rfl ?_
      refine r_i2l hc dX7_set_26 ?_
      refine r_lconst (v := 0) hc dX7_set_27 rfl ?_
      refine r_aload_n hc 0 dX7_set_28 rfl ?_
      refine gf_X7_1 hc lf_X7_13 dX7_set_29 ?_
      refine r_iload_n hc 1 dX7_set_32 rfl ?_
      obtain ⟨hi_4, h⟩ := h
      refine r_iald hc kia_57 hi_4 dX7_set_33 ?_
      refine r_iconst (v := 1) hc dX7_set_34 rfl ?_
      refine r_isub hc dX7_set_35 ?_
      refine r_i2l hc dX7_set_36 ?_
      refine r_callSi (d := 0) hc (m_X7_in h) cw_X7_in wt_X7_in lm_X7_57 (by decide) (by decide) rfl rfl (Nat.le_of_ble_eq_true rfl) dX7_set_37 (fun r_6 σ_5 h => ?_)
      refine r_if_ne hc 49 dX7_set_40 (by decide) (fun q => ?_) (fun q => ?_)
      · have h := kif_t h q
        refine r_aload_n hc 0 dX7_set_43 rfl ?_
        refine r_iconst (v := 2) hc dX7_set_44 rfl ?_
        refine r_callVi (d := 0) hc (m_X7_find h) cw_X7_find wi_X7_find ws_X7_find lm_X7_68 (by decide) (by decide) rv_X7 rfl rfl (Nat.le_of_ble_eq_true rfl) dX7_set_45 (fun r_8 σ_7 h => ?_)
        exact r_iret (ls0 := []) hZ dX7_set_48 h
      · have h := kif_f h q
        refine r_aload_n hc 0 dX7_set_49 rfl ?_
        refine gf_X7_2 hc lf_X7_16 dX7_set_50 ?_
        refine r_bipush (v := 40) hc dX7_set_53 rfl ?_
        refine r_iload_n hc 1 dX7_set_55 rfl ?_
        refine r_imul hc dX7_set_56 ?_
        refine r_iload_n hc 2 dX7_set_57 rfl ?_
        refine r_iadd hc dX7_set_58 ?_
        refine r_aload_n hc 0 dX7_set_59 rfl ?_
        refine gf_X7_0 hc lf_X7_7 dX7_set_60 ?_
        refine r_iload_n hc 1 dX7_set_63 rfl ?_
        obtain ⟨hi_9, h⟩ := h
        refine r_iald hc kia_56 hi_9 dX7_set_64 ?_
        refine r_iload_n hc 3 dX7_set_65 rfl ?_
        refine r_callSi (d := 0) hc (m_X7_asLane h) cw_X7_asLane wt_X7_asLane lm_X7_75 (by decide) (by decide) rfl rfl (Nat.le_of_ble_eq_true rfl) dX7_set_66 (fun r_11 σ_10 h => ?_)
        obtain ⟨hi_12, h⟩ := h
        refine r_iast hc kia_58 hi_12 dX7_set_69 ?_
        refine r_nmS (fun σ_13 eσ_13 => ?_)
        have h := h σ_13 eσ_13
        refine r_aload_n hc 0 dX7_set_70 rfl ?_
        refine r_aload_n hc 0 dX7_set_71 rfl ?_
        refine gf_X7_2 hc lf_X7_16 dX7_set_72 ?_
        refine r_bipush (v := 40) hc dX7_set_75 rfl ?_
        refine r_iload_n hc 1 dX7_set_77 rfl ?_
        refine r_imul hc dX7_set_78 ?_
        refine r_iload_n hc 2 dX7_set_79 rfl ?_
        refine r_iadd hc dX7_set_80 ?_
        obtain ⟨hi_14, h⟩ := h
        refine r_iald hc kia_58 hi_14 dX7_set_81 ?_
        refine r_callVi (d := 0) hc (m_X7_well h) cw_X7_well wi_X7_well ws_X7_well lm_X7_72 (by decide) (by decide) rv_X7 rfl rfl (Nat.le_of_ble_eq_true rfl) dX7_set_82 (fun r_16 σ_15 h => ?_)
        exact r_iret (ls0 := []) hZ dX7_set_85 h
    · have h := kif_f h q
      refine r_aload_n hc 0 dX7_set_19 rfl ?_
      refine r_iconst (v := 1) hc dX7_set_20 rfl ?_
      refine r_callVi (d := 0) hc (m_X7_find h) cw_X7_find wi_X7_find ws_X7_find lm_X7_68 (by decide) (by decide) rv_X7 rfl rfl (Nat.le_of_ble_eq_true rfl) dX7_set_21 (fun r_18 σ_17 h => ?_)
      exact r_iret (ls0 := []) hZ dX7_set_24 h
theorem m_X7_set {l : Launch} {g : kG} {N : Nat} {σ : kS} {x1 : Int32} {x2 : Int32} {x3 : Int32} {Q : Int32 → kS → Prop} (h : w_X7_set N σ x1 x2 x3 Q) : kMi l g yX7_set cX7_set 4 (some .int) 2 [kz g 55, .int x1, .int x2, .int x3] σ Q :=
  k_met_i (by decide +kernel) rfl (Nat.le_of_ble_eq_true rfl) (fun X hl hc hZ => s_X7_set hc hZ h)
def b_X7_copy_117 (N : Nat) (Q : Int32 → kS → Prop) (x1 : Int32) (x2 : Int32) (x3 : Int32) (x4 : Int32) (x5 : Int32) (E151 : kS → Prop) (K : Int32 → kS → Prop) (x6 : Int32) (σ : kS) : Prop :=
  if x5 ≤ x6 then (E151 σ) else (vp_in (((40 * x1) + x2) + x6) 320 ∧ (vp_in x6 40 ∧ (∀ σ_25 : kS, σ_25 = st2 σ 60 (x6.toNatClampNeg) (σ 58 (((40 * x1) + x2) + x6).toNatClampNeg) → (∀ x6_26 : Int32, x6_26 = x6 + 1 → (K x6_26 σ_25)))))
def l_X7_copy_117 (N : Nat) (Q : Int32 → kS → Prop) (x1 : Int32) (x2 : Int32) (x3 : Int32) (x4 : Int32) (x5 : Int32) (E151 : kS → Prop) : Nat → Int32 → kS → Prop
  | 0 => fun _ _ => False
  | n + 1 => b_X7_copy_117 N Q x1 x2 x3 x4 x5 E151 (l_X7_copy_117 N Q x1 x2 x3 x4 x5 E151 n)
set_option maxHeartbeats 4000000 in
set_option maxRecDepth 100000 in
theorem sb_X7_copy_117 {X : kX} {g : kG} {N : Nat} {Q : Int32 → kS → Prop} (hc : kOk X g RX7 cX7_copy 7 (some .int) 2) (hZ : kRi X g cX7_copy Q) {x1 : Int32} {x2 : Int32} {x3 : Int32} {x4 : Int32} {x5 : Int32} {E151 : kS → Prop} (hE151 : ∀ (τ : kS), E151 τ → kP X g 7 151 [(0, kz g 55), (3, .int x3), (4, .int x4), (5, .int x5)] [] τ) {K : Int32 → kS → Prop} (hK : ∀ (x6 : Int32) (τ : kS), K x6 τ → kP X g 7 117 [(0, kz g 55), (1, .int x1), (2, .int x2), (3, .int x3), (4, .int x4), (5, .int x5), (6, .int x6)] [] τ) {x6 : Int32} {σ : kS} (h : b_X7_copy_117 N Q x1 x2 x3 x4 x5 E151 K x6 σ) : kP X g 7 117 [(0, kz g 55), (1, .int x1), (2, .int x2), (3, .int x3), (4, .int x4), (5, .int x5), (6, .int x6)] [] σ := by
  unfold b_X7_copy_117 at h
  refine r_iload hc 6 dX7_copy_117 rfl ?_
  refine r_iload hc 5 dX7_copy_119 rfl ?_
  refine r_ic_ge hc 151 dX7_copy_121 (by decide) (fun q => ?_) (fun q => ?_)
  · have h := kif_t h q
    refine r_sub [0, 3, 4, 5] rfl ?_
    exact hE151 _ h
  · have h := kif_f h q
    refine r_aload_n hc 0 dX7_copy_124 rfl ?_
    refine gf_X7_6 hc lf_X7_22 dX7_copy_125 ?_
    refine r_iload hc 6 dX7_copy_128 rfl ?_
    refine r_aload_n hc 0 dX7_copy_130 rfl ?_
    refine gf_X7_2 hc lf_X7_16 dX7_copy_131 ?_
    refine r_bipush (v := 40) hc dX7_copy_134 rfl ?_
    refine r_iload_n hc 1 dX7_copy_136 rfl ?_
    refine r_imul hc dX7_copy_137 ?_
    refine r_iload_n hc 2 dX7_copy_138 rfl ?_
    refine r_iadd hc dX7_copy_139 ?_
    refine r_iload hc 6 dX7_copy_140 rfl ?_
    refine r_iadd hc dX7_copy_142 ?_
    obtain ⟨hi_23, h⟩ := h
    refine r_iald hc kia_58 hi_23 dX7_copy_143 ?_
    obtain ⟨hi_24, h⟩ := h
    refine r_iast hc kia_60 hi_24 dX7_copy_144 ?_
    refine r_nmS (fun σ_25 eσ_25 => ?_)
    have h := h σ_25 eσ_25
    obtain ⟨x6_26, ex6_26⟩ : ∃ v : Int32, v = x6 + 1 := ⟨_, rfl⟩
    have h := h x6_26 ex6_26
    refine r_iinc (v := x6_26) hc 6 [(6, .int x6_26), (0, kz g 55), (1, .int x1), (2, .int x2), (3, .int x3), (4, .int x4), (5, .int x5)] dX7_copy_145 rfl (by rw [ex6_26]; rfl) (by decide) rfl ?_
    refine r_goto hc 117 dX7_copy_148 (by decide) ?_
    refine r_sub [1, 2, 3, 4, 5, 6, 0] rfl ?_
    exact hK _ _ h
theorem sl_X7_copy_117 {X : kX} {g : kG} {N : Nat} {Q : Int32 → kS → Prop} (hc : kOk X g RX7 cX7_copy 7 (some .int) 2) (hZ : kRi X g cX7_copy Q) {x1 : Int32} {x2 : Int32} {x3 : Int32} {x4 : Int32} {x5 : Int32} {E151 : kS → Prop} (hE151 : ∀ (τ : kS), E151 τ → kP X g 7 151 [(0, kz g 55), (3, .int x3), (4, .int x4), (5, .int x5)] [] τ) : ∀ (n : Nat) (x6 : Int32) (σ : kS), l_X7_copy_117 N Q x1 x2 x3 x4 x5 E151 n x6 σ → kP X g 7 117 [(0, kz g 55), (1, .int x1), (2, .int x2), (3, .int x3), (4, .int x4), (5, .int x5), (6, .int x6)] [] σ := by
  intro n
  induction n with
  | zero => intro x6 σ h; exact h.elim
  | succ n ih => intro x6 σ h; exact sb_X7_copy_117 hc hZ hE151 ih h
def b_X7_copy_154 (N : Nat) (Q : Int32 → kS → Prop) (x3 : Int32) (x4 : Int32) (x5 : Int32) (E189 : kS → Prop) (K : Int32 → kS → Prop) (x6 : Int32) (σ : kS) : Prop :=
  if x5 ≤ x6 then (E189 σ) else (vp_in x6 40 ∧ (vp_in (((40 * x3) + x4) + x6) 320 ∧ (∀ σ_30 : kS, σ_30 = st2 σ 58 ((((40 * x3) + x4) + x6).toNatClampNeg) (σ 60 x6.toNatClampNeg) → (∀ x6_31 : Int32, x6_31 = x6 + 1 → (K x6_31 σ_30)))))
def l_X7_copy_154 (N : Nat) (Q : Int32 → kS → Prop) (x3 : Int32) (x4 : Int32) (x5 : Int32) (E189 : kS → Prop) : Nat → Int32 → kS → Prop
  | 0 => fun _ _ => False
  | n + 1 => b_X7_copy_154 N Q x3 x4 x5 E189 (l_X7_copy_154 N Q x3 x4 x5 E189 n)
set_option maxHeartbeats 4000000 in
set_option maxRecDepth 100000 in
theorem sb_X7_copy_154 {X : kX} {g : kG} {N : Nat} {Q : Int32 → kS → Prop} (hc : kOk X g RX7 cX7_copy 7 (some .int) 2) (hZ : kRi X g cX7_copy Q) {x3 : Int32} {x4 : Int32} {x5 : Int32} {E189 : kS → Prop} (hE189 : ∀ (τ : kS), E189 τ → kP X g 7 189 [(0, kz g 55), (5, .int x5)] [] τ) {K : Int32 → kS → Prop} (hK : ∀ (x6 : Int32) (τ : kS), K x6 τ → kP X g 7 154 [(0, kz g 55), (3, .int x3), (4, .int x4), (5, .int x5), (6, .int x6)] [] τ) {x6 : Int32} {σ : kS} (h : b_X7_copy_154 N Q x3 x4 x5 E189 K x6 σ) : kP X g 7 154 [(0, kz g 55), (3, .int x3), (4, .int x4), (5, .int x5), (6, .int x6)] [] σ := by
  unfold b_X7_copy_154 at h
  refine r_iload hc 4 dX7_copy_154 rfl ?_
  refine r_iload hc 3 dX7_copy_156 rfl ?_
  refine r_ic_ge hc 189 dX7_copy_158 (by decide) (fun q => ?_) (fun q => ?_)
  · have h := kif_t h q
    refine r_sub [0, 3] rfl ?_
    exact hE189 _ h
  · have h := kif_f h q
    refine r_aload_n hc 0 dX7_copy_161 rfl ?_
    refine gf_X7_2 hc lf_X7_16 dX7_copy_162 ?_
    refine r_bipush (v := 40) hc dX7_copy_165 rfl ?_
    refine r_iload_n hc 1 dX7_copy_167 rfl ?_
    refine r_imul hc dX7_copy_168 ?_
    refine r_iload hc 2 dX7_copy_169 rfl ?_
    refine r_iadd hc dX7_copy_171 ?_
    refine r_iload hc 4 dX7_copy_172 rfl ?_
    refine r_iadd hc dX7_copy_174 ?_
    refine r_aload_n hc 0 dX7_copy_175 rfl ?_
    refine gf_X7_6 hc lf_X7_22 dX7_copy_176 ?_
    refine r_iload hc 4 dX7_copy_179 rfl ?_
    obtain ⟨hi_28, h⟩ := h
    refine r_iald hc kia_60 hi_28 dX7_copy_181 ?_
    obtain ⟨hi_29, h⟩ := h
    refine r_iast hc kia_58 hi_29 dX7_copy_182 ?_
    refine r_nmS (fun σ_30 eσ_30 => ?_)
    have h := h σ_30 eσ_30
    obtain ⟨x6_31, ex6_31⟩ : ∃ v : Int32, v = x6 + 1 := ⟨_, rfl⟩
    have h := h x6_31 ex6_31
    refine r_iinc (v := x6_31) hc 4 [(6, .int x6_31), (0, kz g 55), (3, .int x3), (4, .int x4), (5, .int x5)] dX7_copy_183 rfl (by rw [ex6_31]; rfl) (by decide) rfl ?_
    refine r_goto hc 154 dX7_copy_186 (by decide) ?_
    refine r_sub [1, 2, 3, 4, 0] rfl ?_
    exact hK _ _ h
theorem sl_X7_copy_154 {X : kX} {g : kG} {N : Nat} {Q : Int32 → kS → Prop} (hc : kOk X g RX7 cX7_copy 7 (some .int) 2) (hZ : kRi X g cX7_copy Q) {x3 : Int32} {x4 : Int32} {x5 : Int32} {E189 : kS → Prop} (hE189 : ∀ (τ : kS), E189 τ → kP X g 7 189 [(0, kz g 55), (5, .int x5)] [] τ) : ∀ (n : Nat) (x6 : Int32) (σ : kS), l_X7_copy_154 N Q x3 x4 x5 E189 n x6 σ → kP X g 7 154 [(0, kz g 55), (3, .int x3), (4, .int x4), (5, .int x5), (6, .int x6)] [] σ := by
  intro n
  induction n with
  | zero => intro x6 σ h; exact h.elim
  | succ n ih => intro x6 σ h; exact sb_X7_copy_154 hc hZ hE189 ih h
def w_X7_copy (N : Nat) (σ : kS) (x1 : Int32) (x2 : Int32) (x3 : Int32) (x4 : Int32) (x5 : Int32) (Q : Int32 → kS → Prop) : Prop :=
  w_X7_isRow N σ x1 (fun (r_2 : Int32) (σ_1 : kS) => if r_2 = 0 then (Q (-1000001) σ_1) else (w_X7_isRow N σ_1 x3 (fun (r_4 : Int32) (σ_3 : kS) => if r_4 = 0 then (Q (-1000001) σ_3) else (vp_in x1 8 ∧ (if (σ_3 57 x1.toNatClampNeg) < 0 then (w_X7_find N σ_3 1 (fun (r_7 : Int32) (σ_6 : kS) => Q r_7 σ_6)) else (vp_in x3 8 ∧ (if 0 ≤ (σ_3 57 x3.toNatClampNeg) then (vp_in x1 8 ∧ (vp_in x3 8 ∧ (if (σ_3 56 x1.toNatClampNeg) = (σ_3 56 x3.toNatClampNeg) then (if x5 < 0 then (w_X7_find N σ_3 2 (fun (r_12 : Int32) (σ_11 : kS) => Q r_12 σ_11)) else (vp_in x1 8 ∧ (w_X7_in N σ_3 (x2.toInt64) 0 (((σ_3 57 x1.toNatClampNeg).toInt64) - (x5.toInt64)) (fun (r_15 : Int32) (σ_14 : kS) => if r_15 = 0 then (w_X7_find N σ_14 2 (fun (r_17 : Int32) (σ_16 : kS) => Q r_17 σ_16)) else (vp_in x3 8 ∧ (w_X7_in N σ_14 (x4.toInt64) 0 (((σ_14 57 x3.toNatClampNeg).toInt64) - (x5.toInt64)) (fun (r_20 : Int32) (σ_19 : kS) => if r_20 = 0 then (w_X7_find N σ_19 2 (fun (r_22 : Int32) (σ_21 : kS) => Q r_22 σ_21)) else (l_X7_copy_117 N Q x1 x2 x3 x4 x5 (fun (σ_27 : kS) => l_X7_copy_154 N Q x3 x4 x5 (fun (σ_32 : kS) => w_X7_well N σ_32 x5 (fun (r_34 : Int32) (σ_33 : kS) => Q r_34 σ_33)) N 0 σ_27) N 0 σ_19)))))))) else (w_X7_find N σ_3 5 (fun (r_36 : Int32) (σ_35 : kS) => Q r_36 σ_35))))) else (w_X7_find N σ_3 1 (fun (r_38 : Int32) (σ_37 : kS) => Q r_38 σ_37)))))))))
set_option maxHeartbeats 4000000 in
set_option maxRecDepth 100000 in
theorem s_X7_copy {X : kX} {g : kG} {N : Nat} {Q : Int32 → kS → Prop} (hc : kOk X g RX7 cX7_copy 7 (some .int) 2) (hZ : kRi X g cX7_copy Q) {σ : kS} {x1 : Int32} {x2 : Int32} {x3 : Int32} {x4 : Int32} {x5 : Int32} (h : w_X7_copy N σ x1 x2 x3 x4 x5 Q) : kP X g 7 0 [(0, kz g 55), (1, .int x1), (2, .int x2), (3, .int x3), (4, .int x4), (5, .int x5)] [] σ := by
  unfold w_X7_copy at h
  refine r_iload_n hc 1 dX7_copy_0 rfl ?_
  refine r_callSi (d := 1) hc (m_X7_isRow h) cw_X7_isRow wt_X7_isRow lm_X7_61 (by decide) (by decide) rfl rfl (Nat.le_of_ble_eq_true rfl) dX7_copy_1 (fun r_2 σ_1 h => ?_)
  refine r_if_eq hc 14 dX7_copy_4 (by decide) (fun q => ?_) (fun q => ?_)
  · have h := kif_t h q
    refine r_ldc hc lk_X7_67 dX7_copy_14 ?_
    exact r_iret (ls0 := []) hZ dX7_copy_16 h
  · have h := kif_f h q
    refine r_iload_n hc 3 dX7_copy_7 rfl ?_
    refine r_callSi (d := 1) hc (m_X7_isRow h) cw_X7_isRow wt_X7_isRow lm_X7_61 (by decide) (by decide) rfl rfl (Nat.le_of_ble_eq_true rfl) dX7_copy_8 (fun r_4 σ_3 h => ?_)
    refine r_if_ne hc 17 dX7_copy_11 (by decide) (fun q => ?_) (fun q => ?_)
    · have h := kif_t h q
      refine r_ldc hc lk_X7_67 dX7_copy_14 ?_
      exact r_iret (ls0 := []) hZ dX7_copy_16 h
    · have h := kif_f h q
      refine r_aload_n hc 0 dX7_copy_17 rfl ?_
      refine gf_X7_1 hc lf_X7_13 dX7_copy_18 ?_
      refine r_iload_n hc 1 dX7_copy_21 rfl ?_
      obtain ⟨hi_5, h⟩ := h
      refine r_iald hc kia_57 hi_5 dX7_copy_22 ?_
      refine r_if_lt hc 35 dX7_copy_23 (by decide) (fun q => ?_) (fun q => ?_)
      · have h := kif_t h q
        refine r_aload_n hc 0 dX7_copy_35 rfl ?_
        refine r_iconst (v := 1) hc dX7_copy_36 rfl ?_
        refine r_callVi (d := 0) hc (m_X7_find h) cw_X7_find wi_X7_find ws_X7_find lm_X7_68 (by decide) (by decide) rv_X7 rfl rfl (Nat.le_of_ble_eq_true rfl) dX7_copy_37 (fun r_7 σ_6 h => ?_)
        exact r_iret (ls0 := []) hZ dX7_copy_40 h
      · have h := kif_f h q
        refine r_aload_n hc 0 dX7_copy_26 rfl ?_
        refine gf_X7_1 hc lf_X7_13 dX7_copy_27 ?_
        refine r_iload_n hc 3 dX7_copy_30 rfl ?_
        obtain ⟨hi_8, h⟩ := h
        refine r_iald hc kia_57 hi_8 dX7_copy_31 ?_
        refine r_if_ge hc 41 dX7_copy_32 (by decide) (fun q => ?_) (fun q => ?_)
        · have h := kif_t h q
          refine r_aload_n hc 0 dX7_copy_41 rfl ?_
          refine gf_X7_0 hc lf_X7_7 dX7_copy_42 ?_
          refine r_iload_n hc 1 dX7_copy_45 rfl ?_
          obtain ⟨hi_9, h⟩ := h
          refine r_iald hc kia_56 hi_9 dX7_copy_46 ?_
          refine r_aload_n hc 0 dX7_copy_47 rfl ?_
          refine gf_X7_0 hc lf_X7_7 dX7_copy_48 ?_
          refine r_iload_n hc 3 dX7_copy_51 rfl ?_
          obtain ⟨hi_10, h⟩ := h
          refine r_iald hc kia_56 hi_10 dX7_copy_52 ?_
          refine r_ic_eq hc 62 dX7_copy_53 (by decide) (fun q => ?_) (fun q => ?_)
          · have h := kif_t h q
            refine r_iload hc 5 dX7_copy_62 rfl ?_
            refine r_if_lt hc 108 dX7_copy_64 (by decide) (fun q => ?_) (fun q => ?_)
            · have h := kif_t h q
              refine r_aload_n hc 0 dX7_copy_108 rfl ?_
              refine r_iconst (v := 2) hc dX7_copy_109 rfl ?_
              refine r_callVi (d := 0) hc (m_X7_find h) cw_X7_find wi_X7_find ws_X7_find lm_X7_68 (by decide) (by decide) rv_X7 rfl rfl (Nat.le_of_ble_eq_true rfl) dX7_copy_110 (fun r_12 σ_11 h => ?_)
              exact r_iret (ls0 := []) hZ dX7_copy_113 h
            · have h := kif_f h q
              refine r_iload_n hc 2 dX7_copy_67 rfl ?_
              refine r_i2l hc dX7_copy_68 ?_
              refine r_lconst (v := 0) hc dX7_copy_69 rfl ?_
              refine r_aload_n hc 0 dX7_copy_70 rfl ?_
              refine gf_X7_1 hc lf_X7_13 dX7_copy_71 ?_
              refine r_iload_n hc 1 dX7_copy_74 rfl ?_
              obtain ⟨hi_13, h⟩ := h
              refine r_iald hc kia_57 hi_13 dX7_copy_75 ?_
              refine r_i2l hc dX7_copy_76 ?_
              refine r_iload hc 5 dX7_copy_77 rfl ?_
              refine r_i2l hc dX7_copy_79 ?_
              refine r_lsub hc dX7_copy_80 ?_
              refine r_callSi (d := 0) hc (m_X7_in h) cw_X7_in wt_X7_in lm_X7_57 (by decide) (by decide) rfl rfl (Nat.le_of_ble_eq_true rfl) dX7_copy_81 (fun r_15 σ_14 h => ?_)
              refine r_if_eq hc 108 dX7_copy_84 (by decide) (fun q => ?_) (fun q => ?_)
              · have h := kif_t h q
                refine r_aload_n hc 0 dX7_copy_108 rfl ?_
                refine r_iconst (v := 2) hc dX7_copy_109 rfl ?_
                refine r_callVi (d := 0) hc (m_X7_find h) cw_X7_find wi_X7_find ws_X7_find lm_X7_68 (by decide) (by decide) rv_X7 rfl rfl (Nat.le_of_ble_eq_true rfl) dX7_copy_110 (fun r_17 σ_16 h => ?_)
                exact r_iret (ls0 := []) hZ dX7_copy_113 h
              · have h := kif_f h q
                refine r_iload hc 4 dX7_copy_87 rfl ?_
                refine r_i2l hc dX7_copy_89 ?_
                refine r_lconst (v := 0) hc dX7_copy_90 rfl ?_
                refine r_aload_n hc 0 dX7_copy_91 rfl ?_
                refine gf_X7_1 hc lf_X7_13 dX7_copy_92 ?_
                refine r_iload_n hc 3 dX7_copy_95 rfl ?_
                obtain ⟨hi_18, h⟩ := h
                refine r_iald hc kia_57 hi_18 dX7_copy_96 ?_
                refine r_i2l hc dX7_copy_97 ?_
                refine r_iload hc 5 dX7_copy_98 rfl ?_
                refine r_i2l hc dX7_copy_100 ?_
                refine r_lsub hc dX7_copy_101 ?_
                refine r_callSi (d := 0) hc (m_X7_in h) cw_X7_in wt_X7_in lm_X7_57 (by decide) (by decide) rfl rfl (Nat.le_of_ble_eq_true rfl) dX7_copy_102 (fun r_20 σ_19 h => ?_)
                refine r_if_ne hc 114 dX7_copy_105 (by decide) (fun q => ?_) (fun q => ?_)
                · have h := kif_t h q
                  refine r_aload_n hc 0 dX7_copy_108 rfl ?_
                  refine r_iconst (v := 2) hc dX7_copy_109 rfl ?_
                  refine r_callVi (d := 0) hc (m_X7_find h) cw_X7_find wi_X7_find ws_X7_find lm_X7_68 (by decide) (by decide) rv_X7 rfl rfl (Nat.le_of_ble_eq_true rfl) dX7_copy_110 (fun r_22 σ_21 h => ?_)
                  exact r_iret (ls0 := []) hZ dX7_copy_113 h
                · have h := kif_f h q
                  refine r_iconst (v := 0) hc dX7_copy_114 rfl ?_
                  refine r_istore hc [(6, .int 0), (0, kz g 55), (1, .int x1), (2, .int x2), (3, .int x3), (4, .int x4), (5, .int x5)] dX7_copy_115 (by decide) rfl ?_
                  refine r_sub [1, 2, 3, 4, 5, 6, 0] rfl ?_
                  refine sl_X7_copy_117 hc hZ (fun σ_27 h => ?_) _ _ _ h
                  refine r_iconst (v := 0) hc dX7_copy_151 rfl ?_
                  refine r_istore hc [(6, .int 0), (0, kz g 55), (3, .int x3), (4, .int x4), (5, .int x5)] dX7_copy_152 (by decide) rfl ?_
                  refine r_sub [1, 2, 3, 4, 0] rfl ?_
                  refine sl_X7_copy_154 hc hZ (fun σ_32 h => ?_) _ _ _ h
                  refine r_aload_n hc 0 dX7_copy_189 rfl ?_
                  refine r_iload hc 1 dX7_copy_190 rfl ?_
                  refine r_callVi (d := 0) hc (m_X7_well h) cw_X7_well wi_X7_well ws_X7_well lm_X7_72 (by decide) (by decide) rv_X7 rfl rfl (Nat.le_of_ble_eq_true rfl) dX7_copy_192 (fun r_34 σ_33 h => ?_)
                  exact r_iret (ls0 := []) hZ dX7_copy_195 h
          · have h := kif_f h q
            refine r_aload_n hc 0 dX7_copy_56 rfl ?_
            refine r_iconst (v := 5) hc dX7_copy_57 rfl ?_
            refine r_callVi (d := 0) hc (m_X7_find h) cw_X7_find wi_X7_find ws_X7_find lm_X7_68 (by decide) (by decide) rv_X7 rfl rfl (Nat.le_of_ble_eq_true rfl) dX7_copy_58 (fun r_36 σ_35 h => ?_)
            exact r_iret (ls0 := []) hZ dX7_copy_61 h
        · have h := kif_f h q
          refine r_aload_n hc 0 dX7_copy_35 rfl ?_
          refine r_iconst (v := 1) hc dX7_copy_36 rfl ?_
          refine r_callVi (d := 0) hc (m_X7_find h) cw_X7_find wi_X7_find ws_X7_find lm_X7_68 (by decide) (by decide) rv_X7 rfl rfl (Nat.le_of_ble_eq_true rfl) dX7_copy_37 (fun r_38 σ_37 h => ?_)
          exact r_iret (ls0 := []) hZ dX7_copy_40 h
theorem m_X7_copy {l : Launch} {g : kG} {N : Nat} {σ : kS} {x1 : Int32} {x2 : Int32} {x3 : Int32} {x4 : Int32} {x5 : Int32} {Q : Int32 → kS → Prop} (h : w_X7_copy N σ x1 x2 x3 x4 x5 Q) : kMi l g yX7_copy cX7_copy 7 (some .int) 2 [kz g 55, .int x1, .int x2, .int x3, .int x4, .int x5] σ Q :=
  k_met_i (by decide +kernel) rfl (Nat.le_of_ble_eq_true rfl) (fun X hl hc hZ => s_X7_copy hc hZ h)
def w_X7_drop (N : Nat) (σ : kS) (x1 : Int32) (Q : Int32 → kS → Prop) : Prop :=
  w_X7_isRow N σ x1 (fun (r_2 : Int32) (σ_1 : kS) => if r_2 = 0 then (Q (-1000001) σ_1) else (vp_in x1 8 ∧ (if 0 ≤ (σ_1 57 x1.toNatClampNeg) then (vp_in x1 8 ∧ (∀ x2_5 : Int32, x2_5 = σ_1 57 x1.toNatClampNeg → (vp_in x1 8 ∧ (∀ σ_7 : kS, σ_7 = st2 σ_1 57 (x1.toNatClampNeg) (-1) → (w_X7_well N σ_7 x2_5 (fun (r_9 : Int32) (σ_8 : kS) => Q r_9 σ_8)))))) else (w_X7_find N σ_1 1 (fun (r_11 : Int32) (σ_10 : kS) => Q r_11 σ_10)))))
set_option maxHeartbeats 4000000 in
set_option maxRecDepth 100000 in
theorem s_X7_drop {X : kX} {g : kG} {N : Nat} {Q : Int32 → kS → Prop} (hc : kOk X g RX7 cX7_drop 3 (some .int) 2) (hZ : kRi X g cX7_drop Q) {σ : kS} {x1 : Int32} (h : w_X7_drop N σ x1 Q) : kP X g 3 0 [(0, kz g 55), (1, .int x1)] [] σ := by
  unfold w_X7_drop at h
  refine r_iload_n hc 1 dX7_drop_0 rfl ?_
  refine r_callSi (d := 1) hc (m_X7_isRow h) cw_X7_isRow wt_X7_isRow lm_X7_61 (by decide) (by decide) rfl rfl (Nat.le_of_ble_eq_true rfl) dX7_drop_1 (fun r_2 σ_1 h => ?_)
  refine r_if_ne hc 10 dX7_drop_4 (by decide) (fun q => ?_) (fun q => ?_)
  · have h := kif_t h q
    refine r_ldc hc lk_X7_67 dX7_drop_7 ?_
    exact r_iret (ls0 := []) hZ dX7_drop_9 h
  · have h := kif_f h q
    refine r_aload_n hc 0 dX7_drop_10 rfl ?_
    refine gf_X7_1 hc lf_X7_13 dX7_drop_11 ?_
    refine r_iload_n hc 1 dX7_drop_14 rfl ?_
    obtain ⟨hi_3, h⟩ := h
    refine r_iald hc kia_57 hi_3 dX7_drop_15 ?_
    refine r_if_ge hc 25 dX7_drop_16 (by decide) (fun q => ?_) (fun q => ?_)
    · have h := kif_t h q
      refine r_aload_n hc 0 dX7_drop_25 rfl ?_
      refine gf_X7_1 hc lf_X7_13 dX7_drop_26 ?_
      refine r_iload_n hc 1 dX7_drop_29 rfl ?_
      obtain ⟨hi_4, h⟩ := h
      refine r_iald hc kia_57 hi_4 dX7_drop_30 ?_
      refine r_nmI (fun x2_5 ex2_5 => ?_)
      have h := h x2_5 ex2_5
      refine r_istore_n hc [(2, .int x2_5), (0, kz g 55), (1, .int x1)] dX7_drop_31 (by decide) rfl ?_
      refine r_aload_n hc 1 dX7_drop_32 rfl ?_
      refine gf_X7_1 hc lf_X7_13 dX7_drop_33 ?_
      refine r_iload_n hc 2 dX7_drop_36 rfl ?_
      refine r_iconst (v := (-1)) hc dX7_drop_37 rfl ?_
      obtain ⟨hi_6, h⟩ := h
      refine r_iast hc kia_57 hi_6 dX7_drop_38 ?_
      refine r_nmS (fun σ_7 eσ_7 => ?_)
      have h := h σ_7 eσ_7
      refine r_aload_n hc 1 dX7_drop_39 rfl ?_
      refine r_iload_n hc 0 dX7_drop_40 rfl ?_
      refine r_callVi (d := 0) hc (m_X7_well h) cw_X7_well wi_X7_well ws_X7_well lm_X7_72 (by decide) (by decide) rv_X7 rfl rfl (Nat.le_of_ble_eq_true rfl) dX7_drop_41 (fun r_9 σ_8 h => ?_)
      exact r_iret (ls0 := []) hZ dX7_drop_44 h
    · have h := kif_f h q
      refine r_aload_n hc 0 dX7_drop_19 rfl ?_
      refine r_iconst (v := 1) hc dX7_drop_20 rfl ?_
      refine r_callVi (d := 0) hc (m_X7_find h) cw_X7_find wi_X7_find ws_X7_find lm_X7_68 (by decide) (by decide) rv_X7 rfl rfl (Nat.le_of_ble_eq_true rfl) dX7_drop_21 (fun r_11 σ_10 h => ?_)
      exact r_iret (ls0 := []) hZ dX7_drop_24 h
theorem m_X7_drop {l : Launch} {g : kG} {N : Nat} {σ : kS} {x1 : Int32} {Q : Int32 → kS → Prop} (h : w_X7_drop N σ x1 Q) : kMi l g yX7_drop cX7_drop 3 (some .int) 2 [kz g 55, .int x1] σ Q :=
  k_met_i (by decide +kernel) rfl (Nat.le_of_ble_eq_true rfl) (fun X hl hc hZ => s_X7_drop hc hZ h)
def w_X7_feed (N : Nat) (σ : kS) (x1 : Int32) (Q : Int32 → kS → Prop) : Prop :=
  w_X7_in N σ (x1.toInt64) 0 255 (fun (r_2 : Int32) (σ_1 : kS) => if r_2 = 0 then (Q (-1000001) σ_1) else (if (σ_1 55 8) = 120 then (Q (-1000003) σ_1) else (vp_in (σ_1 55 8) 120 ∧ (∀ σ_4 : kS, σ_4 = st2 σ_1 61 ((σ_1 55 8).toNatClampNeg) x1 → (∀ σ_5 : kS, σ_5 = st2 σ_4 55 8 ((σ_4 55 8) + 1) → (Q (σ_5 55 8) σ_5))))))
set_option maxHeartbeats 4000000 in
set_option maxRecDepth 100000 in
theorem s_X7_feed {X : kX} {g : kG} {N : Nat} {Q : Int32 → kS → Prop} (hc : kOk X g RX7 cX7_feed 2 (some .int) 1) (hZ : kRi X g cX7_feed Q) {σ : kS} {x1 : Int32} (h : w_X7_feed N σ x1 Q) : kP X g 2 0 [(0, kz g 55), (1, .int x1)] [] σ := by
  unfold w_X7_feed at h
  refine r_iload_n hc 1 dX7_feed_0 rfl ?_
  refine r_i2l hc dX7_feed_1 ?_
  refine r_lconst (v := 0) hc dX7_feed_2 rfl ?_
  refine r_ldc2_w hc lK_X7_79 dX7_feed_3 ?_
  refine r_callSi (d := 0) hc (m_X7_in h) cw_X7_in wt_X7_in lm_X7_57 (by decide) (by decide) rfl rfl (Nat.le_of_ble_eq_true rfl) dX7_feed_6 (fun r_2 σ_1 h => ?_)
  refine r_if_ne hc 15 dX7_feed_9 (by decide) (fun q => ?_) (fun q => ?_)
  · have h := kif_t h q
    refine r_ldc hc lk_X7_67 dX7_feed_12 ?_
    exact r_iret (ls0 := []) hZ dX7_feed_14 h
  · have h := kif_f h q
    refine r_aload_n hc 0 dX7_feed_15 rfl ?_
    refine gf_X7_8 hc lf_X7_81 dX7_feed_16 ?_
    refine r_bipush (v := 120) hc dX7_feed_19 rfl ?_
    refine r_ic_ne hc 27 dX7_feed_21 (by decide) (fun q => ?_) (fun q => ?_)
    · have h := kif_t h q
      refine r_ldc hc lk_X7_84 dX7_feed_24 ?_
      exact r_iret (ls0 := []) hZ dX7_feed_26 h
    · have h := kif_f h q
      refine r_aload_n hc 0 dX7_feed_27 rfl ?_
      refine gf_X7_7 hc lf_X7_25 dX7_feed_28 ?_
      refine r_aload_n hc 0 dX7_feed_31 rfl ?_
      refine gf_X7_8 hc lf_X7_81 dX7_feed_32 ?_
      refine r_iload_n hc 1 dX7_feed_35 rfl ?_
      obtain ⟨hi_3, h⟩ := h
      refine r_iast hc kia_61 hi_3 dX7_feed_36 ?_
      refine r_nmS (fun σ_4 eσ_4 => ?_)
      have h := h σ_4 eσ_4
      refine r_aload_n hc 0 dX7_feed_37 rfl ?_
      refine r_dup hc dX7_feed_38 rfl ?_
      refine gf_X7_8 hc lf_X7_81 dX7_feed_39 ?_
      refine r_iconst (v := 1) hc dX7_feed_42 rfl ?_
      refine r_iadd hc dX7_feed_43 ?_
      refine pf_X7_8 hc lf_X7_81 dX7_feed_44 ?_
      refine r_nmS (fun σ_5 eσ_5 => ?_)
      have h := h σ_5 eσ_5
      refine r_aload_n hc 0 dX7_feed_47 rfl ?_
      refine gf_X7_8 hc lf_X7_81 dX7_feed_48 ?_
      exact r_iret (ls0 := []) hZ dX7_feed_51 h
theorem m_X7_feed {l : Launch} {g : kG} {N : Nat} {σ : kS} {x1 : Int32} {Q : Int32 → kS → Prop} (h : w_X7_feed N σ x1 Q) : kMi l g yX7_feed cX7_feed 2 (some .int) 1 [kz g 55, .int x1] σ Q :=
  k_met_i (by decide +kernel) rfl (Nat.le_of_ble_eq_true rfl) (fun X hl hc hZ => s_X7_feed hc hZ h)
def b_X7_nextToken_33 (N : Nat) (Q : kS → Prop) (E119 : kS → Prop) (K : kS → Prop) (σ : kS) : Prop :=
  if (σ 55 8) ≤ (σ 55 10) then (E119 σ) else (vp_in (σ 55 10) 120 ∧ (w_X7_in N σ ((σ 61 (σ 55 10).toNatClampNeg).toInt64) 48 57 (fun (r_6 : Int32) (σ_5 : kS) => if r_6 = 0 then (E119 σ_5) else (if (σ_5 55 12) ≤ 99 then (vp_in (σ_5 55 10) 120 ∧ (∀ σ_8 : kS, σ_8 = st2 σ_5 55 12 (((10 * (σ_5 55 12)) + (σ_5 61 (σ_5 55 10).toNatClampNeg)) - 48) → (∀ σ_9 : kS, σ_9 = st2 σ_8 55 10 ((σ_8 55 10) + 1) → (K σ_9)))) else (∀ σ_10 : kS, σ_10 = st2 σ_5 55 12 (σ_5 55 12) → (∀ σ_11 : kS, σ_11 = st2 σ_10 55 10 ((σ_10 55 10) + 1) → (K σ_11)))))))
def l_X7_nextToken_33 (N : Nat) (Q : kS → Prop) (E119 : kS → Prop) : Nat → kS → Prop
  | 0 => fun _ => False
  | n + 1 => b_X7_nextToken_33 N Q E119 (l_X7_nextToken_33 N Q E119 n)
set_option maxHeartbeats 4000000 in
set_option maxRecDepth 100000 in
theorem sb_X7_nextToken_33 {X : kX} {g : kG} {N : Nat} {Q : kS → Prop} (hc : kOk X g RX7 cX7_nextToken 1 none 1) (hZ : kRw X g cX7_nextToken Q) {E119 : kS → Prop} (hE119 : ∀ (τ : kS), E119 τ → kP X g 1 119 [(0, kz g 55)] [] τ) {K : kS → Prop} (hK : ∀ (τ : kS), K τ → kP X g 1 33 [(0, kz g 55)] [] τ) {σ : kS} (h : b_X7_nextToken_33 N Q E119 K σ) : kP X g 1 33 [(0, kz g 55)] [] σ := by
  unfold b_X7_nextToken_33 at h
  refine r_aload_n hc 0 dX7_nextToken_33 rfl ?_
  refine gf_X7_10 hc lf_X7_85 dX7_nextToken_34 ?_
  refine r_aload_n hc 0 dX7_nextToken_37 rfl ?_
  refine gf_X7_8 hc lf_X7_81 dX7_nextToken_38 ?_
  refine r_ic_ge hc 119 dX7_nextToken_41 (by decide) (fun q => ?_) (fun q => ?_)
  · have h := kif_t h q
    exact hE119 _ h
  · have h := kif_f h q
    refine r_aload_n hc 0 dX7_nextToken_44 rfl ?_
    refine gf_X7_7 hc lf_X7_25 dX7_nextToken_45 ?_
    refine r_aload_n hc 0 dX7_nextToken_48 rfl ?_
    refine gf_X7_10 hc lf_X7_85 dX7_nextToken_49 ?_
    obtain ⟨hi_4, h⟩ := h
    refine r_iald hc kia_61 hi_4 dX7_nextToken_52 ?_
    refine r_i2l hc dX7_nextToken_53 ?_
    refine r_ldc2_w hc lK_X7_97 dX7_nextToken_54 ?_
    refine r_ldc2_w hc lK_X7_99 dX7_nextToken_57 ?_
    refine r_callSi (d := 0) hc (m_X7_in h) cw_X7_in wt_X7_in lm_X7_57 (by decide) (by decide) rfl rfl (Nat.le_of_ble_eq_true rfl) dX7_nextToken_60 (fun r_6 σ_5 h => ?_)
    refine r_if_eq hc 119 dX7_nextToken_63 (by decide) (fun q => ?_) (fun q => ?_)
    · have h := kif_t h q
      exact hE119 _ h
    · have h := kif_f h q
      refine r_aload_n hc 0 dX7_nextToken_66 rfl ?_
      refine r_aload_n hc 0 dX7_nextToken_67 rfl ?_
      refine gf_X7_12 hc lf_X7_94 dX7_nextToken_68 ?_
      refine r_bipush (v := 99) hc dX7_nextToken_71 rfl ?_
      refine r_ic_le hc 83 dX7_nextToken_73 (by decide) (fun q => ?_) (fun q => ?_)
      · have h := kif_t h q
        refine r_bipush (v := 10) hc dX7_nextToken_83 rfl ?_
        refine r_aload_n hc 0 dX7_nextToken_85 rfl ?_
        refine gf_X7_12 hc lf_X7_94 dX7_nextToken_86 ?_
        refine r_imul hc dX7_nextToken_89 ?_
        refine r_aload_n hc 0 dX7_nextToken_90 rfl ?_
        refine gf_X7_7 hc lf_X7_25 dX7_nextToken_91 ?_
        refine r_aload_n hc 0 dX7_nextToken_94 rfl ?_
        refine gf_X7_10 hc lf_X7_85 dX7_nextToken_95 ?_
        obtain ⟨hi_7, h⟩ := h
        refine r_iald hc kia_61 hi_7 dX7_nextToken_98 ?_
        refine r_iadd hc dX7_nextToken_99 ?_
        refine r_bipush (v := 48) hc dX7_nextToken_100 rfl ?_
        refine r_isub hc dX7_nextToken_102 ?_
        refine pf_X7_12 hc lf_X7_94 dX7_nextToken_103 ?_
        refine r_nmS (fun σ_8 eσ_8 => ?_)
        have h := h σ_8 eσ_8
        refine r_aload_n hc 0 dX7_nextToken_106 rfl ?_
        refine r_dup hc dX7_nextToken_107 rfl ?_
        refine gf_X7_10 hc lf_X7_85 dX7_nextToken_108 ?_
        refine r_iconst (v := 1) hc dX7_nextToken_111 rfl ?_
        refine r_iadd hc dX7_nextToken_112 ?_
        refine pf_X7_10 hc lf_X7_85 dX7_nextToken_113 ?_
        refine r_nmS (fun σ_9 eσ_9 => ?_)
        have h := h σ_9 eσ_9
        refine r_goto hc 33 dX7_nextToken_116 (by decide) ?_
        exact hK _ h
      · have h := kif_f h q
        refine r_aload_n hc 0 dX7_nextToken_76 rfl ?_
        refine gf_X7_12 hc lf_X7_94 dX7_nextToken_77 ?_
        refine r_goto hc 103 dX7_nextToken_80 (by decide) ?_
        refine pf_X7_12 hc lf_X7_94 dX7_nextToken_103 ?_
        refine r_nmS (fun σ_10 eσ_10 => ?_)
        have h := h σ_10 eσ_10
        refine r_aload_n hc 0 dX7_nextToken_106 rfl ?_
        refine r_dup hc dX7_nextToken_107 rfl ?_
        refine gf_X7_10 hc lf_X7_85 dX7_nextToken_108 ?_
        refine r_iconst (v := 1) hc dX7_nextToken_111 rfl ?_
        refine r_iadd hc dX7_nextToken_112 ?_
        refine pf_X7_10 hc lf_X7_85 dX7_nextToken_113 ?_
        refine r_nmS (fun σ_11 eσ_11 => ?_)
        have h := h σ_11 eσ_11
        refine r_goto hc 33 dX7_nextToken_116 (by decide) ?_
        exact hK _ h
theorem sl_X7_nextToken_33 {X : kX} {g : kG} {N : Nat} {Q : kS → Prop} (hc : kOk X g RX7 cX7_nextToken 1 none 1) (hZ : kRw X g cX7_nextToken Q) {E119 : kS → Prop} (hE119 : ∀ (τ : kS), E119 τ → kP X g 1 119 [(0, kz g 55)] [] τ) : ∀ (n : Nat) (σ : kS), l_X7_nextToken_33 N Q E119 n σ → kP X g 1 33 [(0, kz g 55)] [] σ := by
  intro n
  induction n with
  | zero => intro σ h; exact h.elim
  | succ n ih => intro σ h; exact sb_X7_nextToken_33 hc hZ hE119 ih h
def j_X7_nextToken_119 (N : Nat) (Q : kS → Prop) (σ : kS) : Prop :=
  if (σ 55 10) ≤ (σ 55 13) then (if (σ 55 11) = 0 then (vp_in (σ 55 10) 120 ∧ (∀ σ_14 : kS, σ_14 = st2 σ 55 12 (σ 61 (σ 55 10).toNatClampNeg) → (w_X7_in N σ_14 ((σ_14 55 12).toInt64) 97 122 (fun (r_16 : Int32) (σ_15 : kS) => if r_16 = 0 then (if (σ_15 55 12) = 44 then (∀ σ_17 : kS, σ_17 = st2 σ_15 55 11 1 → (∀ σ_18 : kS, σ_18 = st2 σ_17 55 10 ((σ_17 55 10) + 1) → (Q σ_18))) else (if (σ_15 55 12) = 59 then (∀ σ_19 : kS, σ_19 = st2 σ_15 55 11 1 → (∀ σ_20 : kS, σ_20 = st2 σ_19 55 10 ((σ_19 55 10) + 1) → (Q σ_20))) else (∀ σ_21 : kS, σ_21 = st2 σ_15 55 11 0 → (∀ σ_22 : kS, σ_22 = st2 σ_21 55 10 ((σ_21 55 10) + 1) → (Q σ_22))))) else (∀ σ_23 : kS, σ_23 = st2 σ_15 55 11 1 → (∀ σ_24 : kS, σ_24 = st2 σ_23 55 10 ((σ_23 55 10) + 1) → (Q σ_24))))))) else (Q σ)) else (if ((σ 55 10) - (σ 55 13)) ≤ 2 then (∀ σ_25 : kS, σ_25 = st2 σ 55 11 2 → (Q σ_25)) else (∀ σ_26 : kS, σ_26 = st2 σ 55 11 0 → (Q σ_26)))
set_option maxHeartbeats 4000000 in
set_option maxRecDepth 100000 in
theorem sj_X7_nextToken_119 {X : kX} {g : kG} {N : Nat} {Q : kS → Prop} (hc : kOk X g RX7 cX7_nextToken 1 none 1) (hZ : kRw X g cX7_nextToken Q) {σ : kS} (h : j_X7_nextToken_119 N Q σ) : kP X g 1 119 [(0, kz g 55)] [] σ := by
  unfold j_X7_nextToken_119 at h
  refine r_aload_n hc 0 dX7_nextToken_119 rfl ?_
  refine gf_X7_10 hc lf_X7_85 dX7_nextToken_120 ?_
  refine r_aload_n hc 0 dX7_nextToken_123 rfl ?_
  refine gf_X7_13 hc lf_X7_88 dX7_nextToken_124 ?_
  refine r_ic_le hc 155 dX7_nextToken_127 (by decide) (fun q => ?_) (fun q => ?_)
  · have h := kif_t h q
    refine r_aload_n hc 0 dX7_nextToken_155 rfl ?_
    refine gf_X7_11 hc lf_X7_91 dX7_nextToken_156 ?_
    refine r_if_ne hc 229 dX7_nextToken_159 (by decide) (fun q => ?_) (fun q => ?_)
    · have h := kif_t h q
      refine r_aload_n hc 0 dX7_nextToken_162 rfl ?_
      refine r_aload_n hc 0 dX7_nextToken_163 rfl ?_
      refine gf_X7_7 hc lf_X7_25 dX7_nextToken_164 ?_
      refine r_aload_n hc 0 dX7_nextToken_167 rfl ?_
      refine gf_X7_10 hc lf_X7_85 dX7_nextToken_168 ?_
      obtain ⟨hi_13, h⟩ := h
      refine r_iald hc kia_61 hi_13 dX7_nextToken_171 ?_
      refine pf_X7_12 hc lf_X7_94 dX7_nextToken_172 ?_
      refine r_nmS (fun σ_14 eσ_14 => ?_)
      have h := h σ_14 eσ_14
      refine r_aload_n hc 0 dX7_nextToken_175 rfl ?_
      refine r_aload_n hc 0 dX7_nextToken_176 rfl ?_
      refine gf_X7_12 hc lf_X7_94 dX7_nextToken_177 ?_
      refine r_i2l hc dX7_nextToken_180 ?_
      refine r_ldc2_w hc lK_X7_101 dX7_nextToken_181 ?_
      refine r_ldc2_w hc lK_X7_103 dX7_nextToken_184 ?_
      refine r_callSi (d := 0) hc (m_X7_in h) cw_X7_in wt_X7_in lm_X7_57 (by decide) (by decide) rfl rfl (Nat.le_of_ble_eq_true rfl) dX7_nextToken_187 (fun r_16 σ_15 h => ?_)
      refine r_if_ne hc 211 dX7_nextToken_190 (by decide) (fun q => ?_) (fun q => ?_)
      · have h := kif_t h q
        refine r_aload_n hc 0 dX7_nextToken_193 rfl ?_
        refine gf_X7_12 hc lf_X7_94 dX7_nextToken_194 ?_
        refine r_bipush (v := 44) hc dX7_nextToken_197 rfl ?_
        refine r_ic_eq hc 211 dX7_nextToken_199 (by decide) (fun q => ?_) (fun q => ?_)
        · have h := kif_t h q
          refine r_iconst (v := 1) hc dX7_nextToken_211 rfl ?_
          refine r_goto hc 216 dX7_nextToken_212 (by decide) ?_
          refine pf_X7_11 hc lf_X7_91 dX7_nextToken_216 ?_
          refine r_nmS (fun σ_17 eσ_17 => ?_)
          have h := h σ_17 eσ_17
          refine r_aload_n hc 0 dX7_nextToken_219 rfl ?_
          refine r_dup hc dX7_nextToken_220 rfl ?_
          refine gf_X7_10 hc lf_X7_85 dX7_nextToken_221 ?_
          refine r_iconst (v := 1) hc dX7_nextToken_224 rfl ?_
          refine r_iadd hc dX7_nextToken_225 ?_
          refine pf_X7_10 hc lf_X7_85 dX7_nextToken_226 ?_
          refine r_nmS (fun σ_18 eσ_18 => ?_)
          have h := h σ_18 eσ_18
          exact r_vret (ls0 := []) hZ dX7_nextToken_229 h
        · have h := kif_f h q
          refine r_aload_n hc 0 dX7_nextToken_202 rfl ?_
          refine gf_X7_12 hc lf_X7_94 dX7_nextToken_203 ?_
          refine r_bipush (v := 59) hc dX7_nextToken_206 rfl ?_
          refine r_ic_ne hc 215 dX7_nextToken_208 (by decide) (fun q => ?_) (fun q => ?_)
          · have h := kif_t h q
            refine r_iconst (v := 1) hc dX7_nextToken_211 rfl ?_
            refine r_goto hc 216 dX7_nextToken_212 (by decide) ?_
            refine pf_X7_11 hc lf_X7_91 dX7_nextToken_216 ?_
            refine r_nmS (fun σ_19 eσ_19 => ?_)
            have h := h σ_19 eσ_19
            refine r_aload_n hc 0 dX7_nextToken_219 rfl ?_
            refine r_dup hc dX7_nextToken_220 rfl ?_
            refine gf_X7_10 hc lf_X7_85 dX7_nextToken_221 ?_
            refine r_iconst (v := 1) hc dX7_nextToken_224 rfl ?_
            refine r_iadd hc dX7_nextToken_225 ?_
            refine pf_X7_10 hc lf_X7_85 dX7_nextToken_226 ?_
            refine r_nmS (fun σ_20 eσ_20 => ?_)
            have h := h σ_20 eσ_20
            exact r_vret (ls0 := []) hZ dX7_nextToken_229 h
          · have h := kif_f h q
            refine r_iconst (v := 0) hc dX7_nextToken_215 rfl ?_
            refine pf_X7_11 hc lf_X7_91 dX7_nextToken_216 ?_
            refine r_nmS (fun σ_21 eσ_21 => ?_)
            have h := h σ_21 eσ_21
            refine r_aload_n hc 0 dX7_nextToken_219 rfl ?_
            refine r_dup hc dX7_nextToken_220 rfl ?_
            refine gf_X7_10 hc lf_X7_85 dX7_nextToken_221 ?_
            refine r_iconst (v := 1) hc dX7_nextToken_224 rfl ?_
            refine r_iadd hc dX7_nextToken_225 ?_
            refine pf_X7_10 hc lf_X7_85 dX7_nextToken_226 ?_
            refine r_nmS (fun σ_22 eσ_22 => ?_)
            have h := h σ_22 eσ_22
            exact r_vret (ls0 := []) hZ dX7_nextToken_229 h
      · have h := kif_f h q
        refine r_iconst (v := 1) hc dX7_nextToken_211 rfl ?_
        refine r_goto hc 216 dX7_nextToken_212 (by decide) ?_
        refine pf_X7_11 hc lf_X7_91 dX7_nextToken_216 ?_
        refine r_nmS (fun σ_23 eσ_23 => ?_)
        have h := h σ_23 eσ_23
        refine r_aload_n hc 0 dX7_nextToken_219 rfl ?_
        refine r_dup hc dX7_nextToken_220 rfl ?_
        refine gf_X7_10 hc lf_X7_85 dX7_nextToken_221 ?_
        refine r_iconst (v := 1) hc dX7_nextToken_224 rfl ?_
        refine r_iadd hc dX7_nextToken_225 ?_
        refine pf_X7_10 hc lf_X7_85 dX7_nextToken_226 ?_
        refine r_nmS (fun σ_24 eσ_24 => ?_)
        have h := h σ_24 eσ_24
        exact r_vret (ls0 := []) hZ dX7_nextToken_229 h
    · have h := kif_f h q
      exact r_vret (ls0 := []) hZ dX7_nextToken_229 h
  · have h := kif_f h q
    refine r_aload_n hc 0 dX7_nextToken_130 rfl ?_
    refine r_aload_n hc 0 dX7_nextToken_131 rfl ?_
    refine gf_X7_10 hc lf_X7_85 dX7_nextToken_132 ?_
    refine r_aload_n hc 0 dX7_nextToken_135 rfl ?_
    refine gf_X7_13 hc lf_X7_88 dX7_nextToken_136 ?_
    refine r_isub hc dX7_nextToken_139 ?_
    refine r_iconst (v := 2) hc dX7_nextToken_140 rfl ?_
    refine r_ic_le hc 148 dX7_nextToken_141 (by decide) (fun q => ?_) (fun q => ?_)
    · have h := kif_t h q
      refine r_iconst (v := 2) hc dX7_nextToken_148 rfl ?_
      refine pf_X7_11 hc lf_X7_91 dX7_nextToken_149 ?_
      refine r_nmS (fun σ_25 eσ_25 => ?_)
      have h := h σ_25 eσ_25
      refine r_goto hc 229 dX7_nextToken_152 (by decide) ?_
      exact r_vret (ls0 := []) hZ dX7_nextToken_229 h
    · have h := kif_f h q
      refine r_iconst (v := 0) hc dX7_nextToken_144 rfl ?_
      refine r_goto hc 149 dX7_nextToken_145 (by decide) ?_
      refine pf_X7_11 hc lf_X7_91 dX7_nextToken_149 ?_
      refine r_nmS (fun σ_26 eσ_26 => ?_)
      have h := h σ_26 eσ_26
      refine r_goto hc 229 dX7_nextToken_152 (by decide) ?_
      exact r_vret (ls0 := []) hZ dX7_nextToken_229 h
def w_X7_nextToken (N : Nat) (σ : kS) (Q : kS → Prop) : Prop :=
  ∀ σ_1 : kS, σ_1 = st2 σ 55 13 (σ 55 10) → (if (σ_1 55 10) = (σ_1 55 8) then (∀ σ_2 : kS, σ_2 = st2 σ_1 55 11 3 → (∀ σ_3 : kS, σ_3 = st2 σ_2 55 12 0 → (l_X7_nextToken_33 N Q (fun (σ_12 : kS) => j_X7_nextToken_119 N Q σ_12) N σ_3))) else (∀ σ_27 : kS, σ_27 = st2 σ_1 55 11 0 → (∀ σ_28 : kS, σ_28 = st2 σ_27 55 12 0 → (l_X7_nextToken_33 N Q (fun (σ_29 : kS) => j_X7_nextToken_119 N Q σ_29) N σ_28))))
set_option maxHeartbeats 4000000 in
set_option maxRecDepth 100000 in
theorem s_X7_nextToken {X : kX} {g : kG} {N : Nat} {Q : kS → Prop} (hc : kOk X g RX7 cX7_nextToken 1 none 1) (hZ : kRw X g cX7_nextToken Q) {σ : kS} (h : w_X7_nextToken N σ Q) : kP X g 1 0 [(0, kz g 55)] [] σ := by
  unfold w_X7_nextToken at h
  refine r_aload_n hc 0 dX7_nextToken_0 rfl ?_
  refine r_aload_n hc 0 dX7_nextToken_1 rfl ?_
  refine gf_X7_10 hc lf_X7_85 dX7_nextToken_2 ?_
  refine pf_X7_13 hc lf_X7_88 dX7_nextToken_5 ?_
  refine r_nmS (fun σ_1 eσ_1 => ?_)
  have h := h σ_1 eσ_1
  refine r_aload_n hc 0 dX7_nextToken_8 rfl ?_
  refine r_aload_n hc 0 dX7_nextToken_9 rfl ?_
  refine gf_X7_10 hc lf_X7_85 dX7_nextToken_10 ?_
  refine r_aload_n hc 0 dX7_nextToken_13 rfl ?_
  refine gf_X7_8 hc lf_X7_81 dX7_nextToken_14 ?_
  refine r_ic_ne hc 24 dX7_nextToken_17 (by decide) (fun q => ?_) (fun q => ?_)
  · have h := kif_t h q
    refine r_iconst (v := 3) hc dX7_nextToken_20 rfl ?_
    refine r_goto hc 25 dX7_nextToken_21 (by decide) ?_
    refine pf_X7_11 hc lf_X7_91 dX7_nextToken_25 ?_
    refine r_nmS (fun σ_2 eσ_2 => ?_)
    have h := h σ_2 eσ_2
    refine r_aload_n hc 0 dX7_nextToken_28 rfl ?_
    refine r_iconst (v := 0) hc dX7_nextToken_29 rfl ?_
    refine pf_X7_12 hc lf_X7_94 dX7_nextToken_30 ?_
    refine r_nmS (fun σ_3 eσ_3 => ?_)
    have h := h σ_3 eσ_3
    refine sl_X7_nextToken_33 hc hZ (fun σ_12 h => ?_) _ _ h
    exact sj_X7_nextToken_119 hc hZ h
  · have h := kif_f h q
    refine r_iconst (v := 0) hc dX7_nextToken_24 rfl ?_
    refine pf_X7_11 hc lf_X7_91 dX7_nextToken_25 ?_
    refine r_nmS (fun σ_27 eσ_27 => ?_)
    have h := h σ_27 eσ_27
    refine r_aload_n hc 0 dX7_nextToken_28 rfl ?_
    refine r_iconst (v := 0) hc dX7_nextToken_29 rfl ?_
    refine pf_X7_12 hc lf_X7_94 dX7_nextToken_30 ?_
    refine r_nmS (fun σ_28 eσ_28 => ?_)
    have h := h σ_28 eσ_28
    refine sl_X7_nextToken_33 hc hZ (fun σ_29 h => ?_) _ _ h
    exact sj_X7_nextToken_119 hc hZ h
theorem m_X7_nextToken {l : Launch} {g : kG} {N : Nat} {σ : kS} {Q : kS → Prop} (h : w_X7_nextToken N σ Q) : kMv l g yX7_nextToken cX7_nextToken 1 none 1 [kz g 55] σ Q :=
  k_met_v (by decide +kernel) rfl (Nat.le_of_ble_eq_true rfl) (fun X hl hc hZ => s_X7_nextToken hc hZ h)
def w_X7_faults (N : Nat) (σ : kS) (x1 : Int32) (Q : Int32 → kS → Prop) : Prop :=
  ∀ σ_1 : kS, σ_1 = st2 σ 55 14 x1 → (Q 0 σ_1)
set_option maxHeartbeats 4000000 in
set_option maxRecDepth 100000 in
theorem s_X7_faults {X : kX} {g : kG} {N : Nat} {Q : Int32 → kS → Prop} (hc : kOk X g RX7 cX7_faults 2 (some .boolean) 0) (hZ : kRz X g cX7_faults Q) {σ : kS} {x1 : Int32} (h : w_X7_faults N σ x1 Q) : kP X g 2 0 [(0, kz g 55), (1, .int x1)] [] σ := by
  unfold w_X7_faults at h
  refine r_aload_n hc 0 dX7_faults_0 rfl ?_
  refine r_iload_n hc 1 dX7_faults_1 rfl ?_
  refine pf_X7_14 hc lf_X7_105 dX7_faults_2 ?_
  refine r_nmS (fun σ_1 eσ_1 => ?_)
  have h := h σ_1 eσ_1
  refine r_iconst (v := 0) hc dX7_faults_5 rfl ?_
  exact r_zret (ls0 := []) hZ dX7_faults_6 (Or.inl rfl) h
theorem m_X7_faults {l : Launch} {g : kG} {N : Nat} {σ : kS} {x1 : Int32} {Q : Int32 → kS → Prop} (h : w_X7_faults N σ x1 Q) : kMi l g yX7_faults cX7_faults 2 (some .boolean) 0 [kz g 55, .int x1] σ Q :=
  k_met_z (by decide +kernel) rfl (Nat.le_of_ble_eq_true rfl) (fun X hl hc hZ => s_X7_faults hc hZ h)
def w_X7_isLetter (N : Nat) (σ : kS) (x1 : Int32) (Q : Int32 → kS → Prop) : Prop :=
  if (σ 55 11) = 1 then (if (σ 55 12) = x1 then (Q 1 σ) else (Q 0 σ)) else (Q 0 σ)
set_option maxHeartbeats 4000000 in
set_option maxRecDepth 100000 in
theorem s_X7_isLetter {X : kX} {g : kG} {N : Nat} {Q : Int32 → kS → Prop} (hc : kOk X g RX7 cX7_isLetter 2 (some .boolean) 0) (hZ : kRz X g cX7_isLetter Q) {σ : kS} {x1 : Int32} (h : w_X7_isLetter N σ x1 Q) : kP X g 2 0 [(0, kz g 55), (1, .int x1)] [] σ := by
  unfold w_X7_isLetter at h
  refine r_aload_n hc 0 dX7_isLetter_0 rfl ?_
  refine gf_X7_11 hc lf_X7_91 dX7_isLetter_1 ?_
  refine r_iconst (v := 1) hc dX7_isLetter_4 rfl ?_
  refine r_ic_ne hc 20 dX7_isLetter_5 (by decide) (fun q => ?_) (fun q => ?_)
  · have h := kif_t h q
    refine r_aload_n hc 0 dX7_isLetter_8 rfl ?_
    refine gf_X7_12 hc lf_X7_94 dX7_isLetter_9 ?_
    refine r_iload_n hc 1 dX7_isLetter_12 rfl ?_
    refine r_ic_ne hc 20 dX7_isLetter_13 (by decide) (fun q => ?_) (fun q => ?_)
    · have h := kif_t h q
      refine r_iconst (v := 1) hc dX7_isLetter_16 rfl ?_
      refine r_goto hc 21 dX7_isLetter_17 (by decide) ?_
      exact r_zret (ls0 := []) hZ dX7_isLetter_21 (Or.inr rfl) h
    · have h := kif_f h q
      refine r_iconst (v := 0) hc dX7_isLetter_20 rfl ?_
      exact r_zret (ls0 := []) hZ dX7_isLetter_21 (Or.inl rfl) h
  · have h := kif_f h q
    refine r_iconst (v := 0) hc dX7_isLetter_20 rfl ?_
    exact r_zret (ls0 := []) hZ dX7_isLetter_21 (Or.inl rfl) h
theorem m_X7_isLetter {l : Launch} {g : kG} {N : Nat} {σ : kS} {x1 : Int32} {Q : Int32 → kS → Prop} (h : w_X7_isLetter N σ x1 Q) : kMi l g yX7_isLetter cX7_isLetter 2 (some .boolean) 0 [kz g 55, .int x1] σ Q :=
  k_met_z (by decide +kernel) rfl (Nat.le_of_ble_eq_true rfl) (fun X hl hc hZ => s_X7_isLetter hc hZ h)
def w_X7_takes (N : Nat) (σ : kS) (x1 : Int32) (Q : Int32 → kS → Prop) : Prop :=
  w_X7_isLetter N σ x1 (fun (r_2 : Int32) (σ_1 : kS) => if r_2 = 0 then (w_X7_faults N σ_1 1 (fun (r_4 : Int32) (σ_3 : kS) => (r_4 = 0 ∨ r_4 = 1) ∧ Q r_4 σ_3)) else (w_X7_nextToken N σ_1 (fun (σ_5 : kS) => Q 1 σ_5)))
set_option maxHeartbeats 4000000 in
set_option maxRecDepth 100000 in
theorem s_X7_takes {X : kX} {g : kG} {N : Nat} {Q : Int32 → kS → Prop} (hc : kOk X g RX7 cX7_takes 2 (some .boolean) 2) (hZ : kRz X g cX7_takes Q) {σ : kS} {x1 : Int32} (h : w_X7_takes N σ x1 Q) : kP X g 2 0 [(0, kz g 55), (1, .int x1)] [] σ := by
  unfold w_X7_takes at h
  refine r_aload_n hc 0 dX7_takes_0 rfl ?_
  refine r_iload_n hc 1 dX7_takes_1 rfl ?_
  refine r_callVi (d := 0) hc (m_X7_isLetter h) cw_X7_isLetter wi_X7_isLetter ws_X7_isLetter lm_X7_108 (by decide) (by decide) rv_X7 rfl rfl (Nat.le_of_ble_eq_true rfl) dX7_takes_2 (fun r_2 σ_1 h => ?_)
  refine r_if_ne hc 14 dX7_takes_5 (by decide) (fun q => ?_) (fun q => ?_)
  · have h := kif_t h q
    refine r_aload_n hc 0 dX7_takes_8 rfl ?_
    refine r_iconst (v := 1) hc dX7_takes_9 rfl ?_
    refine r_callVi (d := 0) hc (m_X7_faults h) cw_X7_faults wi_X7_faults ws_X7_faults lm_X7_111 (by decide) (by decide) rv_X7 rfl rfl (Nat.le_of_ble_eq_true rfl) dX7_takes_10 (fun r_4 σ_3 h => ?_)
    exact r_zret (ls0 := []) hZ dX7_takes_13 h.1 h.2
  · have h := kif_f h q
    refine r_aload_n hc 0 dX7_takes_14 rfl ?_
    refine r_callVv (d := 1) hc (m_X7_nextToken h) cw_X7_nextToken wi_X7_nextToken ws_X7_nextToken lm_X7_114 (by decide) (by decide) rv_X7 rfl rfl (Nat.le_of_ble_eq_true rfl) dX7_takes_15 (fun σ_5 h => ?_)
    refine r_iconst (v := 1) hc dX7_takes_18 rfl ?_
    exact r_zret (ls0 := []) hZ dX7_takes_19 (Or.inr rfl) h
theorem m_X7_takes {l : Launch} {g : kG} {N : Nat} {σ : kS} {x1 : Int32} {Q : Int32 → kS → Prop} (h : w_X7_takes N σ x1 Q) : kMi l g yX7_takes cX7_takes 2 (some .boolean) 2 [kz g 55, .int x1] σ Q :=
  k_met_z (by decide +kernel) rfl (Nat.le_of_ble_eq_true rfl) (fun X hl hc hZ => s_X7_takes hc hZ h)
def j_X7_takesNumber_23 (N : Nat) (Q : Int32 → kS → Prop) (σ : kS) : Prop :=
  if (σ 55 11) = 2 then (w_X7_faults N σ 2 (fun (r_4 : Int32) (σ_3 : kS) => (r_4 = 0 ∨ r_4 = 1) ∧ Q r_4 σ_3)) else (w_X7_faults N σ 1 (fun (r_6 : Int32) (σ_5 : kS) => (r_6 = 0 ∨ r_6 = 1) ∧ Q r_6 σ_5))
set_option maxHeartbeats 4000000 in
set_option maxRecDepth 100000 in
theorem sj_X7_takesNumber_23 {X : kX} {g : kG} {N : Nat} {Q : Int32 → kS → Prop} (hc : kOk X g RX7 cX7_takesNumber 5 (some .boolean) 3) (hZ : kRz X g cX7_takesNumber Q) {σ : kS} (h : j_X7_takesNumber_23 N Q σ) : kP X g 5 23 [(0, kz g 55)] [] σ := by
  unfold j_X7_takesNumber_23 at h
  refine r_aload_n hc 0 dX7_takesNumber_23 rfl ?_
  refine r_aload_n hc 0 dX7_takesNumber_24 rfl ?_
  refine gf_X7_11 hc lf_X7_91 dX7_takesNumber_25 ?_
  refine r_iconst (v := 2) hc dX7_takesNumber_28 rfl ?_
  refine r_ic_ne hc 36 dX7_takesNumber_29 (by decide) (fun q => ?_) (fun q => ?_)
  · have h := kif_t h q
    refine r_iconst (v := 2) hc dX7_takesNumber_32 rfl ?_
    refine r_goto hc 37 dX7_takesNumber_33 (by decide) ?_
    refine r_callVi (d := 0) hc (m_X7_faults h) cw_X7_faults wi_X7_faults ws_X7_faults lm_X7_111 (by decide) (by decide) rv_X7 rfl rfl (Nat.le_of_ble_eq_true rfl) dX7_takesNumber_37 (fun r_4 σ_3 h => ?_)
    exact r_zret (ls0 := []) hZ dX7_takesNumber_40 h.1 h.2
  · have h := kif_f h q
    refine r_iconst (v := 1) hc dX7_takesNumber_36 rfl ?_
    refine r_callVi (d := 0) hc (m_X7_faults h) cw_X7_faults wi_X7_faults ws_X7_faults lm_X7_111 (by decide) (by decide) rv_X7 rfl rfl (Nat.le_of_ble_eq_true rfl) dX7_takesNumber_37 (fun r_6 σ_5 h => ?_)
    exact r_zret (ls0 := []) hZ dX7_takesNumber_40 h.1 h.2
def w_X7_takesNumber (N : Nat) (σ : kS) (x1 : Int32) (x2 : Int32) (x3 : Int32) (x4 : Int32) (Q : Int32 → kS → Prop) : Prop :=
  if (σ 55 11) = 2 then (w_X7_in N σ ((σ 55 12).toInt64) (x1.toInt64) (x2.toInt64) (fun (r_2 : Int32) (σ_1 : kS) => if r_2 = 0 then (j_X7_takesNumber_23 N Q σ_1) else (vp_in x3 57 ∧ (∀ σ_8 : kS, σ_8 = st2 σ_1 62 (x3.toNatClampNeg) (σ_1 55 12) → (w_X7_nextToken N σ_8 (fun (σ_9 : kS) => w_X7_takes N σ_9 x4 (fun (r_12 : Int32) (σ_11 : kS) => (r_12 = 0 ∨ r_12 = 1) ∧ Q r_12 σ_11))))))) else (j_X7_takesNumber_23 N Q σ)
set_option maxHeartbeats 4000000 in
set_option maxRecDepth 100000 in
theorem s_X7_takesNumber {X : kX} {g : kG} {N : Nat} {Q : Int32 → kS → Prop} (hc : kOk X g RX7 cX7_takesNumber 5 (some .boolean) 3) (hZ : kRz X g cX7_takesNumber Q) {σ : kS} {x1 : Int32} {x2 : Int32} {x3 : Int32} {x4 : Int32} (h : w_X7_takesNumber N σ x1 x2 x3 x4 Q) : kP X g 5 0 [(0, kz g 55), (1, .int x1), (2, .int x2), (3, .int x3), (4, .int x4)] [] σ := by
  unfold w_X7_takesNumber at h
  refine r_aload_n hc 0 dX7_takesNumber_0 rfl ?_
  refine gf_X7_11 hc lf_X7_91 dX7_takesNumber_1 ?_
  refine r_iconst (v := 2) hc dX7_takesNumber_4 rfl ?_
  refine r_ic_ne hc 23 dX7_takesNumber_5 (by decide) (fun q => ?_) (fun q => ?_)
  · have h := kif_t h q
    refine r_aload_n hc 0 dX7_takesNumber_8 rfl ?_
    refine gf_X7_12 hc lf_X7_94 dX7_takesNumber_9 ?_
    refine r_i2l hc dX7_takesNumber_12 ?_
    refine r_iload_n hc 1 dX7_takesNumber_13 rfl ?_
    refine r_i2l hc dX7_takesNumber_14 ?_
    refine r_iload_n hc 2 dX7_takesNumber_15 rfl ?_
    refine r_i2l hc dX7_takesNumber_16 ?_
    refine r_callSi (d := 0) hc (m_X7_in h) cw_X7_in wt_X7_in lm_X7_57 (by decide) (by decide) rfl rfl (Nat.le_of_ble_eq_true rfl) dX7_takesNumber_17 (fun r_2 σ_1 h => ?_)
    refine r_if_ne hc 41 dX7_takesNumber_20 (by decide) (fun q => ?_) (fun q => ?_)
    · have h := kif_t h q
      refine r_sub [0] rfl ?_
      exact sj_X7_takesNumber_23 hc hZ h
    · have h := kif_f h q
      refine r_aload_n hc 0 dX7_takesNumber_41 rfl ?_
      refine gf_X7_15 hc lf_X7_28 dX7_takesNumber_42 ?_
      refine r_iload_n hc 3 dX7_takesNumber_45 rfl ?_
      refine r_aload_n hc 0 dX7_takesNumber_46 rfl ?_
      refine gf_X7_12 hc lf_X7_94 dX7_takesNumber_47 ?_
      obtain ⟨hi_7, h⟩ := h
      refine r_iast hc kia_62 hi_7 dX7_takesNumber_50 ?_
      refine r_nmS (fun σ_8 eσ_8 => ?_)
      have h := h σ_8 eσ_8
      refine r_aload_n hc 0 dX7_takesNumber_51 rfl ?_
      refine r_callVv (d := 1) hc (m_X7_nextToken h) cw_X7_nextToken wi_X7_nextToken ws_X7_nextToken lm_X7_114 (by decide) (by decide) rv_X7 rfl rfl (Nat.le_of_ble_eq_true rfl) dX7_takesNumber_52 (fun σ_9 h => ?_)
      refine r_aload_n hc 0 dX7_takesNumber_55 rfl ?_
      refine r_iload hc 4 dX7_takesNumber_56 rfl ?_
      refine r_callVi (d := 2) hc (m_X7_takes h) cw_X7_takes wi_X7_takes ws_X7_takes lm_X7_117 (by decide) (by decide) rv_X7 rfl rfl (Nat.le_of_ble_eq_true rfl) dX7_takesNumber_58 (fun r_12 σ_11 h => ?_)
      exact r_zret (ls0 := []) hZ dX7_takesNumber_61 h.1 h.2
  · have h := kif_f h q
    refine r_sub [0] rfl ?_
    exact sj_X7_takesNumber_23 hc hZ h
theorem m_X7_takesNumber {l : Launch} {g : kG} {N : Nat} {σ : kS} {x1 : Int32} {x2 : Int32} {x3 : Int32} {x4 : Int32} {Q : Int32 → kS → Prop} (h : w_X7_takesNumber N σ x1 x2 x3 x4 Q) : kMi l g yX7_takesNumber cX7_takesNumber 5 (some .boolean) 3 [kz g 55, .int x1, .int x2, .int x3, .int x4] σ Q :=
  k_met_z (by decide +kernel) rfl (Nat.le_of_ble_eq_true rfl) (fun X hl hc hZ => s_X7_takesNumber hc hZ h)
def j_X7_readPiece_21 (N : Nat) (Q : Int32 → kS → Prop) (σ : kS) : Prop :=
  vp_in 4 57 ∧ (if (σ 62 (4 : Int32).toNatClampNeg) ≤ 0 then (w_X7_faults N σ 3 (fun (r_5 : Int32) (σ_4 : kS) => (r_5 = 0 ∨ r_5 = 1) ∧ Q r_5 σ_4)) else (w_X7_faults N σ 1 (fun (r_7 : Int32) (σ_6 : kS) => (r_7 = 0 ∨ r_7 = 1) ∧ Q r_7 σ_6)))
set_option maxHeartbeats 4000000 in
set_option maxRecDepth 100000 in
theorem sj_X7_readPiece_21 {X : kX} {g : kG} {N : Nat} {Q : Int32 → kS → Prop} (hc : kOk X g RX7 cX7_readPiece 2 (some .boolean) 3) (hZ : kRz X g cX7_readPiece Q) {σ : kS} (h : j_X7_readPiece_21 N Q σ) : kP X g 2 21 [(0, kz g 55)] [] σ := by
  unfold j_X7_readPiece_21 at h
  refine r_aload_n hc 0 dX7_readPiece_21 rfl ?_
  refine r_aload_n hc 0 dX7_readPiece_22 rfl ?_
  refine gf_X7_15 hc lf_X7_28 dX7_readPiece_23 ?_
  refine r_iconst (v := 4) hc dX7_readPiece_26 rfl ?_
  obtain ⟨hi_3, h⟩ := h
  refine r_iald hc kia_62 hi_3 dX7_readPiece_27 ?_
  refine r_if_le hc 35 dX7_readPiece_28 (by decide) (fun q => ?_) (fun q => ?_)
  · have h := kif_t h q
    refine r_iconst (v := 3) hc dX7_readPiece_35 rfl ?_
    refine r_callVi (d := 0) hc (m_X7_faults h) cw_X7_faults wi_X7_faults ws_X7_faults lm_X7_111 (by decide) (by decide) rv_X7 rfl rfl (Nat.le_of_ble_eq_true rfl) dX7_readPiece_36 (fun r_5 σ_4 h => ?_)
    exact r_zret (ls0 := []) hZ dX7_readPiece_39 h.1 h.2
  · have h := kif_f h q
    refine r_iconst (v := 1) hc dX7_readPiece_31 rfl ?_
    refine r_goto hc 36 dX7_readPiece_32 (by decide) ?_
    refine r_callVi (d := 0) hc (m_X7_faults h) cw_X7_faults wi_X7_faults ws_X7_faults lm_X7_111 (by decide) (by decide) rv_X7 rfl rfl (Nat.le_of_ble_eq_true rfl) dX7_readPiece_36 (fun r_7 σ_6 h => ?_)
    exact r_zret (ls0 := []) hZ dX7_readPiece_39 h.1 h.2
def b_X7_readPiece_54 (N : Nat) (Q : Int32 → kS → Prop) (x1 : Int32) (E151 : kS → Prop) (K : kS → Prop) (σ : kS) : Prop :=
  if (σ 55 11) = 1 then (vp_in 0 57 ∧ (w_X7_in N σ ((σ 55 12).toInt64) 97 (((97 + (σ 62 (0 : Int32).toNatClampNeg)) - 1).toInt64) (fun (r_16 : Int32) (σ_15 : kS) => if r_16 = 0 then (E151 σ_15) else (vp_in (6 + x1) 57 ∧ (if 8 ≤ (σ_15 62 (6 + x1).toNatClampNeg) then (E151 σ_15) else (vp_in (6 + x1) 57 ∧ (vp_in ((10 + (8 * x1)) + (σ_15 62 (6 + x1).toNatClampNeg)) 57 ∧ (∀ σ_20 : kS, σ_20 = st2 σ_15 62 (((10 + (8 * x1)) + (σ_15 62 (6 + x1).toNatClampNeg)).toNatClampNeg) ((σ_15 55 12) - 97) → (vp_in (6 + x1) 57 ∧ (vp_in (6 + x1) 57 ∧ (∀ σ_23 : kS, σ_23 = st2 σ_20 62 ((6 + x1).toNatClampNeg) ((σ_20 62 (6 + x1).toNatClampNeg) + 1) → (w_X7_nextToken N σ_23 (fun (σ_24 : kS) => K σ_24))))))))))))) else (E151 σ)
def l_X7_readPiece_54 (N : Nat) (Q : Int32 → kS → Prop) (x1 : Int32) (E151 : kS → Prop) : Nat → kS → Prop
  | 0 => fun _ => False
  | n + 1 => b_X7_readPiece_54 N Q x1 E151 (l_X7_readPiece_54 N Q x1 E151 n)
set_option maxHeartbeats 4000000 in
set_option maxRecDepth 100000 in
theorem sb_X7_readPiece_54 {X : kX} {g : kG} {N : Nat} {Q : Int32 → kS → Prop} (hc : kOk X g RX7 cX7_readPiece 2 (some .boolean) 3) (hZ : kRz X g cX7_readPiece Q) {x1 : Int32} {E151 : kS → Prop} (hE151 : ∀ (τ : kS), E151 τ → kP X g 2 151 [(0, kz g 55), (1, .int x1)] [] τ) {K : kS → Prop} (hK : ∀ (τ : kS), K τ → kP X g 2 54 [(0, kz g 55), (1, .int x1)] [] τ) {σ : kS} (h : b_X7_readPiece_54 N Q x1 E151 K σ) : kP X g 2 54 [(0, kz g 55), (1, .int x1)] [] σ := by
  unfold b_X7_readPiece_54 at h
  refine r_aload_n hc 0 dX7_readPiece_54 rfl ?_
  refine gf_X7_11 hc lf_X7_91 dX7_readPiece_55 ?_
  refine r_iconst (v := 1) hc dX7_readPiece_58 rfl ?_
  refine r_ic_ne hc 151 dX7_readPiece_59 (by decide) (fun q => ?_) (fun q => ?_)
  · have h := kif_t h q
    refine r_aload_n hc 0 dX7_readPiece_62 rfl ?_
    refine gf_X7_12 hc lf_X7_94 dX7_readPiece_63 ?_
    refine r_i2l hc dX7_readPiece_66 ?_
    refine r_ldc2_w hc lK_X7_101 dX7_readPiece_67 ?_
    refine r_bipush (v := 97) hc dX7_readPiece_70 rfl ?_
    refine r_aload_n hc 0 dX7_readPiece_72 rfl ?_
    refine gf_X7_15 hc lf_X7_28 dX7_readPiece_73 ?_
    refine r_iconst (v := 0) hc dX7_readPiece_76 rfl ?_
    obtain ⟨hi_14, h⟩ := h
    refine r_iald hc kia_62 hi_14 dX7_readPiece_77 ?_
    refine r_iadd hc dX7_readPiece_78 ?_
    refine r_iconst (v := 1) hc dX7_readPiece_79 rfl ?_
    refine r_isub hc dX7_readPiece_80 ?_
    refine r_i2l hc dX7_readPiece_81 ?_
    refine r_callSi (d := 0) hc (m_X7_in h) cw_X7_in wt_X7_in lm_X7_57 (by decide) (by decide) rfl rfl (Nat.le_of_ble_eq_true rfl) dX7_readPiece_82 (fun r_16 σ_15 h => ?_)
    refine r_if_eq hc 151 dX7_readPiece_85 (by decide) (fun q => ?_) (fun q => ?_)
    · have h := kif_t h q
      exact hE151 _ h
    · have h := kif_f h q
      refine r_aload_n hc 0 dX7_readPiece_88 rfl ?_
      refine gf_X7_15 hc lf_X7_28 dX7_readPiece_89 ?_
      refine r_bipush (v := 6) hc dX7_readPiece_92 rfl ?_
      refine r_iload_n hc 1 dX7_readPiece_94 rfl ?_
      refine r_iadd hc dX7_readPiece_95 ?_
      obtain ⟨hi_17, h⟩ := h
      refine r_iald hc kia_62 hi_17 dX7_readPiece_96 ?_
      refine r_bipush (v := 8) hc dX7_readPiece_97 rfl ?_
      refine r_ic_ge hc 151 dX7_readPiece_99 (by decide) (fun q => ?_) (fun q => ?_)
      · have h := kif_t h q
        exact hE151 _ h
      · have h := kif_f h q
        refine r_aload_n hc 0 dX7_readPiece_102 rfl ?_
        refine gf_X7_15 hc lf_X7_28 dX7_readPiece_103 ?_
        refine r_bipush (v := 10) hc dX7_readPiece_106 rfl ?_
        refine r_bipush (v := 8) hc dX7_readPiece_108 rfl ?_
        refine r_iload_n hc 1 dX7_readPiece_110 rfl ?_
        refine r_imul hc dX7_readPiece_111 ?_
        refine r_iadd hc dX7_readPiece_112 ?_
        refine r_aload_n hc 0 dX7_readPiece_113 rfl ?_
        refine gf_X7_15 hc lf_X7_28 dX7_readPiece_114 ?_
        refine r_bipush (v := 6) hc dX7_readPiece_117 rfl ?_
        refine r_iload_n hc 1 dX7_readPiece_119 rfl ?_
        refine r_iadd hc dX7_readPiece_120 ?_
        obtain ⟨hi_18, h⟩ := h
        refine r_iald hc kia_62 hi_18 dX7_readPiece_121 ?_
        refine r_iadd hc dX7_readPiece_122 ?_
        refine r_aload_n hc 0 dX7_readPiece_123 rfl ?_
        refine gf_X7_12 hc lf_X7_94 dX7_readPiece_124 ?_
        refine r_bipush (v := 97) hc dX7_readPiece_127 rfl ?_
        refine r_isub hc dX7_readPiece_129 ?_
        obtain ⟨hi_19, h⟩ := h
        refine r_iast hc kia_62 hi_19 dX7_readPiece_130 ?_
        refine r_nmS (fun σ_20 eσ_20 => ?_)
        have h := h σ_20 eσ_20
        refine r_aload_n hc 0 dX7_readPiece_131 rfl ?_
        refine gf_X7_15 hc lf_X7_28 dX7_readPiece_132 ?_
        refine r_bipush (v := 6) hc dX7_readPiece_135 rfl ?_
        refine r_iload_n hc 1 dX7_readPiece_137 rfl ?_
        refine r_iadd hc dX7_readPiece_138 ?_
        refine r_dup2 hc dX7_readPiece_139 rfl rfl ?_
        obtain ⟨hi_21, h⟩ := h
        refine r_iald hc kia_62 hi_21 dX7_readPiece_140 ?_
        refine r_iconst (v := 1) hc dX7_readPiece_141 rfl ?_
        refine r_iadd hc dX7_readPiece_142 ?_
        obtain ⟨hi_22, h⟩ := h
        refine r_iast hc kia_62 hi_22 dX7_readPiece_143 ?_
        refine r_nmS (fun σ_23 eσ_23 => ?_)
        have h := h σ_23 eσ_23
        refine r_aload_n hc 0 dX7_readPiece_144 rfl ?_
        refine r_callVv (d := 1) hc (m_X7_nextToken h) cw_X7_nextToken wi_X7_nextToken ws_X7_nextToken lm_X7_114 (by decide) (by decide) rv_X7 rfl rfl (Nat.le_of_ble_eq_true rfl) dX7_readPiece_145 (fun σ_24 h => ?_)
        refine r_goto hc 54 dX7_readPiece_148 (by decide) ?_
        exact hK _ h
  · have h := kif_f h q
    exact hE151 _ h
theorem sl_X7_readPiece_54 {X : kX} {g : kG} {N : Nat} {Q : Int32 → kS → Prop} (hc : kOk X g RX7 cX7_readPiece 2 (some .boolean) 3) (hZ : kRz X g cX7_readPiece Q) {x1 : Int32} {E151 : kS → Prop} (hE151 : ∀ (τ : kS), E151 τ → kP X g 2 151 [(0, kz g 55), (1, .int x1)] [] τ) : ∀ (n : Nat) (σ : kS), l_X7_readPiece_54 N Q x1 E151 n σ → kP X g 2 54 [(0, kz g 55), (1, .int x1)] [] σ := by
  intro n
  induction n with
  | zero => intro σ h; exact h.elim
  | succ n ih => intro σ h; exact sb_X7_readPiece_54 hc hZ hE151 ih h
def j_X7_readPiece_151 (N : Nat) (Q : Int32 → kS → Prop) (x1 : Int32) (σ : kS) : Prop :=
  vp_in (6 + x1) 57 ∧ (if (σ 62 (6 + x1).toNatClampNeg) ≤ 0 then (w_X7_faults N σ 1 (fun (r_29 : Int32) (σ_28 : kS) => (r_29 = 0 ∨ r_29 = 1) ∧ Q r_29 σ_28)) else (w_X7_takes N σ 59 (fun (r_31 : Int32) (σ_30 : kS) => (r_31 = 0 ∨ r_31 = 1) ∧ Q r_31 σ_30)))
set_option maxHeartbeats 4000000 in
set_option maxRecDepth 100000 in
theorem sj_X7_readPiece_151 {X : kX} {g : kG} {N : Nat} {Q : Int32 → kS → Prop} (hc : kOk X g RX7 cX7_readPiece 2 (some .boolean) 3) (hZ : kRz X g cX7_readPiece Q) {x1 : Int32} {σ : kS} (h : j_X7_readPiece_151 N Q x1 σ) : kP X g 2 151 [(0, kz g 55), (1, .int x1)] [] σ := by
  unfold j_X7_readPiece_151 at h
  refine r_aload_n hc 0 dX7_readPiece_151 rfl ?_
  refine gf_X7_15 hc lf_X7_28 dX7_readPiece_152 ?_
  refine r_bipush (v := 6) hc dX7_readPiece_155 rfl ?_
  refine r_iload_n hc 1 dX7_readPiece_157 rfl ?_
  refine r_iadd hc dX7_readPiece_158 ?_
  obtain ⟨hi_27, h⟩ := h
  refine r_iald hc kia_62 hi_27 dX7_readPiece_159 ?_
  refine r_if_le hc 172 dX7_readPiece_160 (by decide) (fun q => ?_) (fun q => ?_)
  · have h := kif_t h q
    refine r_aload_n hc 0 dX7_readPiece_172 rfl ?_
    refine r_iconst (v := 1) hc dX7_readPiece_173 rfl ?_
    refine r_callVi (d := 0) hc (m_X7_faults h) cw_X7_faults wi_X7_faults ws_X7_faults lm_X7_111 (by decide) (by decide) rv_X7 rfl rfl (Nat.le_of_ble_eq_true rfl) dX7_readPiece_174 (fun r_29 σ_28 h => ?_)
    exact r_zret (ls0 := []) hZ dX7_readPiece_177 h.1 h.2
  · have h := kif_f h q
    refine r_aload_n hc 0 dX7_readPiece_163 rfl ?_
    refine r_bipush (v := 59) hc dX7_readPiece_164 rfl ?_
    refine r_callVi (d := 2) hc (m_X7_takes h) cw_X7_takes wi_X7_takes ws_X7_takes lm_X7_117 (by decide) (by decide) rv_X7 rfl rfl (Nat.le_of_ble_eq_true rfl) dX7_readPiece_166 (fun r_31 σ_30 h => ?_)
    refine r_goto hc 177 dX7_readPiece_169 (by decide) ?_
    exact r_zret (ls0 := []) hZ dX7_readPiece_177 h.1 h.2
def w_X7_readPiece (N : Nat) (σ : kS) (Q : Int32 → kS → Prop) : Prop :=
  vp_in 3 57 ∧ (∀ x1_2 : Int32, x1_2 = σ 62 (3 : Int32).toNatClampNeg → (if x1_2 = 4 then (j_X7_readPiece_21 N Q σ) else (vp_in 4 57 ∧ (if (σ 62 (4 : Int32).toNatClampNeg) ≤ 0 then (w_X7_nextToken N σ (fun (σ_9 : kS) => vp_in 3 57 ∧ (vp_in 3 57 ∧ (∀ σ_13 : kS, σ_13 = st2 σ_9 62 ((3 : Int32).toNatClampNeg) ((σ_9 62 (3 : Int32).toNatClampNeg) + 1) → (l_X7_readPiece_54 N Q x1_2 (fun (σ_26 : kS) => j_X7_readPiece_151 N Q x1_2 σ_26) N σ_13))))) else (j_X7_readPiece_21 N Q σ)))))
set_option maxHeartbeats 4000000 in
set_option maxRecDepth 100000 in
theorem s_X7_readPiece {X : kX} {g : kG} {N : Nat} {Q : Int32 → kS → Prop} (hc : kOk X g RX7 cX7_readPiece 2 (some .boolean) 3) (hZ : kRz X g cX7_readPiece Q) {σ : kS} (h : w_X7_readPiece N σ Q) : kP X g 2 0 [(0, kz g 55)] [] σ := by
  unfold w_X7_readPiece at h
  refine r_aload_n hc 0 dX7_readPiece_0 rfl ?_
  refine gf_X7_15 hc lf_X7_28 dX7_readPiece_1 ?_
  refine r_iconst (v := 3) hc dX7_readPiece_4 rfl ?_
  obtain ⟨hi_1, h⟩ := h
  refine r_iald hc kia_62 hi_1 dX7_readPiece_5 ?_
  refine r_nmI (fun x1_2 ex1_2 => ?_)
  have h := h x1_2 ex1_2
  refine r_istore_n hc [(1, .int x1_2), (0, kz g 55)] dX7_readPiece_6 (by decide) rfl ?_
  refine r_iload_n hc 0 dX7_readPiece_7 rfl ?_
  refine r_iconst (v := 4) hc dX7_readPiece_8 rfl ?_
  refine r_ic_eq hc 21 dX7_readPiece_9 (by decide) (fun q => ?_) (fun q => ?_)
  · have h := kif_t h q
    refine r_sub [1] rfl ?_
    exact sj_X7_readPiece_21 hc hZ h
  · have h := kif_f h q
    refine r_aload_n hc 1 dX7_readPiece_12 rfl ?_
    refine gf_X7_15 hc lf_X7_28 dX7_readPiece_13 ?_
    refine r_iconst (v := 4) hc dX7_readPiece_16 rfl ?_
    obtain ⟨hi_8, h⟩ := h
    refine r_iald hc kia_62 hi_8 dX7_readPiece_17 ?_
    refine r_if_le hc 40 dX7_readPiece_18 (by decide) (fun q => ?_) (fun q => ?_)
    · have h := kif_t h q
      refine r_aload_n hc 1 dX7_readPiece_40 rfl ?_
      refine r_callVv (d := 1) hc (m_X7_nextToken h) cw_X7_nextToken wi_X7_nextToken ws_X7_nextToken lm_X7_114 (by decide) (by decide) rv_X7 rfl rfl (Nat.le_of_ble_eq_true rfl) dX7_readPiece_41 (fun σ_9 h => ?_)
      refine r_aload_n hc 1 dX7_readPiece_44 rfl ?_
      refine gf_X7_15 hc lf_X7_28 dX7_readPiece_45 ?_
      refine r_iconst (v := 3) hc dX7_readPiece_48 rfl ?_
      refine r_dup2 hc dX7_readPiece_49 rfl rfl ?_
      obtain ⟨hi_11, h⟩ := h
      refine r_iald hc kia_62 hi_11 dX7_readPiece_50 ?_
      refine r_iconst (v := 1) hc dX7_readPiece_51 rfl ?_
      refine r_iadd hc dX7_readPiece_52 ?_
      obtain ⟨hi_12, h⟩ := h
      refine r_iast hc kia_62 hi_12 dX7_readPiece_53 ?_
      refine r_nmS (fun σ_13 eσ_13 => ?_)
      have h := h σ_13 eσ_13
      refine r_sub [1, 0] rfl ?_
      refine sl_X7_readPiece_54 hc hZ (fun σ_26 h => ?_) _ _ h
      exact sj_X7_readPiece_151 hc hZ h
    · have h := kif_f h q
      refine r_sub [1] rfl ?_
      exact sj_X7_readPiece_21 hc hZ h
theorem m_X7_readPiece {l : Launch} {g : kG} {N : Nat} {σ : kS} {Q : Int32 → kS → Prop} (h : w_X7_readPiece N σ Q) : kMi l g yX7_readPiece cX7_readPiece 2 (some .boolean) 3 [kz g 55] σ Q :=
  k_met_z (by decide +kernel) rfl (Nat.le_of_ble_eq_true rfl) (fun X hl hc hZ => s_X7_readPiece hc hZ h)
def w_X7_readPupil (N : Nat) (σ : kS) (x1 : Int32) (Q : Int32 → kS → Prop) : Prop :=
  vp_in 4 57 ∧ (∀ x2_2 : Int32, x2_2 = σ 62 (4 : Int32).toNatClampNeg → (if x2_2 = 5 then (w_X7_faults N σ 3 (fun (r_4 : Int32) (σ_3 : kS) => (r_4 = 0 ∨ r_4 = 1) ∧ Q r_4 σ_3)) else (w_X7_nextToken N σ (fun (σ_5 : kS) => vp_in (42 + x2_2) 57 ∧ (∀ σ_8 : kS, σ_8 = st2 σ_5 62 ((42 + x2_2).toNatClampNeg) x1 → (vp_in 4 57 ∧ (vp_in 4 57 ∧ (∀ σ_11 : kS, σ_11 = st2 σ_8 62 ((4 : Int32).toNatClampNeg) ((σ_8 62 (4 : Int32).toNatClampNeg) + 1) → (vp_in 0 57 ∧ (w_X7_takesNumber N σ_11 0 ((σ_11 62 (0 : Int32).toNatClampNeg) - 1) (47 + x2_2) 44 (fun (r_14 : Int32) (σ_13 : kS) => if r_14 = 0 then (Q 0 σ_13) else (w_X7_takesNumber N σ_13 1 12 (52 + x2_2) 59 (fun (r_16 : Int32) (σ_15 : kS) => if r_16 = 0 then (Q 0 σ_15) else (Q 1 σ_15))))))))))))))
set_option maxHeartbeats 4000000 in
set_option maxRecDepth 100000 in
theorem s_X7_readPupil {X : kX} {g : kG} {N : Nat} {Q : Int32 → kS → Prop} (hc : kOk X g RX7 cX7_readPupil 3 (some .boolean) 4) (hZ : kRz X g cX7_readPupil Q) {σ : kS} {x1 : Int32} (h : w_X7_readPupil N σ x1 Q) : kP X g 3 0 [(0, kz g 55), (1, .int x1)] [] σ := by
  unfold w_X7_readPupil at h
  refine r_aload_n hc 0 dX7_readPupil_0 rfl ?_
  refine gf_X7_15 hc lf_X7_28 dX7_readPupil_1 ?_
  refine r_iconst (v := 4) hc dX7_readPupil_4 rfl ?_
  obtain ⟨hi_1, h⟩ := h
  refine r_iald hc kia_62 hi_1 dX7_readPupil_5 ?_
  refine r_nmI (fun x2_2 ex2_2 => ?_)
  have h := h x2_2 ex2_2
  refine r_istore_n hc [(2, .int x2_2), (0, kz g 55), (1, .int x1)] dX7_readPupil_6 (by decide) rfl ?_
  refine r_iload_n hc 0 dX7_readPupil_7 rfl ?_
  refine r_iconst (v := 5) hc dX7_readPupil_8 rfl ?_
  refine r_ic_ne hc 18 dX7_readPupil_9 (by decide) (fun q => ?_) (fun q => ?_)
  · have h := kif_t h q
    refine r_aload_n hc 1 dX7_readPupil_12 rfl ?_
    refine r_iconst (v := 3) hc dX7_readPupil_13 rfl ?_
    refine r_callVi (d := 0) hc (m_X7_faults h) cw_X7_faults wi_X7_faults ws_X7_faults lm_X7_111 (by decide) (by decide) rv_X7 rfl rfl (Nat.le_of_ble_eq_true rfl) dX7_readPupil_14 (fun r_4 σ_3 h => ?_)
    exact r_zret (ls0 := []) hZ dX7_readPupil_17 h.1 h.2
  · have h := kif_f h q
    refine r_aload_n hc 1 dX7_readPupil_18 rfl ?_
    refine r_callVv (d := 1) hc (m_X7_nextToken h) cw_X7_nextToken wi_X7_nextToken ws_X7_nextToken lm_X7_114 (by decide) (by decide) rv_X7 rfl rfl (Nat.le_of_ble_eq_true rfl) dX7_readPupil_19 (fun σ_5 h => ?_)
    refine r_aload_n hc 1 dX7_readPupil_22 rfl ?_
    refine gf_X7_15 hc lf_X7_28 dX7_readPupil_23 ?_
    refine r_bipush (v := 42) hc dX7_readPupil_26 rfl ?_
    refine r_iload_n hc 0 dX7_readPupil_28 rfl ?_
    refine r_iadd hc dX7_readPupil_29 ?_
    refine r_iload_n hc 2 dX7_readPupil_30 rfl ?_
    obtain ⟨hi_7, h⟩ := h
    refine r_iast hc kia_62 hi_7 dX7_readPupil_31 ?_
    refine r_nmS (fun σ_8 eσ_8 => ?_)
    have h := h σ_8 eσ_8
    refine r_aload_n hc 1 dX7_readPupil_32 rfl ?_
    refine gf_X7_15 hc lf_X7_28 dX7_readPupil_33 ?_
    refine r_iconst (v := 4) hc dX7_readPupil_36 rfl ?_
    refine r_dup2 hc dX7_readPupil_37 rfl rfl ?_
    obtain ⟨hi_9, h⟩ := h
    refine r_iald hc kia_62 hi_9 dX7_readPupil_38 ?_
    refine r_iconst (v := 1) hc dX7_readPupil_39 rfl ?_
    refine r_iadd hc dX7_readPupil_40 ?_
    obtain ⟨hi_10, h⟩ := h
    refine r_iast hc kia_62 hi_10 dX7_readPupil_41 ?_
    refine r_nmS (fun σ_11 eσ_11 => ?_)
    have h := h σ_11 eσ_11
    refine r_aload_n hc 1 dX7_readPupil_42 rfl ?_
    refine r_iconst (v := 0) hc dX7_readPupil_43 rfl ?_
    refine r_aload_n hc 1 dX7_readPupil_44 rfl ?_
    refine gf_X7_15 hc lf_X7_28 dX7_readPupil_45 ?_
    refine r_iconst (v := 0) hc dX7_readPupil_48 rfl ?_
    obtain ⟨hi_12, h⟩ := h
    refine r_iald hc kia_62 hi_12 dX7_readPupil_49 ?_
    refine r_iconst (v := 1) hc dX7_readPupil_50 rfl ?_
    refine r_isub hc dX7_readPupil_51 ?_
    refine r_bipush (v := 47) hc dX7_readPupil_52 rfl ?_
    refine r_iload_n hc 0 dX7_readPupil_54 rfl ?_
    refine r_iadd hc dX7_readPupil_55 ?_
    refine r_bipush (v := 44) hc dX7_readPupil_56 rfl ?_
    refine r_callVi (d := 3) hc (m_X7_takesNumber h) cw_X7_takesNumber wi_X7_takesNumber ws_X7_takesNumber lm_X7_120 (by decide) (by decide) rv_X7 rfl rfl (Nat.le_of_ble_eq_true rfl) dX7_readPupil_58 (fun r_14 σ_13 h => ?_)
    refine r_if_eq hc 84 dX7_readPupil_61 (by decide) (fun q => ?_) (fun q => ?_)
    · have h := kif_t h q
      refine r_iconst (v := 0) hc dX7_readPupil_84 rfl ?_
      exact r_zret (ls0 := []) hZ dX7_readPupil_85 (Or.inl rfl) h
    · have h := kif_f h q
      refine r_aload_n hc 1 dX7_readPupil_64 rfl ?_
      refine r_iconst (v := 1) hc dX7_readPupil_65 rfl ?_
      refine r_bipush (v := 12) hc dX7_readPupil_66 rfl ?_
      refine r_bipush (v := 52) hc dX7_readPupil_68 rfl ?_
      refine r_iload_n hc 0 dX7_readPupil_70 rfl ?_
      refine r_iadd hc dX7_readPupil_71 ?_
      refine r_bipush (v := 59) hc dX7_readPupil_72 rfl ?_
      refine r_callVi (d := 3) hc (m_X7_takesNumber h) cw_X7_takesNumber wi_X7_takesNumber ws_X7_takesNumber lm_X7_120 (by decide) (by decide) rv_X7 rfl rfl (Nat.le_of_ble_eq_true rfl) dX7_readPupil_74 (fun r_16 σ_15 h => ?_)
      refine r_if_eq hc 84 dX7_readPupil_77 (by decide) (fun q => ?_) (fun q => ?_)
      · have h := kif_t h q
        refine r_iconst (v := 0) hc dX7_readPupil_84 rfl ?_
        exact r_zret (ls0 := []) hZ dX7_readPupil_85 (Or.inl rfl) h
      · have h := kif_f h q
        refine r_iconst (v := 1) hc dX7_readPupil_80 rfl ?_
        refine r_goto hc 85 dX7_readPupil_81 (by decide) ?_
        exact r_zret (ls0 := []) hZ dX7_readPupil_85 (Or.inr rfl) h
theorem m_X7_readPupil {l : Launch} {g : kG} {N : Nat} {σ : kS} {x1 : Int32} {Q : Int32 → kS → Prop} (h : w_X7_readPupil N σ x1 Q) : kMi l g yX7_readPupil cX7_readPupil 3 (some .boolean) 4 [kz g 55, .int x1] σ Q :=
  k_met_z (by decide +kernel) rfl (Nat.le_of_ble_eq_true rfl) (fun X hl hc hZ => s_X7_readPupil hc hZ h)
def b_X7_readHall_7 (N : Nat) (Q : Int32 → kS → Prop) (E26 : kS → Prop) (K : Int32 → kS → Prop) (x1 : Int32) (σ : kS) : Prop :=
  if 57 ≤ x1 then (E26 σ) else (vp_in x1 57 ∧ (∀ σ_3 : kS, σ_3 = st2 σ 62 (x1.toNatClampNeg) 0 → (∀ x1_4 : Int32, x1_4 = x1 + 1 → (K x1_4 σ_3))))
def l_X7_readHall_7 (N : Nat) (Q : Int32 → kS → Prop) (E26 : kS → Prop) : Nat → Int32 → kS → Prop
  | 0 => fun _ _ => False
  | n + 1 => b_X7_readHall_7 N Q E26 (l_X7_readHall_7 N Q E26 n)
set_option maxHeartbeats 4000000 in
set_option maxRecDepth 100000 in
theorem sb_X7_readHall_7 {X : kX} {g : kG} {N : Nat} {Q : Int32 → kS → Prop} (hc : kOk X g RX7 cX7_readHall 3 (some .boolean) 5) (hZ : kRz X g cX7_readHall Q) {E26 : kS → Prop} (hE26 : ∀ (τ : kS), E26 τ → kP X g 3 26 [(0, kz g 55)] [] τ) {K : Int32 → kS → Prop} (hK : ∀ (x1 : Int32) (τ : kS), K x1 τ → kP X g 3 7 [(0, kz g 55), (1, .int x1)] [] τ) {x1 : Int32} {σ : kS} (h : b_X7_readHall_7 N Q E26 K x1 σ) : kP X g 3 7 [(0, kz g 55), (1, .int x1)] [] σ := by
  unfold b_X7_readHall_7 at h
  refine r_iload_n hc 1 dX7_readHall_7 rfl ?_
  refine r_bipush (v := 57) hc dX7_readHall_8 rfl ?_
  refine r_ic_ge hc 26 dX7_readHall_10 (by decide) (fun q => ?_) (fun q => ?_)
  · have h := kif_t h q
    refine r_sub [0] rfl ?_
    exact hE26 _ h
  · have h := kif_f h q
    refine r_aload_n hc 0 dX7_readHall_13 rfl ?_
    refine gf_X7_15 hc lf_X7_28 dX7_readHall_14 ?_
    refine r_iload_n hc 1 dX7_readHall_17 rfl ?_
    refine r_iconst (v := 0) hc dX7_readHall_18 rfl ?_
    obtain ⟨hi_2, h⟩ := h
    refine r_iast hc kia_62 hi_2 dX7_readHall_19 ?_
    refine r_nmS (fun σ_3 eσ_3 => ?_)
    have h := h σ_3 eσ_3
    obtain ⟨x1_4, ex1_4⟩ : ∃ v : Int32, v = x1 + 1 := ⟨_, rfl⟩
    have h := h x1_4 ex1_4
    refine r_iinc (v := x1_4) hc 1 [(1, .int x1_4), (0, kz g 55)] dX7_readHall_20 rfl (by rw [ex1_4]; rfl) (by decide) rfl ?_
    refine r_goto hc 7 dX7_readHall_23 (by decide) ?_
    refine r_sub [1, 0] rfl ?_
    exact hK _ _ h
theorem sl_X7_readHall_7 {X : kX} {g : kG} {N : Nat} {Q : Int32 → kS → Prop} (hc : kOk X g RX7 cX7_readHall 3 (some .boolean) 5) (hZ : kRz X g cX7_readHall Q) {E26 : kS → Prop} (hE26 : ∀ (τ : kS), E26 τ → kP X g 3 26 [(0, kz g 55)] [] τ) : ∀ (n : Nat) (x1 : Int32) (σ : kS), l_X7_readHall_7 N Q E26 n x1 σ → kP X g 3 7 [(0, kz g 55), (1, .int x1)] [] σ := by
  intro n
  induction n with
  | zero => intro x1 σ h; exact h.elim
  | succ n ih => intro x1 σ h; exact sb_X7_readHall_7 hc hZ hE26 ih h
def j_X7_readHall_172 (N : Nat) (Q : Int32 → kS → Prop) (s0 : Int32) (K : Int32 → kS → Prop) (σ : kS) : Prop :=
  if s0 ≤ 0 then (w_X7_isLetter N σ 116 (fun (r_29 : Int32) (σ_28 : kS) => if r_29 = 0 then (w_X7_faults N σ_28 1 (fun (r_31 : Int32) (σ_30 : kS) => K r_31 σ_30)) else (w_X7_readPiece N σ_28 (fun (r_33 : Int32) (σ_32 : kS) => K r_33 σ_32)))) else (w_X7_readPupil N σ s0 (fun (r_35 : Int32) (σ_34 : kS) => K r_35 σ_34))
set_option maxHeartbeats 4000000 in
set_option maxRecDepth 100000 in
theorem sj_X7_readHall_172 {X : kX} {g : kG} {N : Nat} {Q : Int32 → kS → Prop} (hc : kOk X g RX7 cX7_readHall 3 (some .boolean) 5) (hZ : kRz X g cX7_readHall Q) {s0 : Int32} {K : Int32 → kS → Prop} (hK : ∀ (x1 : Int32) (τ : kS), K x1 τ → kP X g 3 94 [(0, kz g 55), (1, .int x1)] [] τ) {σ : kS} (h : j_X7_readHall_172 N Q s0 K σ) : kP X g 3 172 [(0, kz g 55)] [.int s0] σ := by
  unfold j_X7_readHall_172 at h
  refine r_istore_n hc [(2, .int s0), (0, kz g 55)] dX7_readHall_172 (by decide) rfl ?_
  refine r_iload_n hc 0 dX7_readHall_173 rfl ?_
  refine r_if_le hc 185 dX7_readHall_174 (by decide) (fun q => ?_) (fun q => ?_)
  · have h := kif_t h q
    refine r_aload_n hc 1 dX7_readHall_185 rfl ?_
    refine r_bipush (v := 116) hc dX7_readHall_186 rfl ?_
    refine r_callVi (d := 0) hc (m_X7_isLetter h) cw_X7_isLetter wi_X7_isLetter ws_X7_isLetter lm_X7_108 (by decide) (by decide) rv_X7 rfl rfl (Nat.le_of_ble_eq_true rfl) dX7_readHall_188 (fun r_29 σ_28 h => ?_)
    refine r_if_eq hc 201 dX7_readHall_191 (by decide) (fun q => ?_) (fun q => ?_)
    · have h := kif_t h q
      refine r_aload_n hc 1 dX7_readHall_201 rfl ?_
      refine r_iconst (v := 1) hc dX7_readHall_202 rfl ?_
      refine r_callVi (d := 0) hc (m_X7_faults h) cw_X7_faults wi_X7_faults ws_X7_faults lm_X7_111 (by decide) (by decide) rv_X7 rfl rfl (Nat.le_of_ble_eq_true rfl) dX7_readHall_203 (fun r_31 σ_30 h => ?_)
      refine r_istore_n hc [(1, .int r_31), (2, .int s0), (0, kz g 55)] dX7_readHall_206 (by decide) rfl ?_
      refine r_goto hc 94 dX7_readHall_207 (by decide) ?_
      refine r_sub [2, 0] rfl ?_
      exact hK _ _ h
    · have h := kif_f h q
      refine r_aload_n hc 1 dX7_readHall_194 rfl ?_
      refine r_callVi (d := 3) hc (m_X7_readPiece h) cw_X7_readPiece wi_X7_readPiece ws_X7_readPiece lm_X7_127 (by decide) (by decide) rv_X7 rfl rfl (Nat.le_of_ble_eq_true rfl) dX7_readHall_195 (fun r_33 σ_32 h => ?_)
      refine r_goto hc 206 dX7_readHall_198 (by decide) ?_
      refine r_istore_n hc [(1, .int r_33), (2, .int s0), (0, kz g 55)] dX7_readHall_206 (by decide) rfl ?_
      refine r_goto hc 94 dX7_readHall_207 (by decide) ?_
      refine r_sub [2, 0] rfl ?_
      exact hK _ _ h
  · have h := kif_f h q
    refine r_aload_n hc 1 dX7_readHall_177 rfl ?_
    refine r_iload_n hc 0 dX7_readHall_178 rfl ?_
    refine r_callVi (d := 4) hc (m_X7_readPupil h) cw_X7_readPupil wi_X7_readPupil ws_X7_readPupil lm_X7_124 (by decide) (by decide) rv_X7 rfl rfl (Nat.le_of_ble_eq_true rfl) dX7_readHall_179 (fun r_35 σ_34 h => ?_)
    refine r_goto hc 206 dX7_readHall_182 (by decide) ?_
    refine r_istore_n hc [(1, .int r_35), (2, .int s0), (0, kz g 55)] dX7_readHall_206 (by decide) rfl ?_
    refine r_goto hc 94 dX7_readHall_207 (by decide) ?_
    refine r_sub [2, 0] rfl ?_
    exact hK _ _ h
def b_X7_readHall_94 (N : Nat) (Q : Int32 → kS → Prop) (K : Int32 → kS → Prop) (x1 : Int32) (σ : kS) : Prop :=
  if x1 = 0 then ((x1 = 0 ∨ x1 = 1) ∧ Q x1 σ) else (if (σ 55 11) = 3 then ((x1 = 0 ∨ x1 = 1) ∧ Q x1 σ) else (w_X7_isLetter N σ 112 (fun (r_19 : Int32) (σ_18 : kS) => if r_19 = 0 then (w_X7_isLetter N σ_18 118 (fun (r_21 : Int32) (σ_20 : kS) => if r_21 = 0 then (w_X7_isLetter N σ_20 115 (fun (r_23 : Int32) (σ_22 : kS) => if r_23 = 0 then (w_X7_isLetter N σ_22 99 (fun (r_25 : Int32) (σ_24 : kS) => if r_25 = 0 then (w_X7_isLetter N σ_24 109 (fun (r_27 : Int32) (σ_26 : kS) => if r_27 = 0 then (j_X7_readHall_172 N Q 0 K σ_26) else (j_X7_readHall_172 N Q 5 K σ_26))) else (j_X7_readHall_172 N Q 4 K σ_24))) else (j_X7_readHall_172 N Q 3 K σ_22))) else (j_X7_readHall_172 N Q 2 K σ_20))) else (j_X7_readHall_172 N Q 1 K σ_18))))
def l_X7_readHall_94 (N : Nat) (Q : Int32 → kS → Prop) : Nat → Int32 → kS → Prop
  | 0 => fun _ _ => False
  | n + 1 => b_X7_readHall_94 N Q (l_X7_readHall_94 N Q n)
set_option maxHeartbeats 4000000 in
set_option maxRecDepth 100000 in
theorem sb_X7_readHall_94 {X : kX} {g : kG} {N : Nat} {Q : Int32 → kS → Prop} (hc : kOk X g RX7 cX7_readHall 3 (some .boolean) 5) (hZ : kRz X g cX7_readHall Q) {K : Int32 → kS → Prop} (hK : ∀ (x1 : Int32) (τ : kS), K x1 τ → kP X g 3 94 [(0, kz g 55), (1, .int x1)] [] τ) {x1 : Int32} {σ : kS} (h : b_X7_readHall_94 N Q K x1 σ) : kP X g 3 94 [(0, kz g 55), (1, .int x1)] [] σ := by
  unfold b_X7_readHall_94 at h
  refine r_iload_n hc 1 dX7_readHall_94 rfl ?_
  refine r_if_eq hc 210 dX7_readHall_95 (by decide) (fun q => ?_) (fun q => ?_)
  · have h := kif_t h q
    refine r_iload_n hc 1 dX7_readHall_210 rfl ?_
    exact r_zret (ls0 := []) hZ dX7_readHall_211 h.1 h.2
  · have h := kif_f h q
    refine r_aload_n hc 0 dX7_readHall_98 rfl ?_
    refine gf_X7_11 hc lf_X7_91 dX7_readHall_99 ?_
    refine r_iconst (v := 3) hc dX7_readHall_102 rfl ?_
    refine r_ic_eq hc 210 dX7_readHall_103 (by decide) (fun q => ?_) (fun q => ?_)
    · have h := kif_t h q
      refine r_iload_n hc 1 dX7_readHall_210 rfl ?_
      exact r_zret (ls0 := []) hZ dX7_readHall_211 h.1 h.2
    · have h := kif_f h q
      refine r_aload_n hc 0 dX7_readHall_106 rfl ?_
      refine r_bipush (v := 112) hc dX7_readHall_107 rfl ?_
      refine r_callVi (d := 0) hc (m_X7_isLetter h) cw_X7_isLetter wi_X7_isLetter ws_X7_isLetter lm_X7_108 (by decide) (by decide) rv_X7 rfl rfl (Nat.le_of_ble_eq_true rfl) dX7_readHall_109 (fun r_19 σ_18 h => ?_)
      refine r_if_eq hc 119 dX7_readHall_112 (by decide) (fun q => ?_) (fun q => ?_)
      · have h := kif_t h q
        refine r_aload_n hc 0 dX7_readHall_119 rfl ?_
        refine r_bipush (v := 118) hc dX7_readHall_120 rfl ?_
        refine r_callVi (d := 0) hc (m_X7_isLetter h) cw_X7_isLetter wi_X7_isLetter ws_X7_isLetter lm_X7_108 (by decide) (by decide) rv_X7 rfl rfl (Nat.le_of_ble_eq_true rfl) dX7_readHall_122 (fun r_21 σ_20 h => ?_)
        refine r_if_eq hc 132 dX7_readHall_125 (by decide) (fun q => ?_) (fun q => ?_)
        · have h := kif_t h q
          refine r_aload_n hc 0 dX7_readHall_132 rfl ?_
          refine r_bipush (v := 115) hc dX7_readHall_133 rfl ?_
          refine r_callVi (d := 0) hc (m_X7_isLetter h) cw_X7_isLetter wi_X7_isLetter ws_X7_isLetter lm_X7_108 (by decide) (by decide) rv_X7 rfl rfl (Nat.le_of_ble_eq_true rfl) dX7_readHall_135 (fun r_23 σ_22 h => ?_)
          refine r_if_eq hc 145 dX7_readHall_138 (by decide) (fun q => ?_) (fun q => ?_)
          · have h := kif_t h q
            refine r_aload_n hc 0 dX7_readHall_145 rfl ?_
            refine r_bipush (v := 99) hc dX7_readHall_146 rfl ?_
            refine r_callVi (d := 0) hc (m_X7_isLetter h) cw_X7_isLetter wi_X7_isLetter ws_X7_isLetter lm_X7_108 (by decide) (by decide) rv_X7 rfl rfl (Nat.le_of_ble_eq_true rfl) dX7_readHall_148 (fun r_25 σ_24 h => ?_)
            refine r_if_eq hc 158 dX7_readHall_151 (by decide) (fun q => ?_) (fun q => ?_)
            · have h := kif_t h q
              refine r_aload_n hc 0 dX7_readHall_158 rfl ?_
              refine r_bipush (v := 109) hc dX7_readHall_159 rfl ?_
              refine r_callVi (d := 0) hc (m_X7_isLetter h) cw_X7_isLetter wi_X7_isLetter ws_X7_isLetter lm_X7_108 (by decide) (by decide) rv_X7 rfl rfl (Nat.le_of_ble_eq_true rfl) dX7_readHall_161 (fun r_27 σ_26 h => ?_)
              refine r_if_eq hc 171 dX7_readHall_164 (by decide) (fun q => ?_) (fun q => ?_)
              · have h := kif_t h q
                refine r_iconst (v := 0) hc dX7_readHall_171 rfl ?_
                refine r_sub [0] rfl ?_
                exact sj_X7_readHall_172 hc hZ hK h
              · have h := kif_f h q
                refine r_iconst (v := 5) hc dX7_readHall_167 rfl ?_
                refine r_goto hc 172 dX7_readHall_168 (by decide) ?_
                refine r_sub [0] rfl ?_
                exact sj_X7_readHall_172 hc hZ hK h
            · have h := kif_f h q
              refine r_iconst (v := 4) hc dX7_readHall_154 rfl ?_
              refine r_goto hc 172 dX7_readHall_155 (by decide) ?_
              refine r_sub [0] rfl ?_
              exact sj_X7_readHall_172 hc hZ hK h
          · have h := kif_f h q
            refine r_iconst (v := 3) hc dX7_readHall_141 rfl ?_
            refine r_goto hc 172 dX7_readHall_142 (by decide) ?_
            refine r_sub [0] rfl ?_
            exact sj_X7_readHall_172 hc hZ hK h
        · have h := kif_f h q
          refine r_iconst (v := 2) hc dX7_readHall_128 rfl ?_
          refine r_goto hc 172 dX7_readHall_129 (by decide) ?_
          refine r_sub [0] rfl ?_
          exact sj_X7_readHall_172 hc hZ hK h
      · have h := kif_f h q
        refine r_iconst (v := 1) hc dX7_readHall_115 rfl ?_
        refine r_goto hc 172 dX7_readHall_116 (by decide) ?_
        refine r_sub [0] rfl ?_
        exact sj_X7_readHall_172 hc hZ hK h
theorem sl_X7_readHall_94 {X : kX} {g : kG} {N : Nat} {Q : Int32 → kS → Prop} (hc : kOk X g RX7 cX7_readHall 3 (some .boolean) 5) (hZ : kRz X g cX7_readHall Q) : ∀ (n : Nat) (x1 : Int32) (σ : kS), l_X7_readHall_94 N Q n x1 σ → kP X g 3 94 [(0, kz g 55), (1, .int x1)] [] σ := by
  intro n
  induction n with
  | zero => intro x1 σ h; exact h.elim
  | succ n ih => intro x1 σ h; exact sb_X7_readHall_94 hc hZ ih h
def w_X7_readHall (N : Nat) (σ : kS) (Q : Int32 → kS → Prop) : Prop :=
  ∀ σ_1 : kS, σ_1 = st2 σ 55 10 0 → (l_X7_readHall_7 N Q (fun (σ_5 : kS) => w_X7_nextToken N σ_5 (fun (σ_6 : kS) => w_X7_takes N σ_6 107 (fun (r_9 : Int32) (σ_8 : kS) => if r_9 = 0 then (Q 0 σ_8) else (w_X7_takesNumber N σ_8 2 12 0 44 (fun (r_11 : Int32) (σ_10 : kS) => if r_11 = 0 then (Q 0 σ_10) else (vp_in 0 57 ∧ (w_X7_takesNumber N σ_10 0 ((σ_10 62 (0 : Int32).toNatClampNeg) - 1) 1 44 (fun (r_14 : Int32) (σ_13 : kS) => if r_14 = 0 then (Q 0 σ_13) else (vp_in 0 57 ∧ (w_X7_takesNumber N σ_13 0 ((σ_13 62 (0 : Int32).toNatClampNeg) - 1) 2 59 (fun (r_17 : Int32) (σ_16 : kS) => if r_17 = 0 then (Q 0 σ_16) else (l_X7_readHall_94 N Q  N 1 σ_16)))))))))))) N 0 σ_1)
set_option maxHeartbeats 4000000 in
set_option maxRecDepth 100000 in
theorem s_X7_readHall {X : kX} {g : kG} {N : Nat} {Q : Int32 → kS → Prop} (hc : kOk X g RX7 cX7_readHall 3 (some .boolean) 5) (hZ : kRz X g cX7_readHall Q) {σ : kS} (h : w_X7_readHall N σ Q) : kP X g 3 0 [(0, kz g 55)] [] σ := by
  unfold w_X7_readHall at h
  refine r_aload_n hc 0 dX7_readHall_0 rfl ?_
  refine r_iconst (v := 0) hc dX7_readHall_1 rfl ?_
  refine pf_X7_10 hc lf_X7_85 dX7_readHall_2 ?_
  refine r_nmS (fun σ_1 eσ_1 => ?_)
  have h := h σ_1 eσ_1
  refine r_iconst (v := 0) hc dX7_readHall_5 rfl ?_
  refine r_istore_n hc [(1, .int 0), (0, kz g 55)] dX7_readHall_6 (by decide) rfl ?_
  refine r_sub [1, 0] rfl ?_
  refine sl_X7_readHall_7 hc hZ (fun σ_5 h => ?_) _ _ _ h
  refine r_aload_n hc 0 dX7_readHall_26 rfl ?_
  refine r_callVv (d := 1) hc (m_X7_nextToken h) cw_X7_nextToken wi_X7_nextToken ws_X7_nextToken lm_X7_114 (by decide) (by decide) rv_X7 rfl rfl (Nat.le_of_ble_eq_true rfl) dX7_readHall_27 (fun σ_6 h => ?_)
  refine r_aload_n hc 0 dX7_readHall_30 rfl ?_
  refine r_bipush (v := 107) hc dX7_readHall_31 rfl ?_
  refine r_callVi (d := 2) hc (m_X7_takes h) cw_X7_takes wi_X7_takes ws_X7_takes lm_X7_117 (by decide) (by decide) rv_X7 rfl rfl (Nat.le_of_ble_eq_true rfl) dX7_readHall_33 (fun r_9 σ_8 h => ?_)
  refine r_if_eq hc 90 dX7_readHall_36 (by decide) (fun q => ?_) (fun q => ?_)
  · have h := kif_t h q
    refine r_iconst (v := 0) hc dX7_readHall_90 rfl ?_
    exact r_zret (ls0 := []) hZ dX7_readHall_91 (Or.inl rfl) h
  · have h := kif_f h q
    refine r_aload_n hc 0 dX7_readHall_39 rfl ?_
    refine r_iconst (v := 2) hc dX7_readHall_40 rfl ?_
    refine r_bipush (v := 12) hc dX7_readHall_41 rfl ?_
    refine r_iconst (v := 0) hc dX7_readHall_43 rfl ?_
    refine r_bipush (v := 44) hc dX7_readHall_44 rfl ?_
    refine r_callVi (d := 3) hc (m_X7_takesNumber h) cw_X7_takesNumber wi_X7_takesNumber ws_X7_takesNumber lm_X7_120 (by decide) (by decide) rv_X7 rfl rfl (Nat.le_of_ble_eq_true rfl) dX7_readHall_46 (fun r_11 σ_10 h => ?_)
    refine r_if_eq hc 90 dX7_readHall_49 (by decide) (fun q => ?_) (fun q => ?_)
    · have h := kif_t h q
      refine r_iconst (v := 0) hc dX7_readHall_90 rfl ?_
      exact r_zret (ls0 := []) hZ dX7_readHall_91 (Or.inl rfl) h
    · have h := kif_f h q
      refine r_aload_n hc 0 dX7_readHall_52 rfl ?_
      refine r_iconst (v := 0) hc dX7_readHall_53 rfl ?_
      refine r_aload_n hc 0 dX7_readHall_54 rfl ?_
      refine gf_X7_15 hc lf_X7_28 dX7_readHall_55 ?_
      refine r_iconst (v := 0) hc dX7_readHall_58 rfl ?_
      obtain ⟨hi_12, h⟩ := h
      refine r_iald hc kia_62 hi_12 dX7_readHall_59 ?_
      refine r_iconst (v := 1) hc dX7_readHall_60 rfl ?_
      refine r_isub hc dX7_readHall_61 ?_
      refine r_iconst (v := 1) hc dX7_readHall_62 rfl ?_
      refine r_bipush (v := 44) hc dX7_readHall_63 rfl ?_
      refine r_callVi (d := 3) hc (m_X7_takesNumber h) cw_X7_takesNumber wi_X7_takesNumber ws_X7_takesNumber lm_X7_120 (by decide) (by decide) rv_X7 rfl rfl (Nat.le_of_ble_eq_true rfl) dX7_readHall_65 (fun r_14 σ_13 h => ?_)
      refine r_if_eq hc 90 dX7_readHall_68 (by decide) (fun q => ?_) (fun q => ?_)
      · have h := kif_t h q
        refine r_iconst (v := 0) hc dX7_readHall_90 rfl ?_
        exact r_zret (ls0 := []) hZ dX7_readHall_91 (Or.inl rfl) h
      · have h := kif_f h q
        refine r_aload_n hc 0 dX7_readHall_71 rfl ?_
        refine r_iconst (v := 0) hc dX7_readHall_72 rfl ?_
        refine r_aload_n hc 0 dX7_readHall_73 rfl ?_
        refine gf_X7_15 hc lf_X7_28 dX7_readHall_74 ?_
        refine r_iconst (v := 0) hc dX7_readHall_77 rfl ?_
        obtain ⟨hi_15, h⟩ := h
        refine r_iald hc kia_62 hi_15 dX7_readHall_78 ?_
        refine r_iconst (v := 1) hc dX7_readHall_79 rfl ?_
        refine r_isub hc dX7_readHall_80 ?_
        refine r_iconst (v := 2) hc dX7_readHall_81 rfl ?_
        refine r_bipush (v := 59) hc dX7_readHall_82 rfl ?_
        refine r_callVi (d := 3) hc (m_X7_takesNumber h) cw_X7_takesNumber wi_X7_takesNumber ws_X7_takesNumber lm_X7_120 (by decide) (by decide) rv_X7 rfl rfl (Nat.le_of_ble_eq_true rfl) dX7_readHall_84 (fun r_17 σ_16 h => ?_)
        refine r_if_ne hc 92 dX7_readHall_87 (by decide) (fun q => ?_) (fun q => ?_)
        · have h := kif_t h q
          refine r_iconst (v := 0) hc dX7_readHall_90 rfl ?_
          exact r_zret (ls0 := []) hZ dX7_readHall_91 (Or.inl rfl) h
        · have h := kif_f h q
          refine r_iconst (v := 1) hc dX7_readHall_92 rfl ?_
          refine r_istore_n hc [(1, .int 1), (0, kz g 55)] dX7_readHall_93 (by decide) rfl ?_
          refine r_sub [1, 0] rfl ?_
          refine sl_X7_readHall_94 hc hZ _ _ _ h
theorem m_X7_readHall {l : Launch} {g : kG} {N : Nat} {σ : kS} {Q : Int32 → kS → Prop} (h : w_X7_readHall N σ Q) : kMi l g yX7_readHall cX7_readHall 3 (some .boolean) 5 [kz g 55] σ Q :=
  k_met_z (by decide +kernel) rfl (Nat.le_of_ble_eq_true rfl) (fun X hl hc hZ => s_X7_readHall hc hZ h)
def b_X7_hall_32 (N : Nat) (Q : Int32 → kS → Prop) (E56 : kS → Prop) (K : Int32 → kS → Prop) (x2 : Int32) (σ : kS) : Prop :=
  if 57 ≤ x2 then (E56 σ) else (vp_in x2 57 ∧ (vp_in x2 57 ∧ (∀ σ_7 : kS, σ_7 = st2 σ 59 (x2.toNatClampNeg) (σ 62 x2.toNatClampNeg) → (∀ x2_8 : Int32, x2_8 = x2 + 1 → (K x2_8 σ_7)))))
def l_X7_hall_32 (N : Nat) (Q : Int32 → kS → Prop) (E56 : kS → Prop) : Nat → Int32 → kS → Prop
  | 0 => fun _ _ => False
  | n + 1 => b_X7_hall_32 N Q E56 (l_X7_hall_32 N Q E56 n)
set_option maxHeartbeats 4000000 in
set_option maxRecDepth 100000 in
theorem sb_X7_hall_32 {X : kX} {g : kG} {N : Nat} {Q : Int32 → kS → Prop} (hc : kOk X g RX7 cX7_hall 3 (some .int) 6) (hZ : kRi X g cX7_hall Q) {E56 : kS → Prop} (hE56 : ∀ (τ : kS), E56 τ → kP X g 3 56 [(0, kz g 55)] [] τ) {K : Int32 → kS → Prop} (hK : ∀ (x2 : Int32) (τ : kS), K x2 τ → kP X g 3 32 [(0, kz g 55), (2, .int x2)] [] τ) {x2 : Int32} {σ : kS} (h : b_X7_hall_32 N Q E56 K x2 σ) : kP X g 3 32 [(0, kz g 55), (2, .int x2)] [] σ := by
  unfold b_X7_hall_32 at h
  refine r_iload_n hc 1 dX7_hall_32 rfl ?_
  refine r_bipush (v := 57) hc dX7_hall_33 rfl ?_
  refine r_ic_ge hc 56 dX7_hall_35 (by decide) (fun q => ?_) (fun q => ?_)
  · have h := kif_t h q
    refine r_sub [0] rfl ?_
    exact hE56 _ h
  · have h := kif_f h q
    refine r_aload_n hc 0 dX7_hall_38 rfl ?_
    refine gf_X7_5 hc lf_X7_19 dX7_hall_39 ?_
    refine r_iload_n hc 1 dX7_hall_42 rfl ?_
    refine r_aload_n hc 0 dX7_hall_43 rfl ?_
    refine gf_X7_15 hc lf_X7_28 dX7_hall_44 ?_
    refine r_iload_n hc 1 dX7_hall_47 rfl ?_
    obtain ⟨hi_5, h⟩ := h
    refine r_iald hc kia_62 hi_5 dX7_hall_48 ?_
    obtain ⟨hi_6, h⟩ := h
    refine r_iast hc kia_59 hi_6 dX7_hall_49 ?_
    refine r_nmS (fun σ_7 eσ_7 => ?_)
    have h := h σ_7 eσ_7
    obtain ⟨x2_8, ex2_8⟩ : ∃ v : Int32, v = x2 + 1 := ⟨_, rfl⟩
    have h := h x2_8 ex2_8
    refine r_iinc (v := x2_8) hc 1 [(2, .int x2_8), (0, kz g 55)] dX7_hall_50 rfl (by rw [ex2_8]; rfl) (by decide) rfl ?_
    refine r_goto hc 32 dX7_hall_53 (by decide) ?_
    refine r_sub [1, 0] rfl ?_
    exact hK _ _ h
theorem sl_X7_hall_32 {X : kX} {g : kG} {N : Nat} {Q : Int32 → kS → Prop} (hc : kOk X g RX7 cX7_hall 3 (some .int) 6) (hZ : kRi X g cX7_hall Q) {E56 : kS → Prop} (hE56 : ∀ (τ : kS), E56 τ → kP X g 3 56 [(0, kz g 55)] [] τ) : ∀ (n : Nat) (x2 : Int32) (σ : kS), l_X7_hall_32 N Q E56 n x2 σ → kP X g 3 32 [(0, kz g 55), (2, .int x2)] [] σ := by
  intro n
  induction n with
  | zero => intro x2 σ h; exact h.elim
  | succ n ih => intro x2 σ h; exact sb_X7_hall_32 hc hZ hE56 ih h
def w_X7_hall (N : Nat) (σ : kS) (Q : Int32 → kS → Prop) : Prop :=
  w_X7_readHall N σ (fun (r_2 : Int32) (σ_1 : kS) => ∀ σ_3 : kS, σ_3 = st2 σ_1 55 8 0 → (if r_2 = 0 then (∀ σ_4 : kS, σ_4 = st2 σ_3 55 9 (σ_3 55 14) → (Q ((-1000100) - (σ_4 55 13)) σ_4)) else (l_X7_hall_32 N Q (fun (σ_9 : kS) => ∀ σ_10 : kS, σ_10 = st2 σ_9 55 4 1 → (∀ σ_11 : kS, σ_11 = st2 σ_10 55 17 0 → (vp_in 4 57 ∧ (Q (σ_11 59 (4 : Int32).toNatClampNeg) σ_11)))) N 0 σ_3)))
set_option maxHeartbeats 4000000 in
set_option maxRecDepth 100000 in
theorem s_X7_hall {X : kX} {g : kG} {N : Nat} {Q : Int32 → kS → Prop} (hc : kOk X g RX7 cX7_hall 3 (some .int) 6) (hZ : kRi X g cX7_hall Q) {σ : kS} (h : w_X7_hall N σ Q) : kP X g 3 0 [(0, kz g 55)] [] σ := by
  unfold w_X7_hall at h
  refine r_aload_n hc 0 dX7_hall_0 rfl ?_
  refine r_callVi (d := 5) hc (m_X7_readHall h) cw_X7_readHall wi_X7_readHall ws_X7_readHall lm_X7_131 (by decide) (by decide) rv_X7 rfl rfl (Nat.le_of_ble_eq_true rfl) dX7_hall_1 (fun r_2 σ_1 h => ?_)
  refine r_istore_n hc [(1, .int r_2), (0, kz g 55)] dX7_hall_4 (by decide) rfl ?_
  refine r_aload_n hc 1 dX7_hall_5 rfl ?_
  refine r_iconst (v := 0) hc dX7_hall_6 rfl ?_
  refine pf_X7_8 hc lf_X7_81 dX7_hall_7 ?_
  refine r_nmS (fun σ_3 eσ_3 => ?_)
  have h := h σ_3 eσ_3
  refine r_iload_n hc 0 dX7_hall_10 rfl ?_
  refine r_if_ne hc 30 dX7_hall_11 (by decide) (fun q => ?_) (fun q => ?_)
  · have h := kif_t h q
    refine r_aload_n hc 1 dX7_hall_14 rfl ?_
    refine r_aload_n hc 1 dX7_hall_15 rfl ?_
    refine gf_X7_14 hc lf_X7_105 dX7_hall_16 ?_
    refine pf_X7_9 hc lf_X7_134 dX7_hall_19 ?_
    refine r_nmS (fun σ_4 eσ_4 => ?_)
    have h := h σ_4 eσ_4
    refine r_ldc hc lk_X7_137 dX7_hall_22 ?_
    refine r_aload_n hc 1 dX7_hall_24 rfl ?_
    refine gf_X7_13 hc lf_X7_88 dX7_hall_25 ?_
    refine r_isub hc dX7_hall_28 ?_
    exact r_iret (ls0 := []) hZ dX7_hall_29 h
  · have h := kif_f h q
    refine r_iconst (v := 0) hc dX7_hall_30 rfl ?_
    refine r_istore_n hc [(2, .int 0), (1, .int r_2), (0, kz g 55)] dX7_hall_31 (by decide) rfl ?_
    refine r_sub [2, 0] rfl ?_
    refine sl_X7_hall_32 hc hZ (fun σ_9 h => ?_) _ _ _ h
    refine r_aload_n hc 0 dX7_hall_56 rfl ?_
    refine r_iconst (v := 1) hc dX7_hall_57 rfl ?_
    refine pf_X7_4 hc lf_X7_138 (Or.inr rfl) dX7_hall_58 ?_
    refine r_nmS (fun σ_10 eσ_10 => ?_)
    have h := h σ_10 eσ_10
    refine r_aload_n hc 0 dX7_hall_61 rfl ?_
    refine r_iconst (v := 0) hc dX7_hall_62 rfl ?_
    refine pf_X7_17 hc lf_X7_142 dX7_hall_63 ?_
    refine r_nmS (fun σ_11 eσ_11 => ?_)
    have h := h σ_11 eσ_11
    refine r_aload_n hc 0 dX7_hall_66 rfl ?_
    refine gf_X7_5 hc lf_X7_19 dX7_hall_67 ?_
    refine r_iconst (v := 4) hc dX7_hall_70 rfl ?_
    obtain ⟨hi_12, h⟩ := h
    refine r_iald hc kia_59 hi_12 dX7_hall_71 ?_
    exact r_iret (ls0 := []) hZ dX7_hall_72 h
theorem m_X7_hall {l : Launch} {g : kG} {N : Nat} {σ : kS} {Q : Int32 → kS → Prop} (h : w_X7_hall N σ Q) : kMi l g yX7_hall cX7_hall 3 (some .int) 6 [kz g 55] σ Q :=
  k_met_i (by decide +kernel) rfl (Nat.le_of_ble_eq_true rfl) (fun X hl hc hZ => s_X7_hall hc hZ h)
def w_X7_fault (N : Nat) (σ : kS) (Q : Int32 → kS → Prop) : Prop :=
  Q (σ 55 9) σ
set_option maxHeartbeats 4000000 in
set_option maxRecDepth 100000 in
theorem s_X7_fault {X : kX} {g : kG} {N : Nat} {Q : Int32 → kS → Prop} (hc : kOk X g RX7 cX7_fault 1 (some .int) 0) (hZ : kRi X g cX7_fault Q) {σ : kS} (h : w_X7_fault N σ Q) : kP X g 1 0 [(0, kz g 55)] [] σ := by
  unfold w_X7_fault at h
  refine r_aload_n hc 0 dX7_fault_0 rfl ?_
  refine gf_X7_9 hc lf_X7_134 dX7_fault_1 ?_
  exact r_iret (ls0 := []) hZ dX7_fault_4 h
theorem m_X7_fault {l : Launch} {g : kG} {N : Nat} {σ : kS} {Q : Int32 → kS → Prop} (h : w_X7_fault N σ Q) : kMi l g yX7_fault cX7_fault 1 (some .int) 0 [kz g 55] σ Q :=
  k_met_i (by decide +kernel) rfl (Nat.le_of_ble_eq_true rfl) (fun X hl hc hZ => s_X7_fault hc hZ h)
def b_X7_note_11 (N : Nat) (Q : kS → Prop) (E39 : kS → Prop) (K : Int32 → kS → Prop) (x1 : Int32) (σ : kS) : Prop :=
  if 1311 ≤ x1 then (E39 σ) else (vp_in (x1 + 57) 1368 ∧ (vp_in x1 1368 ∧ (∀ σ_3 : kS, σ_3 = st2 σ 63 (x1.toNatClampNeg) (σ 63 (x1 + 57).toNatClampNeg) → (∀ x1_4 : Int32, x1_4 = x1 + 1 → (K x1_4 σ_3)))))
def l_X7_note_11 (N : Nat) (Q : kS → Prop) (E39 : kS → Prop) : Nat → Int32 → kS → Prop
  | 0 => fun _ _ => False
  | n + 1 => b_X7_note_11 N Q E39 (l_X7_note_11 N Q E39 n)
set_option maxHeartbeats 4000000 in
set_option maxRecDepth 100000 in
theorem sb_X7_note_11 {X : kX} {g : kG} {N : Nat} {Q : kS → Prop} (hc : kOk X g RX7 cX7_note 2 none 0) (hZ : kRw X g cX7_note Q) {E39 : kS → Prop} (hE39 : ∀ (τ : kS), E39 τ → kP X g 2 39 [(0, kz g 55)] [] τ) {K : Int32 → kS → Prop} (hK : ∀ (x1 : Int32) (τ : kS), K x1 τ → kP X g 2 11 [(0, kz g 55), (1, .int x1)] [] τ) {x1 : Int32} {σ : kS} (h : b_X7_note_11 N Q E39 K x1 σ) : kP X g 2 11 [(0, kz g 55), (1, .int x1)] [] σ := by
  unfold b_X7_note_11 at h
  refine r_iload_n hc 1 dX7_note_11 rfl ?_
  refine r_sipush (v := 1311) hc dX7_note_12 rfl ?_
  refine r_ic_ge hc 39 dX7_note_15 (by decide) (fun q => ?_) (fun q => ?_)
  · have h := kif_t h q
    refine r_sub [0] rfl ?_
    exact hE39 _ h
  · have h := kif_f h q
    refine r_aload_n hc 0 dX7_note_18 rfl ?_
    refine gf_X7_16 hc lf_X7_31 dX7_note_19 ?_
    refine r_iload_n hc 1 dX7_note_22 rfl ?_
    refine r_aload_n hc 0 dX7_note_23 rfl ?_
    refine gf_X7_16 hc lf_X7_31 dX7_note_24 ?_
    refine r_iload_n hc 1 dX7_note_27 rfl ?_
    refine r_bipush (v := 57) hc dX7_note_28 rfl ?_
    refine r_iadd hc dX7_note_30 ?_
    obtain ⟨hi_1, h⟩ := h
    refine r_iald hc kia_63 hi_1 dX7_note_31 ?_
    obtain ⟨hi_2, h⟩ := h
    refine r_iast hc kia_63 hi_2 dX7_note_32 ?_
    refine r_nmS (fun σ_3 eσ_3 => ?_)
    have h := h σ_3 eσ_3
    obtain ⟨x1_4, ex1_4⟩ : ∃ v : Int32, v = x1 + 1 := ⟨_, rfl⟩
    have h := h x1_4 ex1_4
    refine r_iinc (v := x1_4) hc 1 [(1, .int x1_4), (0, kz g 55)] dX7_note_33 rfl (by rw [ex1_4]; rfl) (by decide) rfl ?_
    refine r_goto hc 11 dX7_note_36 (by decide) ?_
    refine r_sub [1, 0] rfl ?_
    exact hK _ _ h
theorem sl_X7_note_11 {X : kX} {g : kG} {N : Nat} {Q : kS → Prop} (hc : kOk X g RX7 cX7_note 2 none 0) (hZ : kRw X g cX7_note Q) {E39 : kS → Prop} (hE39 : ∀ (τ : kS), E39 τ → kP X g 2 39 [(0, kz g 55)] [] τ) : ∀ (n : Nat) (x1 : Int32) (σ : kS), l_X7_note_11 N Q E39 n x1 σ → kP X g 2 11 [(0, kz g 55), (1, .int x1)] [] σ := by
  intro n
  induction n with
  | zero => intro x1 σ h; exact h.elim
  | succ n ih => intro x1 σ h; exact sb_X7_note_11 hc hZ hE39 ih h
def b_X7_note_51 (N : Nat) (Q : kS → Prop) (E83 : kS → Prop) (K : Int32 → kS → Prop) (x1 : Int32) (σ : kS) : Prop :=
  if 57 ≤ x1 then (E83 σ) else (vp_in x1 57 ∧ (vp_in ((57 * (σ 55 17)) + x1) 1368 ∧ (∀ σ_9 : kS, σ_9 = st2 σ 63 (((57 * (σ 55 17)) + x1).toNatClampNeg) (σ 59 x1.toNatClampNeg) → (∀ x1_10 : Int32, x1_10 = x1 + 1 → (K x1_10 σ_9)))))
def l_X7_note_51 (N : Nat) (Q : kS → Prop) (E83 : kS → Prop) : Nat → Int32 → kS → Prop
  | 0 => fun _ _ => False
  | n + 1 => b_X7_note_51 N Q E83 (l_X7_note_51 N Q E83 n)
set_option maxHeartbeats 4000000 in
set_option maxRecDepth 100000 in
theorem sb_X7_note_51 {X : kX} {g : kG} {N : Nat} {Q : kS → Prop} (hc : kOk X g RX7 cX7_note 2 none 0) (hZ : kRw X g cX7_note Q) {E83 : kS → Prop} (hE83 : ∀ (τ : kS), E83 τ → kP X g 2 83 [(0, kz g 55)] [] τ) {K : Int32 → kS → Prop} (hK : ∀ (x1 : Int32) (τ : kS), K x1 τ → kP X g 2 51 [(0, kz g 55), (1, .int x1)] [] τ) {x1 : Int32} {σ : kS} (h : b_X7_note_51 N Q E83 K x1 σ) : kP X g 2 51 [(0, kz g 55), (1, .int x1)] [] σ := by
  unfold b_X7_note_51 at h
  refine r_iload_n hc 1 dX7_note_51 rfl ?_
  refine r_bipush (v := 57) hc dX7_note_52 rfl ?_
  refine r_ic_ge hc 83 dX7_note_54 (by decide) (fun q => ?_) (fun q => ?_)
  · have h := kif_t h q
    refine r_sub [0] rfl ?_
    exact hE83 _ h
  · have h := kif_f h q
    refine r_aload_n hc 0 dX7_note_57 rfl ?_
    refine gf_X7_16 hc lf_X7_31 dX7_note_58 ?_
    refine r_bipush (v := 57) hc dX7_note_61 rfl ?_
    refine r_aload_n hc 0 dX7_note_63 rfl ?_
    refine gf_X7_17 hc lf_X7_142 dX7_note_64 ?_
    refine r_imul hc dX7_note_67 ?_
    refine r_iload_n hc 1 dX7_note_68 rfl ?_
    refine r_iadd hc dX7_note_69 ?_
    refine r_aload_n hc 0 dX7_note_70 rfl ?_
    refine gf_X7_5 hc lf_X7_19 dX7_note_71 ?_
    refine r_iload_n hc 1 dX7_note_74 rfl ?_
    obtain ⟨hi_7, h⟩ := h
    refine r_iald hc kia_59 hi_7 dX7_note_75 ?_
    obtain ⟨hi_8, h⟩ := h
    refine r_iast hc kia_63 hi_8 dX7_note_76 ?_
    refine r_nmS (fun σ_9 eσ_9 => ?_)
    have h := h σ_9 eσ_9
    obtain ⟨x1_10, ex1_10⟩ : ∃ v : Int32, v = x1 + 1 := ⟨_, rfl⟩
    have h := h x1_10 ex1_10
    refine r_iinc (v := x1_10) hc 1 [(1, .int x1_10), (0, kz g 55)] dX7_note_77 rfl (by rw [ex1_10]; rfl) (by decide) rfl ?_
    refine r_goto hc 51 dX7_note_80 (by decide) ?_
    refine r_sub [1, 0] rfl ?_
    exact hK _ _ h
theorem sl_X7_note_51 {X : kX} {g : kG} {N : Nat} {Q : kS → Prop} (hc : kOk X g RX7 cX7_note 2 none 0) (hZ : kRw X g cX7_note Q) {E83 : kS → Prop} (hE83 : ∀ (τ : kS), E83 τ → kP X g 2 83 [(0, kz g 55)] [] τ) : ∀ (n : Nat) (x1 : Int32) (σ : kS), l_X7_note_51 N Q E83 n x1 σ → kP X g 2 51 [(0, kz g 55), (1, .int x1)] [] σ := by
  intro n
  induction n with
  | zero => intro x1 σ h; exact h.elim
  | succ n ih => intro x1 σ h; exact sb_X7_note_51 hc hZ hE83 ih h
def w_X7_note (N : Nat) (σ : kS) (Q : kS → Prop) : Prop :=
  if (σ 55 17) = 24 then (l_X7_note_11 N Q (fun (σ_5 : kS) => ∀ σ_6 : kS, σ_6 = st2 σ_5 55 17 ((σ_5 55 17) - 1) → (l_X7_note_51 N Q (fun (σ_11 : kS) => ∀ σ_12 : kS, σ_12 = st2 σ_11 55 17 ((σ_11 55 17) + 1) → (Q σ_12)) N 0 σ_6)) N 0 σ) else (l_X7_note_51 N Q (fun (σ_13 : kS) => ∀ σ_14 : kS, σ_14 = st2 σ_13 55 17 ((σ_13 55 17) + 1) → (Q σ_14)) N 0 σ)
set_option maxHeartbeats 4000000 in
set_option maxRecDepth 100000 in
theorem s_X7_note {X : kX} {g : kG} {N : Nat} {Q : kS → Prop} (hc : kOk X g RX7 cX7_note 2 none 0) (hZ : kRw X g cX7_note Q) {σ : kS} (h : w_X7_note N σ Q) : kP X g 2 0 [(0, kz g 55)] [] σ := by
  unfold w_X7_note at h
  refine r_aload_n hc 0 dX7_note_0 rfl ?_
  refine gf_X7_17 hc lf_X7_142 dX7_note_1 ?_
  refine r_bipush (v := 24) hc dX7_note_4 rfl ?_
  refine r_ic_ne hc 49 dX7_note_6 (by decide) (fun q => ?_) (fun q => ?_)
  · have h := kif_t h q
    refine r_iconst (v := 0) hc dX7_note_9 rfl ?_
    refine r_istore_n hc [(1, .int 0), (0, kz g 55)] dX7_note_10 (by decide) rfl ?_
    refine r_sub [1, 0] rfl ?_
    refine sl_X7_note_11 hc hZ (fun σ_5 h => ?_) _ _ _ h
    refine r_aload_n hc 0 dX7_note_39 rfl ?_
    refine r_dup hc dX7_note_40 rfl ?_
    refine gf_X7_17 hc lf_X7_142 dX7_note_41 ?_
    refine r_iconst (v := 1) hc dX7_note_44 rfl ?_
    refine r_isub hc dX7_note_45 ?_
    refine pf_X7_17 hc lf_X7_142 dX7_note_46 ?_
    refine r_nmS (fun σ_6 eσ_6 => ?_)
    have h := h σ_6 eσ_6
    refine r_iconst (v := 0) hc dX7_note_49 rfl ?_
    refine r_istore_n hc [(1, .int 0), (0, kz g 55)] dX7_note_50 (by decide) rfl ?_
    refine r_sub [1, 0] rfl ?_
    refine sl_X7_note_51 hc hZ (fun σ_11 h => ?_) _ _ _ h
    refine r_aload_n hc 0 dX7_note_83 rfl ?_
    refine r_dup hc dX7_note_84 rfl ?_
    refine gf_X7_17 hc lf_X7_142 dX7_note_85 ?_
    refine r_iconst (v := 1) hc dX7_note_88 rfl ?_
    refine r_iadd hc dX7_note_89 ?_
    refine pf_X7_17 hc lf_X7_142 dX7_note_90 ?_
    refine r_nmS (fun σ_12 eσ_12 => ?_)
    have h := h σ_12 eσ_12
    exact r_vret (ls0 := []) hZ dX7_note_93 h
  · have h := kif_f h q
    refine r_iconst (v := 0) hc dX7_note_49 rfl ?_
    refine r_istore_n hc [(1, .int 0), (0, kz g 55)] dX7_note_50 (by decide) rfl ?_
    refine r_sub [1, 0] rfl ?_
    refine sl_X7_note_51 hc hZ (fun σ_13 h => ?_) _ _ _ h
    refine r_aload_n hc 0 dX7_note_83 rfl ?_
    refine r_dup hc dX7_note_84 rfl ?_
    refine gf_X7_17 hc lf_X7_142 dX7_note_85 ?_
    refine r_iconst (v := 1) hc dX7_note_88 rfl ?_
    refine r_iadd hc dX7_note_89 ?_
    refine pf_X7_17 hc lf_X7_142 dX7_note_90 ?_
    refine r_nmS (fun σ_14 eσ_14 => ?_)
    have h := h σ_14 eσ_14
    exact r_vret (ls0 := []) hZ dX7_note_93 h
theorem m_X7_note {l : Launch} {g : kG} {N : Nat} {σ : kS} {Q : kS → Prop} (h : w_X7_note N σ Q) : kMv l g yX7_note cX7_note 2 none 0 [kz g 55] σ Q :=
  k_met_v (by decide +kernel) rfl (Nat.le_of_ble_eq_true rfl) (fun X hl hc hZ => s_X7_note hc hZ h)
def b_X7_undo_22 (N : Nat) (Q : Int32 → kS → Prop) (K : Int32 → kS → Prop) (x1 : Int32) (σ : kS) : Prop :=
  if 57 ≤ x1 then (Q (σ 55 17) σ) else (vp_in ((57 * (σ 55 17)) + x1) 1368 ∧ (vp_in x1 57 ∧ (∀ σ_4 : kS, σ_4 = st2 σ 59 (x1.toNatClampNeg) (σ 63 ((57 * (σ 55 17)) + x1).toNatClampNeg) → (∀ x1_5 : Int32, x1_5 = x1 + 1 → (K x1_5 σ_4)))))
def l_X7_undo_22 (N : Nat) (Q : Int32 → kS → Prop) : Nat → Int32 → kS → Prop
  | 0 => fun _ _ => False
  | n + 1 => b_X7_undo_22 N Q (l_X7_undo_22 N Q n)
set_option maxHeartbeats 4000000 in
set_option maxRecDepth 100000 in
theorem sb_X7_undo_22 {X : kX} {g : kG} {N : Nat} {Q : Int32 → kS → Prop} (hc : kOk X g RX7 cX7_undo 2 (some .int) 0) (hZ : kRi X g cX7_undo Q) {K : Int32 → kS → Prop} (hK : ∀ (x1 : Int32) (τ : kS), K x1 τ → kP X g 2 22 [(0, kz g 55), (1, .int x1)] [] τ) {x1 : Int32} {σ : kS} (h : b_X7_undo_22 N Q K x1 σ) : kP X g 2 22 [(0, kz g 55), (1, .int x1)] [] σ := by
  unfold b_X7_undo_22 at h
  refine r_iload_n hc 1 dX7_undo_22 rfl ?_
  refine r_bipush (v := 57) hc dX7_undo_23 rfl ?_
  refine r_ic_ge hc 54 dX7_undo_25 (by decide) (fun q => ?_) (fun q => ?_)
  · have h := kif_t h q
    refine r_aload_n hc 0 dX7_undo_54 rfl ?_
    refine gf_X7_17 hc lf_X7_142 dX7_undo_55 ?_
    exact r_iret (ls0 := []) hZ dX7_undo_58 h
  · have h := kif_f h q
    refine r_aload_n hc 0 dX7_undo_28 rfl ?_
    refine gf_X7_5 hc lf_X7_19 dX7_undo_29 ?_
    refine r_iload_n hc 1 dX7_undo_32 rfl ?_
    refine r_aload_n hc 0 dX7_undo_33 rfl ?_
    refine gf_X7_16 hc lf_X7_31 dX7_undo_34 ?_
    refine r_bipush (v := 57) hc dX7_undo_37 rfl ?_
    refine r_aload_n hc 0 dX7_undo_39 rfl ?_
    refine gf_X7_17 hc lf_X7_142 dX7_undo_40 ?_
    refine r_imul hc dX7_undo_43 ?_
    refine r_iload_n hc 1 dX7_undo_44 rfl ?_
    refine r_iadd hc dX7_undo_45 ?_
    obtain ⟨hi_2, h⟩ := h
    refine r_iald hc kia_63 hi_2 dX7_undo_46 ?_
    obtain ⟨hi_3, h⟩ := h
    refine r_iast hc kia_59 hi_3 dX7_undo_47 ?_
    refine r_nmS (fun σ_4 eσ_4 => ?_)
    have h := h σ_4 eσ_4
    obtain ⟨x1_5, ex1_5⟩ : ∃ v : Int32, v = x1 + 1 := ⟨_, rfl⟩
    have h := h x1_5 ex1_5
    refine r_iinc (v := x1_5) hc 1 [(1, .int x1_5), (0, kz g 55)] dX7_undo_48 rfl (by rw [ex1_5]; rfl) (by decide) rfl ?_
    refine r_goto hc 22 dX7_undo_51 (by decide) ?_
    refine r_sub [1, 0] rfl ?_
    exact hK _ _ h
theorem sl_X7_undo_22 {X : kX} {g : kG} {N : Nat} {Q : Int32 → kS → Prop} (hc : kOk X g RX7 cX7_undo 2 (some .int) 0) (hZ : kRi X g cX7_undo Q) : ∀ (n : Nat) (x1 : Int32) (σ : kS), l_X7_undo_22 N Q n x1 σ → kP X g 2 22 [(0, kz g 55), (1, .int x1)] [] σ := by
  intro n
  induction n with
  | zero => intro x1 σ h; exact h.elim
  | succ n ih => intro x1 σ h; exact sb_X7_undo_22 hc hZ ih h
def w_X7_undo (N : Nat) (σ : kS) (Q : Int32 → kS → Prop) : Prop :=
  if (σ 55 17) = 0 then (Q (-1000002) σ) else (∀ σ_1 : kS, σ_1 = st2 σ 55 17 ((σ 55 17) - 1) → (l_X7_undo_22 N Q  N 0 σ_1))
set_option maxHeartbeats 4000000 in
set_option maxRecDepth 100000 in
theorem s_X7_undo {X : kX} {g : kG} {N : Nat} {Q : Int32 → kS → Prop} (hc : kOk X g RX7 cX7_undo 2 (some .int) 0) (hZ : kRi X g cX7_undo Q) {σ : kS} (h : w_X7_undo N σ Q) : kP X g 2 0 [(0, kz g 55)] [] σ := by
  unfold w_X7_undo at h
  refine r_aload_n hc 0 dX7_undo_0 rfl ?_
  refine gf_X7_17 hc lf_X7_142 dX7_undo_1 ?_
  refine r_if_ne hc 10 dX7_undo_4 (by decide) (fun q => ?_) (fun q => ?_)
  · have h := kif_t h q
    refine r_ldc hc lk_X7_145 dX7_undo_7 ?_
    exact r_iret (ls0 := []) hZ dX7_undo_9 h
  · have h := kif_f h q
    refine r_aload_n hc 0 dX7_undo_10 rfl ?_
    refine r_dup hc dX7_undo_11 rfl ?_
    refine gf_X7_17 hc lf_X7_142 dX7_undo_12 ?_
    refine r_iconst (v := 1) hc dX7_undo_15 rfl ?_
    refine r_isub hc dX7_undo_16 ?_
    refine pf_X7_17 hc lf_X7_142 dX7_undo_17 ?_
    refine r_nmS (fun σ_1 eσ_1 => ?_)
    have h := h σ_1 eσ_1
    refine r_iconst (v := 0) hc dX7_undo_20 rfl ?_
    refine r_istore_n hc [(1, .int 0), (0, kz g 55)] dX7_undo_21 (by decide) rfl ?_
    refine r_sub [1, 0] rfl ?_
    refine sl_X7_undo_22 hc hZ _ _ _ h
theorem m_X7_undo {l : Launch} {g : kG} {N : Nat} {σ : kS} {Q : Int32 → kS → Prop} (h : w_X7_undo N σ Q) : kMi l g yX7_undo cX7_undo 2 (some .int) 0 [kz g 55] σ Q :=
  k_met_i (by decide +kernel) rfl (Nat.le_of_ble_eq_true rfl) (fun X hl hc hZ => s_X7_undo hc hZ h)
def w_X7_over (N : Nat) (σ : kS) (x1 : Int32) (Q : Int32 → kS → Prop) : Prop :=
  vp_in 0 57 ∧ (¬ (σ 59 (0 : Int32).toNatClampNeg) = 0 ∧ (∀ x2_3 : Int32, x2_3 = krem x1 (σ 59 (0 : Int32).toNatClampNeg) → (if 0 ≤ x2_3 then (Q x2_3 σ) else (vp_in 0 57 ∧ (Q (x2_3 + (σ 59 (0 : Int32).toNatClampNeg)) σ)))))
set_option maxHeartbeats 4000000 in
set_option maxRecDepth 100000 in
theorem s_X7_over {X : kX} {g : kG} {N : Nat} {Q : Int32 → kS → Prop} (hc : kOk X g RX7 cX7_over 3 (some .int) 0) (hZ : kRi X g cX7_over Q) {σ : kS} {x1 : Int32} (h : w_X7_over N σ x1 Q) : kP X g 3 0 [(0, kz g 55), (1, .int x1)] [] σ := by
  unfold w_X7_over at h
  refine r_iload_n hc 1 dX7_over_0 rfl ?_
  refine r_aload_n hc 0 dX7_over_1 rfl ?_
  refine gf_X7_5 hc lf_X7_19 dX7_over_2 ?_
  refine r_iconst (v := 0) hc dX7_over_5 rfl ?_
  obtain ⟨hi_1, h⟩ := h
  refine r_iald hc kia_59 hi_1 dX7_over_6 ?_
  obtain ⟨hn_2, h⟩ := h
  refine r_irem hc dX7_over_7 hn_2 ?_
  refine r_nmI (fun x2_3 ex2_3 => ?_)
  have h := h x2_3 ex2_3
  refine r_istore_n hc [(2, .int x2_3), (0, kz g 55), (1, .int x1)] dX7_over_8 (by decide) rfl ?_
  refine r_iload_n hc 0 dX7_over_9 rfl ?_
  refine r_if_ge hc 24 dX7_over_10 (by decide) (fun q => ?_) (fun q => ?_)
  · have h := kif_t h q
    refine r_iload_n hc 0 dX7_over_24 rfl ?_
    exact r_iret (ls0 := []) hZ dX7_over_25 h
  · have h := kif_f h q
    refine r_iload_n hc 0 dX7_over_13 rfl ?_
    refine r_aload_n hc 1 dX7_over_14 rfl ?_
    refine gf_X7_5 hc lf_X7_19 dX7_over_15 ?_
    refine r_iconst (v := 0) hc dX7_over_18 rfl ?_
    obtain ⟨hi_4, h⟩ := h
    refine r_iald hc kia_59 hi_4 dX7_over_19 ?_
    refine r_iadd hc dX7_over_20 ?_
    refine r_goto hc 25 dX7_over_21 (by decide) ?_
    exact r_iret (ls0 := []) hZ dX7_over_25 h
theorem m_X7_over {l : Launch} {g : kG} {N : Nat} {σ : kS} {x1 : Int32} {Q : Int32 → kS → Prop} (h : w_X7_over N σ x1 Q) : kMi l g yX7_over cX7_over 3 (some .int) 0 [kz g 55, .int x1] σ Q :=
  k_met_i (by decide +kernel) rfl (Nat.le_of_ble_eq_true rfl) (fun X hl hc hZ => s_X7_over hc hZ h)
def w_X7_shiftIn (N : Nat) (σ : kS) (x1 : Int32) (Q : Int32 → kS → Prop) : Prop :=
  vp_in 2 57 ∧ (vp_in 1 57 ∧ (w_X7_over N σ ((σ 59 (2 : Int32).toNatClampNeg) + (x1 * (σ 59 (1 : Int32).toNatClampNeg))) (fun (r_4 : Int32) (σ_3 : kS) => Q r_4 σ_3)))
set_option maxHeartbeats 4000000 in
set_option maxRecDepth 100000 in
theorem s_X7_shiftIn {X : kX} {g : kG} {N : Nat} {Q : Int32 → kS → Prop} (hc : kOk X g RX7 cX7_shiftIn 2 (some .int) 1) (hZ : kRi X g cX7_shiftIn Q) {σ : kS} {x1 : Int32} (h : w_X7_shiftIn N σ x1 Q) : kP X g 2 0 [(0, kz g 55), (1, .int x1)] [] σ := by
  unfold w_X7_shiftIn at h
  refine r_aload_n hc 0 dX7_shiftIn_0 rfl ?_
  refine r_aload_n hc 0 dX7_shiftIn_1 rfl ?_
  refine gf_X7_5 hc lf_X7_19 dX7_shiftIn_2 ?_
  refine r_iconst (v := 2) hc dX7_shiftIn_5 rfl ?_
  obtain ⟨hi_1, h⟩ := h
  refine r_iald hc kia_59 hi_1 dX7_shiftIn_6 ?_
  refine r_iload_n hc 1 dX7_shiftIn_7 rfl ?_
  refine r_aload_n hc 0 dX7_shiftIn_8 rfl ?_
  refine gf_X7_5 hc lf_X7_19 dX7_shiftIn_9 ?_
  refine r_iconst (v := 1) hc dX7_shiftIn_12 rfl ?_
  obtain ⟨hi_2, h⟩ := h
  refine r_iald hc kia_59 hi_2 dX7_shiftIn_13 ?_
  refine r_imul hc dX7_shiftIn_14 ?_
  refine r_iadd hc dX7_shiftIn_15 ?_
  refine r_callVi (d := 0) hc (m_X7_over h) cw_X7_over wi_X7_over ws_X7_over lm_X7_146 (by decide) (by decide) rv_X7 rfl rfl (Nat.le_of_ble_eq_true rfl) dX7_shiftIn_16 (fun r_4 σ_3 h => ?_)
  exact r_iret (ls0 := []) hZ dX7_shiftIn_19 h
theorem m_X7_shiftIn {l : Launch} {g : kG} {N : Nat} {σ : kS} {x1 : Int32} {Q : Int32 → kS → Prop} (h : w_X7_shiftIn N σ x1 Q) : kMi l g yX7_shiftIn cX7_shiftIn 2 (some .int) 1 [kz g 55, .int x1] σ Q :=
  k_met_i (by decide +kernel) rfl (Nat.le_of_ble_eq_true rfl) (fun X hl hc hZ => s_X7_shiftIn hc hZ h)
def b_X7_nights_44 (N : Nat) (Q : Int32 → kS → Prop) (x1 : Int32) (K : Int32 → kS → Prop) (x2 : Int32) (σ : kS) : Prop :=
  if x1 ≤ x2 then (vp_in 2 57 ∧ (Q (σ 59 (2 : Int32).toNatClampNeg) σ)) else (w_X7_note N σ (fun (σ_5 : kS) => w_X7_shiftIn N σ_5 1 (fun (r_8 : Int32) (σ_7 : kS) => vp_in 2 57 ∧ (∀ σ_10 : kS, σ_10 = st2 σ_7 59 ((2 : Int32).toNatClampNeg) r_8 → (vp_in 5 57 ∧ (vp_in 5 57 ∧ (∀ σ_13 : kS, σ_13 = st2 σ_10 59 ((5 : Int32).toNatClampNeg) ((σ_10 59 (5 : Int32).toNatClampNeg) + 1) → (∀ x2_14 : Int32, x2_14 = x2 + 1 → (K x2_14 σ_13)))))))))
def l_X7_nights_44 (N : Nat) (Q : Int32 → kS → Prop) (x1 : Int32) : Nat → Int32 → kS → Prop
  | 0 => fun _ _ => False
  | n + 1 => b_X7_nights_44 N Q x1 (l_X7_nights_44 N Q x1 n)
set_option maxHeartbeats 4000000 in
set_option maxRecDepth 100000 in
theorem sb_X7_nights_44 {X : kX} {g : kG} {N : Nat} {Q : Int32 → kS → Prop} (hc : kOk X g RX7 cX7_nights 3 (some .int) 2) (hZ : kRi X g cX7_nights Q) {x1 : Int32} {K : Int32 → kS → Prop} (hK : ∀ (x2 : Int32) (τ : kS), K x2 τ → kP X g 3 44 [(0, kz g 55), (1, .int x1), (2, .int x2)] [] τ) {x2 : Int32} {σ : kS} (h : b_X7_nights_44 N Q x1 K x2 σ) : kP X g 3 44 [(0, kz g 55), (1, .int x1), (2, .int x2)] [] σ := by
  unfold b_X7_nights_44 at h
  refine r_iload_n hc 2 dX7_nights_44 rfl ?_
  refine r_iload_n hc 1 dX7_nights_45 rfl ?_
  refine r_ic_ge hc 80 dX7_nights_46 (by decide) (fun q => ?_) (fun q => ?_)
  · have h := kif_t h q
    refine r_aload_n hc 0 dX7_nights_80 rfl ?_
    refine gf_X7_5 hc lf_X7_19 dX7_nights_81 ?_
    refine r_iconst (v := 2) hc dX7_nights_84 rfl ?_
    obtain ⟨hi_4, h⟩ := h
    refine r_iald hc kia_59 hi_4 dX7_nights_85 ?_
    exact r_iret (ls0 := []) hZ dX7_nights_86 h
  · have h := kif_f h q
    refine r_aload_n hc 0 dX7_nights_49 rfl ?_
    refine r_callVv (d := 0) hc (m_X7_note h) cw_X7_note wi_X7_note ws_X7_note lm_X7_151 (by decide) (by decide) rv_X7 rfl rfl (Nat.le_of_ble_eq_true rfl) dX7_nights_50 (fun σ_5 h => ?_)
    refine r_aload_n hc 0 dX7_nights_53 rfl ?_
    refine gf_X7_5 hc lf_X7_19 dX7_nights_54 ?_
    refine r_iconst (v := 2) hc dX7_nights_57 rfl ?_
    refine r_aload_n hc 0 dX7_nights_58 rfl ?_
    refine r_iconst (v := 1) hc dX7_nights_59 rfl ?_
    refine r_callVi (d := 1) hc (m_X7_shiftIn h) cw_X7_shiftIn wi_X7_shiftIn ws_X7_shiftIn lm_X7_154 (by decide) (by decide) rv_X7 rfl rfl (Nat.le_of_ble_eq_true rfl) dX7_nights_60 (fun r_8 σ_7 h => ?_)
    obtain ⟨hi_9, h⟩ := h
    refine r_iast hc kia_59 hi_9 dX7_nights_63 ?_
    refine r_nmS (fun σ_10 eσ_10 => ?_)
    have h := h σ_10 eσ_10
    refine r_aload_n hc 0 dX7_nights_64 rfl ?_
    refine gf_X7_5 hc lf_X7_19 dX7_nights_65 ?_
    refine r_iconst (v := 5) hc dX7_nights_68 rfl ?_
    refine r_dup2 hc dX7_nights_69 rfl rfl ?_
    obtain ⟨hi_11, h⟩ := h
    refine r_iald hc kia_59 hi_11 dX7_nights_70 ?_
    refine r_iconst (v := 1) hc dX7_nights_71 rfl ?_
    refine r_iadd hc dX7_nights_72 ?_
    obtain ⟨hi_12, h⟩ := h
    refine r_iast hc kia_59 hi_12 dX7_nights_73 ?_
    refine r_nmS (fun σ_13 eσ_13 => ?_)
    have h := h σ_13 eσ_13
    obtain ⟨x2_14, ex2_14⟩ : ∃ v : Int32, v = x2 + 1 := ⟨_, rfl⟩
    have h := h x2_14 ex2_14
    refine r_iinc (v := x2_14) hc 2 [(2, .int x2_14), (0, kz g 55), (1, .int x1)] dX7_nights_74 rfl (by rw [ex2_14]; rfl) (by decide) rfl ?_
    refine r_goto hc 44 dX7_nights_77 (by decide) ?_
    refine r_sub [1, 2, 0] rfl ?_
    exact hK _ _ h
theorem sl_X7_nights_44 {X : kX} {g : kG} {N : Nat} {Q : Int32 → kS → Prop} (hc : kOk X g RX7 cX7_nights 3 (some .int) 2) (hZ : kRi X g cX7_nights Q) {x1 : Int32} : ∀ (n : Nat) (x2 : Int32) (σ : kS), l_X7_nights_44 N Q x1 n x2 σ → kP X g 3 44 [(0, kz g 55), (1, .int x1), (2, .int x2)] [] σ := by
  intro n
  induction n with
  | zero => intro x2 σ h; exact h.elim
  | succ n ih => intro x2 σ h; exact sb_X7_nights_44 hc hZ ih h
def w_X7_nights (N : Nat) (σ : kS) (x1 : Int32) (Q : Int32 → kS → Prop) : Prop :=
  if (σ 55 4) = 0 then (Q (-1000002) σ) else (w_X7_in N σ (x1.toInt64) 1 24 (fun (r_2 : Int32) (σ_1 : kS) => if r_2 = 0 then (Q (-1000001) σ_1) else (vp_in 5 57 ∧ (if ((σ_1 59 (5 : Int32).toNatClampNeg) + x1) ≤ 999 then (l_X7_nights_44 N Q x1  N 0 σ_1) else (Q (-1000003) σ_1)))))
set_option maxHeartbeats 4000000 in
set_option maxRecDepth 100000 in
theorem s_X7_nights {X : kX} {g : kG} {N : Nat} {Q : Int32 → kS → Prop} (hc : kOk X g RX7 cX7_nights 3 (some .int) 2) (hZ : kRi X g cX7_nights Q) {σ : kS} {x1 : Int32} (h : w_X7_nights N σ x1 Q) : kP X g 3 0 [(0, kz g 55), (1, .int x1)] [] σ := by
  unfold w_X7_nights at h
  refine r_aload_n hc 0 dX7_nights_0 rfl ?_
  refine gf_X7_4 hc lf_X7_138 dX7_nights_1 ?_
  refine r_if_ne hc 10 dX7_nights_4 (by decide) (fun q => ?_) (fun q => ?_)
  · have h := kif_t h q
    refine r_ldc hc lk_X7_145 dX7_nights_7 ?_
    exact r_iret (ls0 := []) hZ dX7_nights_9 h
  · have h := kif_f h q
    refine r_iload_n hc 1 dX7_nights_10 rfl ?_
    refine r_i2l hc dX7_nights_11 ?_
    refine r_lconst (v := 1) hc dX7_nights_12 rfl ?_
    refine r_ldc2_w hc lK_X7_149 dX7_nights_13 ?_
    refine r_callSi (d := 0) hc (m_X7_in h) cw_X7_in wt_X7_in lm_X7_57 (by decide) (by decide) rfl rfl (Nat.le_of_ble_eq_true rfl) dX7_nights_16 (fun r_2 σ_1 h => ?_)
    refine r_if_ne hc 25 dX7_nights_19 (by decide) (fun q => ?_) (fun q => ?_)
    · have h := kif_t h q
      refine r_ldc hc lk_X7_67 dX7_nights_22 ?_
      exact r_iret (ls0 := []) hZ dX7_nights_24 h
    · have h := kif_f h q
      refine r_aload_n hc 0 dX7_nights_25 rfl ?_
      refine gf_X7_5 hc lf_X7_19 dX7_nights_26 ?_
      refine r_iconst (v := 5) hc dX7_nights_29 rfl ?_
      obtain ⟨hi_3, h⟩ := h
      refine r_iald hc kia_59 hi_3 dX7_nights_30 ?_
      refine r_iload_n hc 1 dX7_nights_31 rfl ?_
      refine r_iadd hc dX7_nights_32 ?_
      refine r_sipush (v := 999) hc dX7_nights_33 rfl ?_
      refine r_ic_le hc 42 dX7_nights_36 (by decide) (fun q => ?_) (fun q => ?_)
      · have h := kif_t h q
        refine r_iconst (v := 0) hc dX7_nights_42 rfl ?_
        refine r_istore_n hc [(2, .int 0), (0, kz g 55), (1, .int x1)] dX7_nights_43 (by decide) rfl ?_
        refine r_sub [1, 2, 0] rfl ?_
        refine sl_X7_nights_44 hc hZ _ _ _ h
      · have h := kif_f h q
        refine r_ldc hc lk_X7_84 dX7_nights_39 ?_
        exact r_iret (ls0 := []) hZ dX7_nights_41 h
theorem m_X7_nights {l : Launch} {g : kG} {N : Nat} {σ : kS} {x1 : Int32} {Q : Int32 → kS → Prop} (h : w_X7_nights N σ x1 Q) : kMi l g yX7_nights cX7_nights 3 (some .int) 2 [kz g 55, .int x1] σ Q :=
  k_met_i (by decide +kernel) rfl (Nat.le_of_ble_eq_true rfl) (fun X hl hc hZ => s_X7_nights hc hZ h)
def w_X7_thunder (N : Nat) (σ : kS) (x1 : Int32) (Q : Int32 → kS → Prop) : Prop :=
  if (σ 55 4) = 0 then (Q (-1000002) σ) else (w_X7_in N σ (x1.toInt64) 1 11 (fun (r_2 : Int32) (σ_1 : kS) => if r_2 = 0 then (Q (-1000001) σ_1) else (w_X7_note N σ_1 (fun (σ_3 : kS) => vp_in 2 57 ∧ (w_X7_over N σ_3 ((σ_3 59 (2 : Int32).toNatClampNeg) + x1) (fun (r_7 : Int32) (σ_6 : kS) => vp_in 2 57 ∧ (∀ σ_9 : kS, σ_9 = st2 σ_6 59 ((2 : Int32).toNatClampNeg) r_7 → (vp_in 2 57 ∧ (Q (σ_9 59 (2 : Int32).toNatClampNeg) σ_9)))))))))
set_option maxHeartbeats 4000000 in
set_option maxRecDepth 100000 in
theorem s_X7_thunder {X : kX} {g : kG} {N : Nat} {Q : Int32 → kS → Prop} (hc : kOk X g RX7 cX7_thunder 2 (some .int) 1) (hZ : kRi X g cX7_thunder Q) {σ : kS} {x1 : Int32} (h : w_X7_thunder N σ x1 Q) : kP X g 2 0 [(0, kz g 55), (1, .int x1)] [] σ := by
  unfold w_X7_thunder at h
  refine r_aload_n hc 0 dX7_thunder_0 rfl ?_
  refine gf_X7_4 hc lf_X7_138 dX7_thunder_1 ?_
  refine r_if_ne hc 10 dX7_thunder_4 (by decide) (fun q => ?_) (fun q => ?_)
  · have h := kif_t h q
    refine r_ldc hc lk_X7_145 dX7_thunder_7 ?_
    exact r_iret (ls0 := []) hZ dX7_thunder_9 h
  · have h := kif_f h q
    refine r_iload_n hc 1 dX7_thunder_10 rfl ?_
    refine r_i2l hc dX7_thunder_11 ?_
    refine r_lconst (v := 1) hc dX7_thunder_12 rfl ?_
    refine r_ldc2_w hc lK_X7_157 dX7_thunder_13 ?_
    refine r_callSi (d := 0) hc (m_X7_in h) cw_X7_in wt_X7_in lm_X7_57 (by decide) (by decide) rfl rfl (Nat.le_of_ble_eq_true rfl) dX7_thunder_16 (fun r_2 σ_1 h => ?_)
    refine r_if_ne hc 25 dX7_thunder_19 (by decide) (fun q => ?_) (fun q => ?_)
    · have h := kif_t h q
      refine r_ldc hc lk_X7_67 dX7_thunder_22 ?_
      exact r_iret (ls0 := []) hZ dX7_thunder_24 h
    · have h := kif_f h q
      refine r_aload_n hc 0 dX7_thunder_25 rfl ?_
      refine r_callVv (d := 0) hc (m_X7_note h) cw_X7_note wi_X7_note ws_X7_note lm_X7_151 (by decide) (by decide) rv_X7 rfl rfl (Nat.le_of_ble_eq_true rfl) dX7_thunder_26 (fun σ_3 h => ?_)
      refine r_aload_n hc 0 dX7_thunder_29 rfl ?_
      refine gf_X7_5 hc lf_X7_19 dX7_thunder_30 ?_
      refine r_iconst (v := 2) hc dX7_thunder_33 rfl ?_
      refine r_aload_n hc 0 dX7_thunder_34 rfl ?_
      refine r_aload_n hc 0 dX7_thunder_35 rfl ?_
      refine gf_X7_5 hc lf_X7_19 dX7_thunder_36 ?_
      refine r_iconst (v := 2) hc dX7_thunder_39 rfl ?_
      obtain ⟨hi_5, h⟩ := h
      refine r_iald hc kia_59 hi_5 dX7_thunder_40 ?_
      refine r_iload_n hc 1 dX7_thunder_41 rfl ?_
      refine r_iadd hc dX7_thunder_42 ?_
      refine r_callVi (d := 0) hc (m_X7_over h) cw_X7_over wi_X7_over ws_X7_over lm_X7_146 (by decide) (by decide) rv_X7 rfl rfl (Nat.le_of_ble_eq_true rfl) dX7_thunder_43 (fun r_7 σ_6 h => ?_)
      obtain ⟨hi_8, h⟩ := h
      refine r_iast hc kia_59 hi_8 dX7_thunder_46 ?_
      refine r_nmS (fun σ_9 eσ_9 => ?_)
      have h := h σ_9 eσ_9
      refine r_aload_n hc 0 dX7_thunder_47 rfl ?_
      refine gf_X7_5 hc lf_X7_19 dX7_thunder_48 ?_
      refine r_iconst (v := 2) hc dX7_thunder_51 rfl ?_
      obtain ⟨hi_10, h⟩ := h
      refine r_iald hc kia_59 hi_10 dX7_thunder_52 ?_
      exact r_iret (ls0 := []) hZ dX7_thunder_53 h
theorem m_X7_thunder {l : Launch} {g : kG} {N : Nat} {σ : kS} {x1 : Int32} {Q : Int32 → kS → Prop} (h : w_X7_thunder N σ x1 Q) : kMi l g yX7_thunder cX7_thunder 2 (some .int) 1 [kz g 55, .int x1] σ Q :=
  k_met_i (by decide +kernel) rfl (Nat.le_of_ble_eq_true rfl) (fun X hl hc hZ => s_X7_thunder hc hZ h)
def w_X7_tune (N : Nat) (σ : kS) (Q : Int32 → kS → Prop) : Prop :=
  if (σ 55 4) = 0 then (Q (-1000002) σ) else (w_X7_note N σ (fun (σ_1 : kS) => vp_in 2 57 ∧ (∀ x1_4 : Int32, x1_4 = σ_1 59 (2 : Int32).toNatClampNeg → (vp_in 2 57 ∧ (∀ σ_6 : kS, σ_6 = st2 σ_1 59 ((2 : Int32).toNatClampNeg) 0 → (Q x1_4 σ_6))))))
set_option maxHeartbeats 4000000 in
set_option maxRecDepth 100000 in
theorem s_X7_tune {X : kX} {g : kG} {N : Nat} {Q : Int32 → kS → Prop} (hc : kOk X g RX7 cX7_tune 2 (some .int) 1) (hZ : kRi X g cX7_tune Q) {σ : kS} (h : w_X7_tune N σ Q) : kP X g 2 0 [(0, kz g 55)] [] σ := by
  unfold w_X7_tune at h
  refine r_aload_n hc 0 dX7_tune_0 rfl ?_
  refine gf_X7_4 hc lf_X7_138 dX7_tune_1 ?_
  refine r_if_ne hc 10 dX7_tune_4 (by decide) (fun q => ?_) (fun q => ?_)
  · have h := kif_t h q
    refine r_ldc hc lk_X7_145 dX7_tune_7 ?_
    exact r_iret (ls0 := []) hZ dX7_tune_9 h
  · have h := kif_f h q
    refine r_aload_n hc 0 dX7_tune_10 rfl ?_
    refine r_callVv (d := 0) hc (m_X7_note h) cw_X7_note wi_X7_note ws_X7_note lm_X7_151 (by decide) (by decide) rv_X7 rfl rfl (Nat.le_of_ble_eq_true rfl) dX7_tune_11 (fun σ_1 h => ?_)
    refine r_aload_n hc 0 dX7_tune_14 rfl ?_
    refine gf_X7_5 hc lf_X7_19 dX7_tune_15 ?_
    refine r_iconst (v := 2) hc dX7_tune_18 rfl ?_
    obtain ⟨hi_3, h⟩ := h
    refine r_iald hc kia_59 hi_3 dX7_tune_19 ?_
    refine r_nmI (fun x1_4 ex1_4 => ?_)
    have h := h x1_4 ex1_4
    refine r_istore_n hc [(1, .int x1_4), (0, kz g 55)] dX7_tune_20 (by decide) rfl ?_
    refine r_aload_n hc 1 dX7_tune_21 rfl ?_
    refine gf_X7_5 hc lf_X7_19 dX7_tune_22 ?_
    refine r_iconst (v := 2) hc dX7_tune_25 rfl ?_
    refine r_iconst (v := 0) hc dX7_tune_26 rfl ?_
    obtain ⟨hi_5, h⟩ := h
    refine r_iast hc kia_59 hi_5 dX7_tune_27 ?_
    refine r_nmS (fun σ_6 eσ_6 => ?_)
    have h := h σ_6 eσ_6
    refine r_iload_n hc 0 dX7_tune_28 rfl ?_
    exact r_iret (ls0 := []) hZ dX7_tune_29 h
theorem m_X7_tune {l : Launch} {g : kG} {N : Nat} {σ : kS} {Q : Int32 → kS → Prop} (h : w_X7_tune N σ Q) : kMi l g yX7_tune cX7_tune 2 (some .int) 1 [kz g 55] σ Q :=
  k_met_i (by decide +kernel) rfl (Nat.le_of_ble_eq_true rfl) (fun X hl hc hZ => s_X7_tune hc hZ h)
def w_X7_isPupil (N : Nat) (σ : kS) (x1 : Int32) (Q : Int32 → kS → Prop) : Prop :=
  vp_in 4 57 ∧ (w_X7_in N σ (x1.toInt64) 0 (((σ 59 (4 : Int32).toNatClampNeg) - 1).toInt64) (fun (r_3 : Int32) (σ_2 : kS) => (r_3 = 0 ∨ r_3 = 1) ∧ Q r_3 σ_2))
set_option maxHeartbeats 4000000 in
set_option maxRecDepth 100000 in
theorem s_X7_isPupil {X : kX} {g : kG} {N : Nat} {Q : Int32 → kS → Prop} (hc : kOk X g RX7 cX7_isPupil 2 (some .boolean) 1) (hZ : kRz X g cX7_isPupil Q) {σ : kS} {x1 : Int32} (h : w_X7_isPupil N σ x1 Q) : kP X g 2 0 [(0, kz g 55), (1, .int x1)] [] σ := by
  unfold w_X7_isPupil at h
  refine r_iload_n hc 1 dX7_isPupil_0 rfl ?_
  refine r_i2l hc dX7_isPupil_1 ?_
  refine r_lconst (v := 0) hc dX7_isPupil_2 rfl ?_
  refine r_aload_n hc 0 dX7_isPupil_3 rfl ?_
  refine gf_X7_5 hc lf_X7_19 dX7_isPupil_4 ?_
  refine r_iconst (v := 4) hc dX7_isPupil_7 rfl ?_
  obtain ⟨hi_1, h⟩ := h
  refine r_iald hc kia_59 hi_1 dX7_isPupil_8 ?_
  refine r_iconst (v := 1) hc dX7_isPupil_9 rfl ?_
  refine r_isub hc dX7_isPupil_10 ?_
  refine r_i2l hc dX7_isPupil_11 ?_
  refine r_callSi (d := 0) hc (m_X7_in h) cw_X7_in wt_X7_in lm_X7_57 (by decide) (by decide) rfl rfl (Nat.le_of_ble_eq_true rfl) dX7_isPupil_12 (fun r_3 σ_2 h => ?_)
  exact r_zret (ls0 := []) hZ dX7_isPupil_15 h.1 h.2
theorem m_X7_isPupil {l : Launch} {g : kG} {N : Nat} {σ : kS} {x1 : Int32} {Q : Int32 → kS → Prop} (h : w_X7_isPupil N σ x1 Q) : kMi l g yX7_isPupil cX7_isPupil 2 (some .boolean) 1 [kz g 55, .int x1] σ Q :=
  k_met_z (by decide +kernel) rfl (Nat.le_of_ble_eq_true rfl) (fun X hl hc hZ => s_X7_isPupil hc hZ h)
def w_X7_isPiece (N : Nat) (σ : kS) (x1 : Int32) (Q : Int32 → kS → Prop) : Prop :=
  vp_in 3 57 ∧ (w_X7_in N σ (x1.toInt64) 0 (((σ 59 (3 : Int32).toNatClampNeg) - 1).toInt64) (fun (r_3 : Int32) (σ_2 : kS) => (r_3 = 0 ∨ r_3 = 1) ∧ Q r_3 σ_2))
set_option maxHeartbeats 4000000 in
set_option maxRecDepth 100000 in
theorem s_X7_isPiece {X : kX} {g : kG} {N : Nat} {Q : Int32 → kS → Prop} (hc : kOk X g RX7 cX7_isPiece 2 (some .boolean) 1) (hZ : kRz X g cX7_isPiece Q) {σ : kS} {x1 : Int32} (h : w_X7_isPiece N σ x1 Q) : kP X g 2 0 [(0, kz g 55), (1, .int x1)] [] σ := by
  unfold w_X7_isPiece at h
  refine r_iload_n hc 1 dX7_isPiece_0 rfl ?_
  refine r_i2l hc dX7_isPiece_1 ?_
  refine r_lconst (v := 0) hc dX7_isPiece_2 rfl ?_
  refine r_aload_n hc 0 dX7_isPiece_3 rfl ?_
  refine gf_X7_5 hc lf_X7_19 dX7_isPiece_4 ?_
  refine r_iconst (v := 3) hc dX7_isPiece_7 rfl ?_
  obtain ⟨hi_1, h⟩ := h
  refine r_iald hc kia_59 hi_1 dX7_isPiece_8 ?_
  refine r_iconst (v := 1) hc dX7_isPiece_9 rfl ?_
  refine r_isub hc dX7_isPiece_10 ?_
  refine r_i2l hc dX7_isPiece_11 ?_
  refine r_callSi (d := 0) hc (m_X7_in h) cw_X7_in wt_X7_in lm_X7_57 (by decide) (by decide) rfl rfl (Nat.le_of_ble_eq_true rfl) dX7_isPiece_12 (fun r_3 σ_2 h => ?_)
  exact r_zret (ls0 := []) hZ dX7_isPiece_15 h.1 h.2
theorem m_X7_isPiece {l : Launch} {g : kG} {N : Nat} {σ : kS} {x1 : Int32} {Q : Int32 → kS → Prop} (h : w_X7_isPiece N σ x1 Q) : kMi l g yX7_isPiece cX7_isPiece 2 (some .boolean) 1 [kz g 55, .int x1] σ Q :=
  k_met_z (by decide +kernel) rfl (Nat.le_of_ble_eq_true rfl) (fun X hl hc hZ => s_X7_isPiece hc hZ h)
def w_X7_learn (N : Nat) (σ : kS) (x1 : Int32) (Q : Int32 → kS → Prop) : Prop :=
  w_X7_isPupil N σ x1 (fun (r_2 : Int32) (σ_1 : kS) => if r_2 = 0 then (Q (-1000001) σ_1) else (w_X7_note N σ_1 (fun (σ_3 : kS) => vp_in (47 + x1) 57 ∧ (∀ x2_6 : Int32, x2_6 = σ_3 59 (47 + x1).toNatClampNeg → (vp_in 2 57 ∧ (vp_in (47 + x1) 57 ∧ (∀ σ_9 : kS, σ_9 = st2 σ_3 59 ((47 + x1).toNatClampNeg) (σ_3 59 (2 : Int32).toNatClampNeg) → (Q x2_6 σ_9))))))))
set_option maxHeartbeats 4000000 in
set_option maxRecDepth 100000 in
theorem s_X7_learn {X : kX} {g : kG} {N : Nat} {Q : Int32 → kS → Prop} (hc : kOk X g RX7 cX7_learn 3 (some .int) 2) (hZ : kRi X g cX7_learn Q) {σ : kS} {x1 : Int32} (h : w_X7_learn N σ x1 Q) : kP X g 3 0 [(0, kz g 55), (1, .int x1)] [] σ := by
  unfold w_X7_learn at h
  refine r_aload_n hc 0 dX7_learn_0 rfl ?_
  refine r_iload_n hc 1 dX7_learn_1 rfl ?_
  refine r_callVi (d := 1) hc (m_X7_isPupil h) cw_X7_isPupil wi_X7_isPupil ws_X7_isPupil lm_X7_159 (by decide) (by decide) rv_X7 rfl rfl (Nat.le_of_ble_eq_true rfl) dX7_learn_2 (fun r_2 σ_1 h => ?_)
  refine r_if_ne hc 11 dX7_learn_5 (by decide) (fun q => ?_) (fun q => ?_)
  · have h := kif_t h q
    refine r_ldc hc lk_X7_67 dX7_learn_8 ?_
    exact r_iret (ls0 := []) hZ dX7_learn_10 h
  · have h := kif_f h q
    refine r_aload_n hc 0 dX7_learn_11 rfl ?_
    refine r_callVv (d := 0) hc (m_X7_note h) cw_X7_note wi_X7_note ws_X7_note lm_X7_151 (by decide) (by decide) rv_X7 rfl rfl (Nat.le_of_ble_eq_true rfl) dX7_learn_12 (fun σ_3 h => ?_)
    refine r_aload_n hc 0 dX7_learn_15 rfl ?_
    refine gf_X7_5 hc lf_X7_19 dX7_learn_16 ?_
    refine r_bipush (v := 47) hc dX7_learn_19 rfl ?_
    refine r_iload_n hc 1 dX7_learn_21 rfl ?_
    refine r_iadd hc dX7_learn_22 ?_
    obtain ⟨hi_5, h⟩ := h
    refine r_iald hc kia_59 hi_5 dX7_learn_23 ?_
    refine r_nmI (fun x2_6 ex2_6 => ?_)
    have h := h x2_6 ex2_6
    refine r_istore_n hc [(2, .int x2_6), (0, kz g 55), (1, .int x1)] dX7_learn_24 (by decide) rfl ?_
    refine r_aload_n hc 1 dX7_learn_25 rfl ?_
    refine gf_X7_5 hc lf_X7_19 dX7_learn_26 ?_
    refine r_bipush (v := 47) hc dX7_learn_29 rfl ?_
    refine r_iload_n hc 2 dX7_learn_31 rfl ?_
    refine r_iadd hc dX7_learn_32 ?_
    refine r_aload_n hc 1 dX7_learn_33 rfl ?_
    refine gf_X7_5 hc lf_X7_19 dX7_learn_34 ?_
    refine r_iconst (v := 2) hc dX7_learn_37 rfl ?_
    obtain ⟨hi_7, h⟩ := h
    refine r_iald hc kia_59 hi_7 dX7_learn_38 ?_
    obtain ⟨hi_8, h⟩ := h
    refine r_iast hc kia_59 hi_8 dX7_learn_39 ?_
    refine r_nmS (fun σ_9 eσ_9 => ?_)
    have h := h σ_9 eσ_9
    refine r_iload_n hc 0 dX7_learn_40 rfl ?_
    exact r_iret (ls0 := []) hZ dX7_learn_41 h
theorem m_X7_learn {l : Launch} {g : kG} {N : Nat} {σ : kS} {x1 : Int32} {Q : Int32 → kS → Prop} (h : w_X7_learn N σ x1 Q) : kMi l g yX7_learn cX7_learn 3 (some .int) 2 [kz g 55, .int x1] σ Q :=
  k_met_i (by decide +kernel) rfl (Nat.le_of_ble_eq_true rfl) (fun X hl hc hZ => s_X7_learn hc hZ h)
def w_X7_piece (N : Nat) (σ : kS) (x1 : Int32) (x2 : Int32) (Q : Int32 → kS → Prop) : Prop :=
  w_X7_isPiece N σ x1 (fun (r_2 : Int32) (σ_1 : kS) => if r_2 = 0 then (Q (-1000001) σ_1) else (if (-1) ≤ x2 then (vp_in (6 + x1) 57 ∧ (∀ x3_4 : Int32, x3_4 = σ_1 59 (6 + x1).toNatClampNeg → (if 0 ≤ x2 then (if x3_4 ≤ x2 then (Q (-1000000) σ_1) else (vp_in ((10 + (8 * x1)) + x2) 57 ∧ (Q (σ_1 59 ((10 + (8 * x1)) + x2).toNatClampNeg) σ_1))) else (Q x3_4 σ_1)))) else (Q (-1000001) σ_1)))
set_option maxHeartbeats 4000000 in
set_option maxRecDepth 100000 in
theorem s_X7_piece {X : kX} {g : kG} {N : Nat} {Q : Int32 → kS → Prop} (hc : kOk X g RX7 cX7_piece 4 (some .int) 2) (hZ : kRi X g cX7_piece Q) {σ : kS} {x1 : Int32} {x2 : Int32} (h : w_X7_piece N σ x1 x2 Q) : kP X g 4 0 [(0, kz g 55), (1, .int x1), (2, .int x2)] [] σ := by
  unfold w_X7_piece at h
  refine r_aload_n hc 0 dX7_piece_0 rfl ?_
  refine r_iload_n hc 1 dX7_piece_1 rfl ?_
  refine r_callVi (d := 1) hc (m_X7_isPiece h) cw_X7_isPiece wi_X7_isPiece ws_X7_isPiece lm_X7_162 (by decide) (by decide) rv_X7 rfl rfl (Nat.le_of_ble_eq_true rfl) dX7_piece_2 (fun r_2 σ_1 h => ?_)
  refine r_if_eq hc 13 dX7_piece_5 (by decide) (fun q => ?_) (fun q => ?_)
  · have h := kif_t h q
    refine r_ldc hc lk_X7_67 dX7_piece_13 ?_
    exact r_iret (ls0 := []) hZ dX7_piece_15 h
  · have h := kif_f h q
    refine r_iload_n hc 2 dX7_piece_8 rfl ?_
    refine r_iconst (v := (-1)) hc dX7_piece_9 rfl ?_
    refine r_ic_ge hc 16 dX7_piece_10 (by decide) (fun q => ?_) (fun q => ?_)
    · have h := kif_t h q
      refine r_aload_n hc 0 dX7_piece_16 rfl ?_
      refine gf_X7_5 hc lf_X7_19 dX7_piece_17 ?_
      refine r_bipush (v := 6) hc dX7_piece_20 rfl ?_
      refine r_iload_n hc 1 dX7_piece_22 rfl ?_
      refine r_iadd hc dX7_piece_23 ?_
      obtain ⟨hi_3, h⟩ := h
      refine r_iald hc kia_59 hi_3 dX7_piece_24 ?_
      refine r_nmI (fun x3_4 ex3_4 => ?_)
      have h := h x3_4 ex3_4
      refine r_istore_n hc [(3, .int x3_4), (0, kz g 55), (1, .int x1), (2, .int x2)] dX7_piece_25 (by decide) rfl ?_
      refine r_iload_n hc 3 dX7_piece_26 rfl ?_
      refine r_if_ge hc 34 dX7_piece_27 (by decide) (fun q => ?_) (fun q => ?_)
      · have h := kif_t h q
        refine r_iload_n hc 3 dX7_piece_34 rfl ?_
        refine r_iload_n hc 0 dX7_piece_35 rfl ?_
        refine r_ic_ge hc 56 dX7_piece_36 (by decide) (fun q => ?_) (fun q => ?_)
        · have h := kif_t h q
          refine r_ldc hc lk_X7_165 dX7_piece_56 ?_
          exact r_iret (ls0 := []) hZ dX7_piece_58 h
        · have h := kif_f h q
          refine r_aload_n hc 1 dX7_piece_39 rfl ?_
          refine gf_X7_5 hc lf_X7_19 dX7_piece_40 ?_
          refine r_bipush (v := 10) hc dX7_piece_43 rfl ?_
          refine r_bipush (v := 8) hc dX7_piece_45 rfl ?_
          refine r_iload_n hc 2 dX7_piece_47 rfl ?_
          refine r_imul hc dX7_piece_48 ?_
          refine r_iadd hc dX7_piece_49 ?_
          refine r_iload_n hc 3 dX7_piece_50 rfl ?_
          refine r_iadd hc dX7_piece_51 ?_
          obtain ⟨hi_5, h⟩ := h
          refine r_iald hc kia_59 hi_5 dX7_piece_52 ?_
          refine r_goto hc 58 dX7_piece_53 (by decide) ?_
          exact r_iret (ls0 := []) hZ dX7_piece_58 h
      · have h := kif_f h q
        refine r_iload_n hc 0 dX7_piece_30 rfl ?_
        refine r_goto hc 58 dX7_piece_31 (by decide) ?_
        exact r_iret (ls0 := []) hZ dX7_piece_58 h
    · have h := kif_f h q
      refine r_ldc hc lk_X7_67 dX7_piece_13 ?_
      exact r_iret (ls0 := []) hZ dX7_piece_15 h
theorem m_X7_piece {l : Launch} {g : kG} {N : Nat} {σ : kS} {x1 : Int32} {x2 : Int32} {Q : Int32 → kS → Prop} (h : w_X7_piece N σ x1 x2 Q) : kMi l g yX7_piece cX7_piece 4 (some .int) 2 [kz g 55, .int x1, .int x2] σ Q :=
  k_met_i (by decide +kernel) rfl (Nat.le_of_ble_eq_true rfl) (fun X hl hc hZ => s_X7_piece hc hZ h)
def w_X7_biasBy (N : Nat) (σ : kS) (x1 : Int32) (x2 : Int32) (Q : Int32 → kS → Prop) : Prop :=
  if x1 = 1 then (w_X7_over N σ x2 (fun (r_2 : Int32) (σ_1 : kS) => Q r_2 σ_1)) else (if x1 = 2 then (vp_in 1 57 ∧ (∀ x3_4 : Int32, x3_4 = x2 + (2 * (σ 59 (1 : Int32).toNatClampNeg)) → (w_X7_over N σ x3_4 (fun (r_6 : Int32) (σ_5 : kS) => Q r_6 σ_5)))) else (if x1 = 3 then (∀ x3_7 : Int32, x3_7 = x2 - 2 → (w_X7_over N σ x3_7 (fun (r_9 : Int32) (σ_8 : kS) => Q r_9 σ_8))) else (if x1 = 4 then (∀ x3_10 : Int32, x3_10 = -x2 → (w_X7_over N σ x3_10 (fun (r_12 : Int32) (σ_11 : kS) => Q r_12 σ_11))) else (∀ x3_13 : Int32, x3_13 = 1 - x2 → (w_X7_over N σ x3_13 (fun (r_15 : Int32) (σ_14 : kS) => Q r_15 σ_14))))))
set_option maxHeartbeats 4000000 in
set_option maxRecDepth 100000 in
theorem s_X7_biasBy {X : kX} {g : kG} {N : Nat} {Q : Int32 → kS → Prop} (hc : kOk X g RX7 cX7_biasBy 4 (some .int) 1) (hZ : kRi X g cX7_biasBy Q) {σ : kS} {x1 : Int32} {x2 : Int32} (h : w_X7_biasBy N σ x1 x2 Q) : kP X g 4 0 [(0, kz g 55), (1, .int x1), (2, .int x2)] [] σ := by
  unfold w_X7_biasBy at h
  refine r_iload_n hc 1 dX7_biasBy_0 rfl ?_
  refine r_iconst (v := 1) hc dX7_biasBy_1 rfl ?_
  refine r_ic_ne hc 9 dX7_biasBy_2 (by decide) (fun q => ?_) (fun q => ?_)
  · have h := kif_t h q
    refine r_iload_n hc 2 dX7_biasBy_5 rfl ?_
    refine r_goto hc 51 dX7_biasBy_6 (by decide) ?_
    refine r_istore_n hc [(3, .int x2), (0, kz g 55), (1, .int x1), (2, .int x2)] dX7_biasBy_51 (by decide) rfl ?_
    refine r_aload_n hc 1 dX7_biasBy_52 rfl ?_
    refine r_iload_n hc 0 dX7_biasBy_53 rfl ?_
    refine r_callVi (d := 0) hc (m_X7_over h) cw_X7_over wi_X7_over ws_X7_over lm_X7_146 (by decide) (by decide) rv_X7 rfl rfl (Nat.le_of_ble_eq_true rfl) dX7_biasBy_54 (fun r_2 σ_1 h => ?_)
    exact r_iret (ls0 := []) hZ dX7_biasBy_57 h
  · have h := kif_f h q
    refine r_iload_n hc 1 dX7_biasBy_9 rfl ?_
    refine r_iconst (v := 2) hc dX7_biasBy_10 rfl ?_
    refine r_ic_ne hc 27 dX7_biasBy_11 (by decide) (fun q => ?_) (fun q => ?_)
    · have h := kif_t h q
      refine r_iload_n hc 2 dX7_biasBy_14 rfl ?_
      refine r_iconst (v := 2) hc dX7_biasBy_15 rfl ?_
      refine r_aload_n hc 0 dX7_biasBy_16 rfl ?_
      refine gf_X7_5 hc lf_X7_19 dX7_biasBy_17 ?_
      refine r_iconst (v := 1) hc dX7_biasBy_20 rfl ?_
      obtain ⟨hi_3, h⟩ := h
      refine r_iald hc kia_59 hi_3 dX7_biasBy_21 ?_
      refine r_imul hc dX7_biasBy_22 ?_
      refine r_iadd hc dX7_biasBy_23 ?_
      refine r_goto hc 51 dX7_biasBy_24 (by decide) ?_
      refine r_nmI (fun x3_4 ex3_4 => ?_)
      have h := h x3_4 ex3_4
      refine r_istore_n hc [(3, .int x3_4), (0, kz g 55), (1, .int x1), (2, .int x2)] dX7_biasBy_51 (by decide) rfl ?_
      refine r_aload_n hc 1 dX7_biasBy_52 rfl ?_
      refine r_iload_n hc 0 dX7_biasBy_53 rfl ?_
      refine r_callVi (d := 0) hc (m_X7_over h) cw_X7_over wi_X7_over ws_X7_over lm_X7_146 (by decide) (by decide) rv_X7 rfl rfl (Nat.le_of_ble_eq_true rfl) dX7_biasBy_54 (fun r_6 σ_5 h => ?_)
      exact r_iret (ls0 := []) hZ dX7_biasBy_57 h
    · have h := kif_f h q
      refine r_iload_n hc 1 dX7_biasBy_27 rfl ?_
      refine r_iconst (v := 3) hc dX7_biasBy_28 rfl ?_
      refine r_ic_ne hc 38 dX7_biasBy_29 (by decide) (fun q => ?_) (fun q => ?_)
      · have h := kif_t h q
        refine r_iload_n hc 2 dX7_biasBy_32 rfl ?_
        refine r_iconst (v := 2) hc dX7_biasBy_33 rfl ?_
        refine r_isub hc dX7_biasBy_34 ?_
        refine r_goto hc 51 dX7_biasBy_35 (by decide) ?_
        refine r_nmI (fun x3_7 ex3_7 => ?_)
        have h := h x3_7 ex3_7
        refine r_istore_n hc [(3, .int x3_7), (0, kz g 55), (1, .int x1), (2, .int x2)] dX7_biasBy_51 (by decide) rfl ?_
        refine r_aload_n hc 1 dX7_biasBy_52 rfl ?_
        refine r_iload_n hc 0 dX7_biasBy_53 rfl ?_
        refine r_callVi (d := 0) hc (m_X7_over h) cw_X7_over wi_X7_over ws_X7_over lm_X7_146 (by decide) (by decide) rv_X7 rfl rfl (Nat.le_of_ble_eq_true rfl) dX7_biasBy_54 (fun r_9 σ_8 h => ?_)
        exact r_iret (ls0 := []) hZ dX7_biasBy_57 h
      · have h := kif_f h q
        refine r_iload_n hc 1 dX7_biasBy_38 rfl ?_
        refine r_iconst (v := 4) hc dX7_biasBy_39 rfl ?_
        refine r_ic_ne hc 48 dX7_biasBy_40 (by decide) (fun q => ?_) (fun q => ?_)
        · have h := kif_t h q
          refine r_iload_n hc 2 dX7_biasBy_43 rfl ?_
          refine r_ineg hc dX7_biasBy_44 ?_
          refine r_goto hc 51 dX7_biasBy_45 (by decide) ?_
          refine r_nmI (fun x3_10 ex3_10 => ?_)
          have h := h x3_10 ex3_10
          refine r_istore_n hc [(3, .int x3_10), (0, kz g 55), (1, .int x1), (2, .int x2)] dX7_biasBy_51 (by decide) rfl ?_
          refine r_aload_n hc 1 dX7_biasBy_52 rfl ?_
          refine r_iload_n hc 0 dX7_biasBy_53 rfl ?_
          refine r_callVi (d := 0) hc (m_X7_over h) cw_X7_over wi_X7_over ws_X7_over lm_X7_146 (by decide) (by decide) rv_X7 rfl rfl (Nat.le_of_ble_eq_true rfl) dX7_biasBy_54 (fun r_12 σ_11 h => ?_)
          exact r_iret (ls0 := []) hZ dX7_biasBy_57 h
        · have h := kif_f h q
          refine r_iconst (v := 1) hc dX7_biasBy_48 rfl ?_
          refine r_iload_n hc 2 dX7_biasBy_49 rfl ?_
          refine r_isub hc dX7_biasBy_50 ?_
          refine r_nmI (fun x3_13 ex3_13 => ?_)
          have h := h x3_13 ex3_13
          refine r_istore_n hc [(3, .int x3_13), (0, kz g 55), (1, .int x1), (2, .int x2)] dX7_biasBy_51 (by decide) rfl ?_
          refine r_aload_n hc 1 dX7_biasBy_52 rfl ?_
          refine r_iload_n hc 0 dX7_biasBy_53 rfl ?_
          refine r_callVi (d := 0) hc (m_X7_over h) cw_X7_over wi_X7_over ws_X7_over lm_X7_146 (by decide) (by decide) rv_X7 rfl rfl (Nat.le_of_ble_eq_true rfl) dX7_biasBy_54 (fun r_15 σ_14 h => ?_)
          exact r_iret (ls0 := []) hZ dX7_biasBy_57 h
theorem m_X7_biasBy {l : Launch} {g : kG} {N : Nat} {σ : kS} {x1 : Int32} {x2 : Int32} {Q : Int32 → kS → Prop} (h : w_X7_biasBy N σ x1 x2 Q) : kMi l g yX7_biasBy cX7_biasBy 4 (some .int) 1 [kz g 55, .int x1, .int x2] σ Q :=
  k_met_i (by decide +kernel) rfl (Nat.le_of_ble_eq_true rfl) (fun X hl hc hZ => s_X7_biasBy hc hZ h)
