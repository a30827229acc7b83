def b_X2_firstNightAt_2 (N : Nat) (Q : Int32 → kS → Prop) (x1 : Int32) (K : Int32 → kS → Prop) (x2 : Int32) (σ : kS) : Prop :=
  if 60 < x2 then (Q (-1000000) σ) else (w_X3_shiftBehind N σ 33 x2 (fun (r_2 : Int32) (σ_1 : kS) => if r_2 = x1 then (Q x2 σ_1) else (∀ x2_3 : Int32, x2_3 = x2 + 1 → (K x2_3 σ_1))))
def l_X2_firstNightAt_2 (N : Nat) (Q : Int32 → kS → Prop) (x1 : Int32) : Nat → Int32 → kS → Prop
  | 0 => fun _ _ => False
  | n + 1 => b_X2_firstNightAt_2 N Q x1 (l_X2_firstNightAt_2 N Q x1 n)
set_option maxHeartbeats 4000000 in
set_option maxRecDepth 100000 in
theorem sb_X2_firstNightAt_2 {X : kX} {g : kG} {N : Nat} {Q : Int32 → kS → Prop} (hc : kOk X g RX2 cX2_firstNightAt 3 (some .int) 2) (hZ : kRi X g cX2_firstNightAt Q) {x1 : Int32} {K : Int32 → kS → Prop} (hK : ∀ (x2 : Int32) (τ : kS), K x2 τ → kP X g 3 2 [(0, kz g 49), (1, .int x1), (2, .int x2)] [] τ) {x2 : Int32} {σ : kS} (h : b_X2_firstNightAt_2 N Q x1 K x2 σ) : kP X g 3 2 [(0, kz g 49), (1, .int x1), (2, .int x2)] [] σ := by
  unfold b_X2_firstNightAt_2 at h
  refine r_iload_n hc 2 dX2_firstNightAt_2 rfl ?_
  refine r_bipush (v := 60) hc dX2_firstNightAt_3 rfl ?_
  refine r_ic_gt hc 28 dX2_firstNightAt_5 (by decide) (fun q => ?_) (fun q => ?_)
  · have h := kif_t h q
    refine r_ldc hc lk_X2_31 dX2_firstNightAt_28 ?_
    exact r_iret (ls0 := []) hZ dX2_firstNightAt_30 h
  · have h := kif_f h q
    refine r_aload_n hc 0 dX2_firstNightAt_8 rfl ?_
    refine gf_X2_0 hc lf_X2_23 dX2_firstNightAt_9 ?_
    refine r_iload_n hc 2 dX2_firstNightAt_12 rfl ?_
    refine r_callVi (d := 1) hc (m_X3_shiftBehind kH_33 h) cw_X3_shiftBehind wi_X3_shiftBehind ws_X3_shiftBehind lm_X2_27 (by decide) (by decide) (rv_X3 kH_33) rfl rfl (Nat.le_of_ble_eq_true rfl) dX2_firstNightAt_13 (fun r_2 σ_1 h => ?_)
    refine r_iload_n hc 1 dX2_firstNightAt_16 rfl ?_
    refine r_ic_ne hc 22 dX2_firstNightAt_17 (by decide) (fun q => ?_) (fun q => ?_)
    · have h := kif_t h q
      refine r_iload_n hc 2 dX2_firstNightAt_20 rfl ?_
      exact r_iret (ls0 := []) hZ dX2_firstNightAt_21 h
    · have h := kif_f h q
      obtain ⟨x2_3, ex2_3⟩ : ∃ v : Int32, v = x2 + 1 := ⟨_, rfl⟩
      have h := h x2_3 ex2_3
      refine r_iinc (v := x2_3) hc 2 [(2, .int x2_3), (0, kz g 49), (1, .int x1)] dX2_firstNightAt_22 rfl (by rw [ex2_3]; rfl) (by decide) rfl ?_
      refine r_goto hc 2 dX2_firstNightAt_25 (by decide) ?_
      refine r_sub [1, 2, 0] rfl ?_
      exact hK _ _ h
theorem sl_X2_firstNightAt_2 {X : kX} {g : kG} {N : Nat} {Q : Int32 → kS → Prop} (hc : kOk X g RX2 cX2_firstNightAt 3 (some .int) 2) (hZ : kRi X g cX2_firstNightAt Q) {x1 : Int32} : ∀ (n : Nat) (x2 : Int32) (σ : kS), l_X2_firstNightAt_2 N Q x1 n x2 σ → kP X g 3 2 [(0, kz g 49), (1, .int x1), (2, .int x2)] [] σ := by
  intro n
  induction n with
  | zero => intro x2 σ h; exact h.elim
  | succ n ih => intro x2 σ h; exact sb_X2_firstNightAt_2 hc hZ ih h
def w_X2_firstNightAt (N : Nat) (σ : kS) (x1 : Int32) (Q : Int32 → kS → Prop) : Prop :=
  l_X2_firstNightAt_2 N Q x1  N 0 σ
set_option maxHeartbeats 4000000 in
set_option maxRecDepth 100000 in
theorem s_X2_firstNightAt {X : kX} {g : kG} {N : Nat} {Q : Int32 → kS → Prop} (hc : kOk X g RX2 cX2_firstNightAt 3 (some .int) 2) (hZ : kRi X g cX2_firstNightAt Q) {σ : kS} {x1 : Int32} (h : w_X2_firstNightAt N σ x1 Q) : kP X g 3 0 [(0, kz g 49), (1, .int x1)] [] σ := by
  unfold w_X2_firstNightAt at h
  refine r_iconst (v := 0) hc dX2_firstNightAt_0 rfl ?_
  refine r_istore_n hc [(2, .int 0), (0, kz g 49), (1, .int x1)] dX2_firstNightAt_1 (by decide) rfl ?_
  refine r_sub [1, 2, 0] rfl ?_
  refine sl_X2_firstNightAt_2 hc hZ _ _ _ h
theorem m_X2_firstNightAt {l : Launch} {g : kG} {N : Nat} {σ : kS} {x1 : Int32} {Q : Int32 → kS → Prop} (h : w_X2_firstNightAt N σ x1 Q) : kMi l g yX2_firstNightAt cX2_firstNightAt 3 (some .int) 2 [kz g 49, .int x1] σ Q :=
  k_met_i (by decide +kernel) rfl (Nat.le_of_ble_eq_true rfl) (fun X hl hc hZ => s_X2_firstNightAt hc hZ h)
def b_X2_nightsAt_5 (N : Nat) (Q : Int32 → kS → Prop) (x1 : Int32) (x2 : Int32) (K : Int32 → Int32 → kS → Prop) (x3 : Int32) (x4 : Int32) (σ : kS) : Prop :=
  if x2 ≤ x4 then (Q x3 σ) else (w_X3_shiftBehind N σ 33 x4 (fun (r_2 : Int32) (σ_1 : kS) => if r_2 = x1 then (∀ x3_3 : Int32, x3_3 = x3 ||| (1 <<< (x4 &&& 31)) → (∀ x4_4 : Int32, x4_4 = x4 + 1 → (K x3_3 x4_4 σ_1))) else (∀ x4_5 : Int32, x4_5 = x4 + 1 → (K x3 x4_5 σ_1))))
def l_X2_nightsAt_5 (N : Nat) (Q : Int32 → kS → Prop) (x1 : Int32) (x2 : Int32) : Nat → Int32 → Int32 → kS → Prop
  | 0 => fun _ _ _ => False
  | n + 1 => b_X2_nightsAt_5 N Q x1 x2 (l_X2_nightsAt_5 N Q x1 x2 n)
set_option maxHeartbeats 4000000 in
set_option maxRecDepth 100000 in
theorem sb_X2_nightsAt_5 {X : kX} {g : kG} {N : Nat} {Q : Int32 → kS → Prop} (hc : kOk X g RX2 cX2_nightsAt 5 (some .int) 2) (hZ : kRi X g cX2_nightsAt Q) {x1 : Int32} {x2 : Int32} {K : Int32 → Int32 → kS → Prop} (hK : ∀ (x3 : Int32) (x4 : Int32) (τ : kS), K x3 x4 τ → kP X g 5 5 [(0, kz g 49), (1, .int x1), (2, .int x2), (3, .int x3), (4, .int x4)] [] τ) {x3 : Int32} {x4 : Int32} {σ : kS} (h : b_X2_nightsAt_5 N Q x1 x2 K x3 x4 σ) : kP X g 5 5 [(0, kz g 49), (1, .int x1), (2, .int x2), (3, .int x3), (4, .int x4)] [] σ := by
  unfold b_X2_nightsAt_5 at h
  refine r_iload hc 4 dX2_nightsAt_5 rfl ?_
  refine r_iload_n hc 2 dX2_nightsAt_7 rfl ?_
  refine r_ic_ge hc 37 dX2_nightsAt_8 (by decide) (fun q => ?_) (fun q => ?_)
  · have h := kif_t h q
    refine r_iload_n hc 3 dX2_nightsAt_37 rfl ?_
    exact r_iret (ls0 := []) hZ dX2_nightsAt_38 h
  · have h := kif_f h q
    refine r_aload_n hc 0 dX2_nightsAt_11 rfl ?_
    refine gf_X2_0 hc lf_X2_23 dX2_nightsAt_12 ?_
    refine r_iload hc 4 dX2_nightsAt_15 rfl ?_
    refine r_callVi (d := 1) hc (m_X3_shiftBehind kH_33 h) cw_X3_shiftBehind wi_X3_shiftBehind ws_X3_shiftBehind lm_X2_27 (by decide) (by decide) (rv_X3 kH_33) rfl rfl (Nat.le_of_ble_eq_true rfl) dX2_nightsAt_17 (fun r_2 σ_1 h => ?_)
    refine r_iload_n hc 1 dX2_nightsAt_20 rfl ?_
    refine r_ic_ne hc 31 dX2_nightsAt_21 (by decide) (fun q => ?_) (fun q => ?_)
    · have h := kif_t h q
      refine r_iload_n hc 3 dX2_nightsAt_24 rfl ?_
      refine r_iconst (v := 1) hc dX2_nightsAt_25 rfl ?_
      refine r_iload hc 4 dX2_nightsAt_26 rfl ?_
      refine r_ishl hc dX2_nightsAt_28 ?_
      refine r_ior hc dX2_nightsAt_29 ?_
      refine r_nmI (fun x3_3 ex3_3 => ?_)
      have h := h x3_3 ex3_3
      refine r_istore_n hc [(3, .int x3_3), (0, kz g 49), (1, .int x1), (2, .int x2), (4, .int x4)] dX2_nightsAt_30 (by decide) rfl ?_
      obtain ⟨x4_4, ex4_4⟩ : ∃ v : Int32, v = x4 + 1 := ⟨_, rfl⟩
      have h := h x4_4 ex4_4
      refine r_iinc (v := x4_4) hc 4 [(4, .int x4_4), (3, .int x3_3), (0, kz g 49), (1, .int x1), (2, .int x2)] dX2_nightsAt_31 rfl (by rw [ex4_4]; rfl) (by decide) rfl ?_
      refine r_goto hc 5 dX2_nightsAt_34 (by decide) ?_
      refine r_sub [2, 3, 4, 1, 0] rfl ?_
      exact hK _ _ _ h
    · have h := kif_f h q
      obtain ⟨x4_5, ex4_5⟩ : ∃ v : Int32, v = x4 + 1 := ⟨_, rfl⟩
      have h := h x4_5 ex4_5
      refine r_iinc (v := x4_5) hc 4 [(4, .int x4_5), (0, kz g 49), (1, .int x1), (2, .int x2), (3, .int x3)] dX2_nightsAt_31 rfl (by rw [ex4_5]; rfl) (by decide) rfl ?_
      refine r_goto hc 5 dX2_nightsAt_34 (by decide) ?_
      refine r_sub [1, 2, 3, 4, 0] rfl ?_
      exact hK _ _ _ h
theorem sl_X2_nightsAt_5 {X : kX} {g : kG} {N : Nat} {Q : Int32 → kS → Prop} (hc : kOk X g RX2 cX2_nightsAt 5 (some .int) 2) (hZ : kRi X g cX2_nightsAt Q) {x1 : Int32} {x2 : Int32} : ∀ (n : Nat) (x3 : Int32) (x4 : Int32) (σ : kS), l_X2_nightsAt_5 N Q x1 x2 n x3 x4 σ → kP X g 5 5 [(0, kz g 49), (1, .int x1), (2, .int x2), (3, .int x3), (4, .int x4)] [] σ := by
  intro n
  induction n with
  | zero => intro x3 x4 σ h; exact h.elim
  | succ n ih => intro x3 x4 σ h; exact sb_X2_nightsAt_5 hc hZ ih h
def w_X2_nightsAt (N : Nat) (σ : kS) (x1 : Int32) (x2 : Int32) (Q : Int32 → kS → Prop) : Prop :=
  l_X2_nightsAt_5 N Q x1 x2  N 0 0 σ
set_option maxHeartbeats 4000000 in
set_option maxRecDepth 100000 in
theorem s_X2_nightsAt {X : kX} {g : kG} {N : Nat} {Q : Int32 → kS → Prop} (hc : kOk X g RX2 cX2_nightsAt 5 (some .int) 2) (hZ : kRi X g cX2_nightsAt Q) {σ : kS} {x1 : Int32} {x2 : Int32} (h : w_X2_nightsAt N σ x1 x2 Q) : kP X g 5 0 [(0, kz g 49), (1, .int x1), (2, .int x2)] [] σ := by
  unfold w_X2_nightsAt at h
  refine r_iconst (v := 0) hc dX2_nightsAt_0 rfl ?_
  refine r_istore_n hc [(3, .int 0), (0, kz g 49), (1, .int x1), (2, .int x2)] dX2_nightsAt_1 (by decide) rfl ?_
  refine r_iconst (v := 0) hc dX2_nightsAt_2 rfl ?_
  refine r_istore hc [(4, .int 0), (3, .int 0), (0, kz g 49), (1, .int x1), (2, .int x2)] dX2_nightsAt_3 (by decide) rfl ?_
  refine r_sub [2, 3, 4, 1, 0] rfl ?_
  refine sl_X2_nightsAt_5 hc hZ _ _ _ _ h
theorem m_X2_nightsAt {l : Launch} {g : kG} {N : Nat} {σ : kS} {x1 : Int32} {x2 : Int32} {Q : Int32 → kS → Prop} (h : w_X2_nightsAt N σ x1 x2 Q) : kMi l g yX2_nightsAt cX2_nightsAt 5 (some .int) 2 [kz g 49, .int x1, .int x2] σ Q :=
  k_met_i (by decide +kernel) rfl (Nat.le_of_ble_eq_true rfl) (fun X hl hc hZ => s_X2_nightsAt hc hZ h)
def j_X2_wrongsBy_57 (N : Nat) (Q : Int32 → kS → Prop) (a2 : Nat) (x1 : Int32) (x3 : Int32) (x4 : Int32) (x5 : Int32) (x6 : Int32) (x7 : Int32) (x8 : Int32) (s0 : Int32) (K : Int32 → Int32 → kS → Prop) (σ : kS) : Prop :=
  if s0 = 0 then (∀ x5_5 : Int32, x5_5 = x5 + 1 → (∀ x6_6 : Int32, x6_6 = x6 + 1 → (K x5_5 x6_6 σ))) else (w_X3_around N σ 33 (x7 + x1) (fun (r_8 : Int32) (σ_7 : kS) => if r_8 = x8 then (∀ x6_9 : Int32, x6_9 = x6 + 1 → (K x5 x6_9 σ_7)) else (∀ x5_10 : Int32, x5_10 = x5 + 1 → (∀ x6_11 : Int32, x6_11 = x6 + 1 → (K x5_10 x6_11 σ_7)))))
set_option maxHeartbeats 4000000 in
set_option maxRecDepth 100000 in
theorem sj_X2_wrongsBy_57 {X : kX} {g : kG} {N : Nat} {Q : Int32 → kS → Prop} {a2 : Nat} (hc : kOk X g RX2 cX2_wrongsBy 10 (some .int) 1) (hZ : kRi X g cX2_wrongsBy Q) (ha2 : kInts a2 40) {x1 : Int32} {x3 : Int32} {x4 : Int32} {x5 : Int32} {x6 : Int32} {x7 : Int32} {x8 : Int32} {s0 : Int32} {K : Int32 → Int32 → kS → Prop} (hK : ∀ (x5 : Int32) (x6 : Int32) (τ : kS), K x5 x6 τ → kP X g 10 6 [(0, kz g 49), (1, .int x1), (2, kz g a2), (3, .int x3), (4, .int x4), (5, .int x5), (6, .int x6)] [] τ) {σ : kS} (h : j_X2_wrongsBy_57 N Q a2 x1 x3 x4 x5 x6 x7 x8 s0 K σ) : kP X g 10 57 [(0, kz g 49), (1, .int x1), (2, kz g a2), (3, .int x3), (4, .int x4), (5, .int x5), (6, .int x6), (7, .int x7), (8, .int x8)] [.int s0] σ := by
  unfold j_X2_wrongsBy_57 at h
  refine r_istore hc [(9, .int s0), (0, kz g 49), (1, .int x1), (2, kz g a2), (3, .int x3), (4, .int x4), (5, .int x5), (6, .int x6), (7, .int x7), (8, .int x8)] dX2_wrongsBy_57 (by decide) rfl ?_
  refine r_iload hc 0 dX2_wrongsBy_59 rfl ?_
  refine r_if_eq hc 80 dX2_wrongsBy_61 (by decide) (fun q => ?_) (fun q => ?_)
  · have h := kif_t h q
    obtain ⟨x5_5, ex5_5⟩ : ∃ v : Int32, v = x5 + 1 := ⟨_, rfl⟩
    have h := h x5_5 ex5_5
    refine r_iinc (v := x5_5) hc 6 [(5, .int x5_5), (9, .int s0), (0, kz g 49), (1, .int x1), (2, kz g a2), (3, .int x3), (4, .int x4), (6, .int x6), (7, .int x7), (8, .int x8)] dX2_wrongsBy_80 rfl (by rw [ex5_5]; rfl) (by decide) rfl ?_
    obtain ⟨x6_6, ex6_6⟩ : ∃ v : Int32, v = x6 + 1 := ⟨_, rfl⟩
    have h := h x6_6 ex6_6
    refine r_iinc (v := x6_6) hc 7 [(6, .int x6_6), (5, .int x5_5), (9, .int s0), (0, kz g 49), (1, .int x1), (2, kz g a2), (3, .int x3), (4, .int x4), (7, .int x7), (8, .int x8)] dX2_wrongsBy_83 rfl (by rw [ex6_6]; rfl) (by decide) rfl ?_
    refine r_goto hc 6 dX2_wrongsBy_86 (by decide) ?_
    refine r_sub [3, 4, 5, 6, 7, 1, 0] rfl ?_
    exact hK _ _ _ h
  · have h := kif_f h q
    refine r_aload_n hc 1 dX2_wrongsBy_64 rfl ?_
    refine gf_X2_0 hc lf_X2_23 dX2_wrongsBy_65 ?_
    refine r_iload hc 8 dX2_wrongsBy_68 rfl ?_
    refine r_iload_n hc 2 dX2_wrongsBy_70 rfl ?_
    refine r_iadd hc dX2_wrongsBy_71 ?_
    refine r_callVi (d := 0) hc (m_X3_around kH_33 h) cw_X3_around wi_X3_around ws_X3_around lm_X2_40 (by decide) (by decide) (rv_X3 kH_33) rfl rfl (Nat.le_of_ble_eq_true rfl) dX2_wrongsBy_72 (fun r_8 σ_7 h => ?_)
    refine r_iload hc 9 dX2_wrongsBy_75 rfl ?_
    refine r_ic_eq hc 83 dX2_wrongsBy_77 (by decide) (fun q => ?_) (fun q => ?_)
    · have h := kif_t h q
      obtain ⟨x6_9, ex6_9⟩ : ∃ v : Int32, v = x6 + 1 := ⟨_, rfl⟩
      have h := h x6_9 ex6_9
      refine r_iinc (v := x6_9) hc 7 [(6, .int x6_9), (9, .int s0), (0, kz g 49), (1, .int x1), (2, kz g a2), (3, .int x3), (4, .int x4), (5, .int x5), (7, .int x7), (8, .int x8)] dX2_wrongsBy_83 rfl (by rw [ex6_9]; rfl) (by decide) rfl ?_
      refine r_goto hc 6 dX2_wrongsBy_86 (by decide) ?_
      refine r_sub [2, 3, 4, 5, 6, 7, 0] rfl ?_
      exact hK _ _ _ h
    · have h := kif_f h q
      obtain ⟨x5_10, ex5_10⟩ : ∃ v : Int32, v = x5 + 1 := ⟨_, rfl⟩
      have h := h x5_10 ex5_10
      refine r_iinc (v := x5_10) hc 6 [(5, .int x5_10), (9, .int s0), (0, kz g 49), (1, .int x1), (2, kz g a2), (3, .int x3), (4, .int x4), (6, .int x6), (7, .int x7), (8, .int x8)] dX2_wrongsBy_80 rfl (by rw [ex5_10]; rfl) (by decide) rfl ?_
      obtain ⟨x6_11, ex6_11⟩ : ∃ v : Int32, v = x6 + 1 := ⟨_, rfl⟩
      have h := h x6_11 ex6_11
      refine r_iinc (v := x6_11) hc 7 [(6, .int x6_11), (5, .int x5_10), (9, .int s0), (0, kz g 49), (1, .int x1), (2, kz g a2), (3, .int x3), (4, .int x4), (7, .int x7), (8, .int x8)] dX2_wrongsBy_83 rfl (by rw [ex6_11]; rfl) (by decide) rfl ?_
      refine r_goto hc 6 dX2_wrongsBy_86 (by decide) ?_
      refine r_sub [3, 4, 5, 6, 7, 1, 0] rfl ?_
      exact hK _ _ _ h
def j_X2_wrongsBy_56 (N : Nat) (Q : Int32 → kS → Prop) (a2 : Nat) (x1 : Int32) (x3 : Int32) (x4 : Int32) (x5 : Int32) (x6 : Int32) (x7 : Int32) (x8 : Int32) (K : Int32 → Int32 → kS → Prop) (σ : kS) : Prop :=
  j_X2_wrongsBy_57 N Q a2 x1 x3 x4 x5 x6 x7 x8 0 K σ
set_option maxHeartbeats 4000000 in
set_option maxRecDepth 100000 in
theorem sj_X2_wrongsBy_56 {X : kX} {g : kG} {N : Nat} {Q : Int32 → kS → Prop} {a2 : Nat} (hc : kOk X g RX2 cX2_wrongsBy 10 (some .int) 1) (hZ : kRi X g cX2_wrongsBy Q) (ha2 : kInts a2 40) {x1 : Int32} {x3 : Int32} {x4 : Int32} {x5 : Int32} {x6 : Int32} {x7 : Int32} {x8 : Int32} {K : Int32 → Int32 → kS → Prop} (hK : ∀ (x5 : Int32) (x6 : Int32) (τ : kS), K x5 x6 τ → kP X g 10 6 [(0, kz g 49), (1, .int x1), (2, kz g a2), (3, .int x3), (4, .int x4), (5, .int x5), (6, .int x6)] [] τ) {σ : kS} (h : j_X2_wrongsBy_56 N Q a2 x1 x3 x4 x5 x6 x7 x8 K σ) : kP X g 10 56 [(0, kz g 49), (1, .int x1), (2, kz g a2), (3, .int x3), (4, .int x4), (5, .int x5), (6, .int x6), (7, .int x7), (8, .int x8)] [] σ := by
  unfold j_X2_wrongsBy_56 at h
  refine r_iconst (v := 0) hc dX2_wrongsBy_56 rfl ?_
  exact sj_X2_wrongsBy_57 hc hZ ha2 hK h
def b_X2_wrongsBy_6 (N : Nat) (Q : Int32 → kS → Prop) (a2 : Nat) (x1 : Int32) (x3 : Int32) (x4 : Int32) (K : Int32 → Int32 → kS → Prop) (x5 : Int32) (x6 : Int32) (σ : kS) : Prop :=
  if x4 ≤ x6 then (Q x5 σ) else (vp_in (x3 + (2 * x6)) 40 ∧ (∀ x7_2 : Int32, x7_2 = σ a2 (x3 + (2 * x6)).toNatClampNeg → (vp_in ((x3 + (2 * x6)) + 1) 40 ∧ (∀ x8_4 : Int32, x8_4 = σ a2 ((x3 + (2 * x6)) + 1).toNatClampNeg → (if x7_2 < 0 then (j_X2_wrongsBy_56 N Q a2 x1 x3 x4 x5 x6 x7_2 x8_4 K σ) else (if (σ 33 5) ≤ x7_2 then (j_X2_wrongsBy_56 N Q a2 x1 x3 x4 x5 x6 x7_2 x8_4 K σ) else (j_X2_wrongsBy_57 N Q a2 x1 x3 x4 x5 x6 x7_2 x8_4 1 K σ)))))))
def l_X2_wrongsBy_6 (N : Nat) (Q : Int32 → kS → Prop) (a2 : Nat) (x1 : Int32) (x3 : Int32) (x4 : Int32) : Nat → Int32 → Int32 → kS → Prop
  | 0 => fun _ _ _ => False
  | n + 1 => b_X2_wrongsBy_6 N Q a2 x1 x3 x4 (l_X2_wrongsBy_6 N Q a2 x1 x3 x4 n)
set_option maxHeartbeats 4000000 in
set_option maxRecDepth 100000 in
theorem sb_X2_wrongsBy_6 {X : kX} {g : kG} {N : Nat} {Q : Int32 → kS → Prop} {a2 : Nat} (hc : kOk X g RX2 cX2_wrongsBy 10 (some .int) 1) (hZ : kRi X g cX2_wrongsBy Q) (ha2 : kInts a2 40) {x1 : Int32} {x3 : Int32} {x4 : Int32} {K : Int32 → Int32 → kS → Prop} (hK : ∀ (x5 : Int32) (x6 : Int32) (τ : kS), K x5 x6 τ → kP X g 10 6 [(0, kz g 49), (1, .int x1), (2, kz g a2), (3, .int x3), (4, .int x4), (5, .int x5), (6, .int x6)] [] τ) {x5 : Int32} {x6 : Int32} {σ : kS} (h : b_X2_wrongsBy_6 N Q a2 x1 x3 x4 K x5 x6 σ) : kP X g 10 6 [(0, kz g 49), (1, .int x1), (2, kz g a2), (3, .int x3), (4, .int x4), (5, .int x5), (6, .int x6)] [] σ := by
  unfold b_X2_wrongsBy_6 at h
  refine r_iload hc 6 dX2_wrongsBy_6 rfl ?_
  refine r_iload hc 4 dX2_wrongsBy_8 rfl ?_
  refine r_ic_ge hc 89 dX2_wrongsBy_10 (by decide) (fun q => ?_) (fun q => ?_)
  · have h := kif_t h q
    refine r_iload hc 5 dX2_wrongsBy_89 rfl ?_
    exact r_iret (ls0 := []) hZ dX2_wrongsBy_91 h
  · have h := kif_f h q
    refine r_aload_n hc 2 dX2_wrongsBy_13 rfl ?_
    refine r_iload_n hc 3 dX2_wrongsBy_14 rfl ?_
    refine r_iconst (v := 2) hc dX2_wrongsBy_15 rfl ?_
    refine r_iload hc 6 dX2_wrongsBy_16 rfl ?_
    refine r_imul hc dX2_wrongsBy_18 ?_
    refine r_iadd hc dX2_wrongsBy_19 ?_
    obtain ⟨hi_1, h⟩ := h
    refine r_iald hc ha2 hi_1 dX2_wrongsBy_20 ?_
    refine r_nmI (fun x7_2 ex7_2 => ?_)
    have h := h x7_2 ex7_2
    refine r_istore hc [(7, .int x7_2), (0, kz g 49), (1, .int x1), (2, kz g a2), (3, .int x3), (4, .int x4), (5, .int x5), (6, .int x6)] dX2_wrongsBy_21 (by decide) rfl ?_
    refine r_aload_n hc 3 dX2_wrongsBy_23 rfl ?_
    refine r_iload_n hc 4 dX2_wrongsBy_24 rfl ?_
    refine r_iconst (v := 2) hc dX2_wrongsBy_25 rfl ?_
    refine r_iload hc 7 dX2_wrongsBy_26 rfl ?_
    refine r_imul hc dX2_wrongsBy_28 ?_
    refine r_iadd hc dX2_wrongsBy_29 ?_
    refine r_iconst (v := 1) hc dX2_wrongsBy_30 rfl ?_
    refine r_iadd hc dX2_wrongsBy_31 ?_
    obtain ⟨hi_3, h⟩ := h
    refine r_iald hc ha2 hi_3 dX2_wrongsBy_32 ?_
    refine r_nmI (fun x8_4 ex8_4 => ?_)
    have h := h x8_4 ex8_4
    refine r_istore hc [(8, .int x8_4), (7, .int x7_2), (0, kz g 49), (1, .int x1), (2, kz g a2), (3, .int x3), (4, .int x4), (5, .int x5), (6, .int x6)] dX2_wrongsBy_33 (by decide) rfl ?_
    refine r_iload hc 1 dX2_wrongsBy_35 rfl ?_
    refine r_if_lt hc 56 dX2_wrongsBy_37 (by decide) (fun q => ?_) (fun q => ?_)
    · have h := kif_t h q
      refine r_sub [2, 3, 4, 5, 6, 7, 8, 1, 0] rfl ?_
      exact sj_X2_wrongsBy_56 hc hZ ha2 hK h
    · have h := kif_f h q
      refine r_iload hc 1 dX2_wrongsBy_40 rfl ?_
      refine r_aload_n hc 2 dX2_wrongsBy_42 rfl ?_
      refine gf_X2_0 hc lf_X2_23 dX2_wrongsBy_43 ?_
      refine gf_X3_5 hc kH_33 lf_X2_32 dX2_wrongsBy_46 ?_
      refine r_ic_ge hc 56 dX2_wrongsBy_49 (by decide) (fun q => ?_) (fun q => ?_)
      · have h := kif_t h q
        refine r_sub [2, 3, 4, 5, 6, 7, 8, 1, 0] rfl ?_
        exact sj_X2_wrongsBy_56 hc hZ ha2 hK h
      · have h := kif_f h q
        refine r_iconst (v := 1) hc dX2_wrongsBy_52 rfl ?_
        refine r_goto hc 57 dX2_wrongsBy_53 (by decide) ?_
        refine r_sub [2, 3, 4, 5, 6, 7, 8, 1, 0] rfl ?_
        exact sj_X2_wrongsBy_57 hc hZ ha2 hK h
theorem sl_X2_wrongsBy_6 {X : kX} {g : kG} {N : Nat} {Q : Int32 → kS → Prop} {a2 : Nat} (hc : kOk X g RX2 cX2_wrongsBy 10 (some .int) 1) (hZ : kRi X g cX2_wrongsBy Q) (ha2 : kInts a2 40) {x1 : Int32} {x3 : Int32} {x4 : Int32} : ∀ (n : Nat) (x5 : Int32) (x6 : Int32) (σ : kS), l_X2_wrongsBy_6 N Q a2 x1 x3 x4 n x5 x6 σ → kP X g 10 6 [(0, kz g 49), (1, .int x1), (2, kz g a2), (3, .int x3), (4, .int x4), (5, .int x5), (6, .int x6)] [] σ := by
  intro n
  induction n with
  | zero => intro x5 x6 σ h; exact h.elim
  | succ n ih => intro x5 x6 σ h; exact sb_X2_wrongsBy_6 hc hZ ha2 ih h
def w_X2_wrongsBy (N : Nat) (σ : kS) (x1 : Int32) (a2 : Nat) (x3 : Int32) (x4 : Int32) (Q : Int32 → kS → Prop) : Prop :=
  l_X2_wrongsBy_6 N Q a2 x1 x3 x4  N 0 0 σ
set_option maxHeartbeats 4000000 in
set_option maxRecDepth 100000 in
theorem s_X2_wrongsBy {X : kX} {g : kG} {N : Nat} {Q : Int32 → kS → Prop} {a2 : Nat} (hc : kOk X g RX2 cX2_wrongsBy 10 (some .int) 1) (hZ : kRi X g cX2_wrongsBy Q) (ha2 : kInts a2 40) {σ : kS} {x1 : Int32} {x3 : Int32} {x4 : Int32} (h : w_X2_wrongsBy N σ x1 a2 x3 x4 Q) : kP X g 10 0 [(0, kz g 49), (1, .int x1), (2, kz g a2), (3, .int x3), (4, .int x4)] [] σ := by
  unfold w_X2_wrongsBy at h
  refine r_iconst (v := 0) hc dX2_wrongsBy_0 rfl ?_
  refine r_istore hc [(5, .int 0), (0, kz g 49), (1, .int x1), (2, kz g a2), (3, .int x3), (4, .int x4)] dX2_wrongsBy_1 (by decide) rfl ?_
  refine r_iconst (v := 0) hc dX2_wrongsBy_3 rfl ?_
  refine r_istore hc [(6, .int 0), (5, .int 0), (0, kz g 49), (1, .int x1), (2, kz g a2), (3, .int x3), (4, .int x4)] dX2_wrongsBy_4 (by decide) rfl ?_
  refine r_sub [2, 3, 4, 5, 6, 1, 0] rfl ?_
  refine sl_X2_wrongsBy_6 hc hZ ha2 _ _ _ _ h
theorem m_X2_wrongsBy {l : Launch} {g : kG} {N : Nat} {σ : kS} {a2 : Nat} {x1 : Int32} {x3 : Int32} {x4 : Int32} {Q : Int32 → kS → Prop} (ha2 : kInts a2 40) (h : w_X2_wrongsBy N σ x1 a2 x3 x4 Q) : kMi l g yX2_wrongsBy cX2_wrongsBy 10 (some .int) 1 [kz g 49, .int x1, kz g a2, .int x3, .int x4] σ Q :=
  k_met_i (by decide +kernel) rfl (Nat.le_of_ble_eq_true rfl) (fun X hl hc hZ => s_X2_wrongsBy hc hZ ha2 h)
def b_X2_shiftsBy_6 (N : Nat) (Q : Int32 → kS → Prop) (a1 : Nat) (x2 : Int32) (x3 : Int32) (x4 : Int32) (K : Int32 → Int32 → kS → Prop) (x5 : Int32) (x6 : Int32) (σ : kS) : Prop :=
  if (σ 33 5) ≤ x6 then (Q x5 σ) else (w_X2_wrongsBy N σ x6 a1 x2 x3 (fun (r_2 : Int32) (σ_1 : kS) => if x4 < r_2 then (∀ x6_3 : Int32, x6_3 = x6 + 1 → (K x5 x6_3 σ_1)) else (∀ x5_4 : Int32, x5_4 = x5 ||| (1 <<< (x6 &&& 31)) → (∀ x6_5 : Int32, x6_5 = x6 + 1 → (K x5_4 x6_5 σ_1)))))
def l_X2_shiftsBy_6 (N : Nat) (Q : Int32 → kS → Prop) (a1 : Nat) (x2 : Int32) (x3 : Int32) (x4 : Int32) : Nat → Int32 → Int32 → kS → Prop
  | 0 => fun _ _ _ => False
  | n + 1 => b_X2_shiftsBy_6 N Q a1 x2 x3 x4 (l_X2_shiftsBy_6 N Q a1 x2 x3 x4 n)
set_option maxHeartbeats 4000000 in
set_option maxRecDepth 100000 in
theorem sb_X2_shiftsBy_6 {X : kX} {g : kG} {N : Nat} {Q : Int32 → kS → Prop} {a1 : Nat} (hc : kOk X g RX2 cX2_shiftsBy 7 (some .int) 2) (hZ : kRi X g cX2_shiftsBy Q) (ha1 : kInts a1 40) {x2 : Int32} {x3 : Int32} {x4 : Int32} {K : Int32 → Int32 → kS → Prop} (hK : ∀ (x5 : Int32) (x6 : Int32) (τ : kS), K x5 x6 τ → kP X g 7 6 [(0, kz g 49), (1, kz g a1), (2, .int x2), (3, .int x3), (4, .int x4), (5, .int x5), (6, .int x6)] [] τ) {x5 : Int32} {x6 : Int32} {σ : kS} (h : b_X2_shiftsBy_6 N Q a1 x2 x3 x4 K x5 x6 σ) : kP X g 7 6 [(0, kz g 49), (1, kz g a1), (2, .int x2), (3, .int x3), (4, .int x4), (5, .int x5), (6, .int x6)] [] σ := by
  unfold b_X2_shiftsBy_6 at h
  refine r_iload hc 6 dX2_shiftsBy_6 rfl ?_
  refine r_aload_n hc 0 dX2_shiftsBy_8 rfl ?_
  refine gf_X2_0 hc lf_X2_23 dX2_shiftsBy_9 ?_
  refine gf_X3_5 hc kH_33 lf_X2_32 dX2_shiftsBy_12 ?_
  refine r_ic_ge hc 47 dX2_shiftsBy_15 (by decide) (fun q => ?_) (fun q => ?_)
  · have h := kif_t h q
    refine r_iload hc 5 dX2_shiftsBy_47 rfl ?_
    exact r_iret (ls0 := []) hZ dX2_shiftsBy_49 h
  · have h := kif_f h q
    refine r_aload_n hc 0 dX2_shiftsBy_18 rfl ?_
    refine r_iload hc 6 dX2_shiftsBy_19 rfl ?_
    refine r_aload_n hc 1 dX2_shiftsBy_21 rfl ?_
    refine r_iload_n hc 2 dX2_shiftsBy_22 rfl ?_
    refine r_iload_n hc 3 dX2_shiftsBy_23 rfl ?_
    refine r_callVi (d := 1) hc (m_X2_wrongsBy ha1 h) cw_X2_wrongsBy wi_X2_wrongsBy ws_X2_wrongsBy lm_X2_36 (by decide) (by decide) rv_X2 rfl rfl (Nat.le_of_ble_eq_true rfl) dX2_shiftsBy_24 (fun r_2 σ_1 h => ?_)
    refine r_iload hc 4 dX2_shiftsBy_27 rfl ?_
    refine r_ic_gt hc 41 dX2_shiftsBy_29 (by decide) (fun q => ?_) (fun q => ?_)
    · have h := kif_t h q
      obtain ⟨x6_3, ex6_3⟩ : ∃ v : Int32, v = x6 + 1 := ⟨_, rfl⟩
      have h := h x6_3 ex6_3
      refine r_iinc (v := x6_3) hc 6 [(6, .int x6_3), (0, kz g 49), (1, kz g a1), (2, .int x2), (3, .int x3), (4, .int x4), (5, .int x5)] dX2_shiftsBy_41 rfl (by rw [ex6_3]; rfl) (by decide) rfl ?_
      refine r_goto hc 6 dX2_shiftsBy_44 (by decide) ?_
      refine r_sub [1, 2, 3, 4, 5, 6, 0] rfl ?_
      exact hK _ _ _ h
    · have h := kif_f h q
      refine r_iload hc 5 dX2_shiftsBy_32 rfl ?_
      refine r_iconst (v := 1) hc dX2_shiftsBy_34 rfl ?_
      refine r_iload hc 6 dX2_shiftsBy_35 rfl ?_
      refine r_ishl hc dX2_shiftsBy_37 ?_
      refine r_ior hc dX2_shiftsBy_38 ?_
      refine r_nmI (fun x5_4 ex5_4 => ?_)
      have h := h x5_4 ex5_4
      refine r_istore hc [(5, .int x5_4), (0, kz g 49), (1, kz g a1), (2, .int x2), (3, .int x3), (4, .int x4), (6, .int x6)] dX2_shiftsBy_39 (by decide) rfl ?_
      obtain ⟨x6_5, ex6_5⟩ : ∃ v : Int32, v = x6 + 1 := ⟨_, rfl⟩
      have h := h x6_5 ex6_5
      refine r_iinc (v := x6_5) hc 6 [(6, .int x6_5), (5, .int x5_4), (0, kz g 49), (1, kz g a1), (2, .int x2), (3, .int x3), (4, .int x4)] dX2_shiftsBy_41 rfl (by rw [ex6_5]; rfl) (by decide) rfl ?_
      refine r_goto hc 6 dX2_shiftsBy_44 (by decide) ?_
      refine r_sub [2, 3, 4, 5, 6, 1, 0] rfl ?_
      exact hK _ _ _ h
theorem sl_X2_shiftsBy_6 {X : kX} {g : kG} {N : Nat} {Q : Int32 → kS → Prop} {a1 : Nat} (hc : kOk X g RX2 cX2_shiftsBy 7 (some .int) 2) (hZ : kRi X g cX2_shiftsBy Q) (ha1 : kInts a1 40) {x2 : Int32} {x3 : Int32} {x4 : Int32} : ∀ (n : Nat) (x5 : Int32) (x6 : Int32) (σ : kS), l_X2_shiftsBy_6 N Q a1 x2 x3 x4 n x5 x6 σ → kP X g 7 6 [(0, kz g 49), (1, kz g a1), (2, .int x2), (3, .int x3), (4, .int x4), (5, .int x5), (6, .int x6)] [] σ := by
  intro n
  induction n with
  | zero => intro x5 x6 σ h; exact h.elim
  | succ n ih => intro x5 x6 σ h; exact sb_X2_shiftsBy_6 hc hZ ha1 ih h
def w_X2_shiftsBy (N : Nat) (σ : kS) (a1 : Nat) (x2 : Int32) (x3 : Int32) (x4 : Int32) (Q : Int32 → kS → Prop) : Prop :=
  l_X2_shiftsBy_6 N Q a1 x2 x3 x4  N 0 0 σ
set_option maxHeartbeats 4000000 in
set_option maxRecDepth 100000 in
theorem s_X2_shiftsBy {X : kX} {g : kG} {N : Nat} {Q : Int32 → kS → Prop} {a1 : Nat} (hc : kOk X g RX2 cX2_shiftsBy 7 (some .int) 2) (hZ : kRi X g cX2_shiftsBy Q) (ha1 : kInts a1 40) {σ : kS} {x2 : Int32} {x3 : Int32} {x4 : Int32} (h : w_X2_shiftsBy N σ a1 x2 x3 x4 Q) : kP X g 7 0 [(0, kz g 49), (1, kz g a1), (2, .int x2), (3, .int x3), (4, .int x4)] [] σ := by
  unfold w_X2_shiftsBy at h
  refine r_iconst (v := 0) hc dX2_shiftsBy_0 rfl ?_
  refine r_istore hc [(5, .int 0), (0, kz g 49), (1, kz g a1), (2, .int x2), (3, .int x3), (4, .int x4)] dX2_shiftsBy_1 (by decide) rfl ?_
  refine r_iconst (v := 0) hc dX2_shiftsBy_3 rfl ?_
  refine r_istore hc [(6, .int 0), (5, .int 0), (0, kz g 49), (1, kz g a1), (2, .int x2), (3, .int x3), (4, .int x4)] dX2_shiftsBy_4 (by decide) rfl ?_
  refine r_sub [2, 3, 4, 5, 6, 1, 0] rfl ?_
  refine sl_X2_shiftsBy_6 hc hZ ha1 _ _ _ _ h
theorem m_X2_shiftsBy {l : Launch} {g : kG} {N : Nat} {σ : kS} {a1 : Nat} {x2 : Int32} {x3 : Int32} {x4 : Int32} {Q : Int32 → kS → Prop} (ha1 : kInts a1 40) (h : w_X2_shiftsBy N σ a1 x2 x3 x4 Q) : kMi l g yX2_shiftsBy cX2_shiftsBy 7 (some .int) 2 [kz g 49, kz g a1, .int x2, .int x3, .int x4] σ Q :=
  k_met_i (by decide +kernel) rfl (Nat.le_of_ble_eq_true rfl) (fun X hl hc hZ => s_X2_shiftsBy hc hZ ha1 h)
def j_X2_nightsIfTaught_29 (N : Nat) (Q : Int32 → kS → Prop) (x1 : Int32) (x2 : Int32) (x3 : Int32) (s0 : Int32) (K : Int32 → Int32 → kS → Prop) (σ : kS) : Prop :=
  if s0 = 0 then (vp_in x3 5 ∧ (∀ x2_2 : Int32, x2_2 = x2 ||| (σ 50 x3.toNatClampNeg) → (∀ x3_3 : Int32, x3_3 = x3 + 1 → (K x2_2 x3_3 σ)))) else (vp_in x3 5 ∧ (∀ x2_5 : Int32, x2_5 = x2 ||| (σ 51 x3.toNatClampNeg) → (∀ x3_6 : Int32, x3_6 = x3 + 1 → (K x2_5 x3_6 σ))))
set_option maxHeartbeats 4000000 in
set_option maxRecDepth 100000 in
theorem sj_X2_nightsIfTaught_29 {X : kX} {g : kG} {N : Nat} {Q : Int32 → kS → Prop} (hc : kOk X g RX2 cX2_nightsIfTaught 5 (some .int) 0) (hZ : kRi X g cX2_nightsIfTaught Q) {x1 : Int32} {x2 : Int32} {x3 : Int32} {s0 : Int32} {K : Int32 → Int32 → kS → Prop} (hK : ∀ (x2 : Int32) (x3 : Int32) (τ : kS), K x2 x3 τ → kP X g 5 4 [(0, kz g 49), (1, .int x1), (2, .int x2), (3, .int x3)] [] τ) {σ : kS} (h : j_X2_nightsIfTaught_29 N Q x1 x2 x3 s0 K σ) : kP X g 5 29 [(0, kz g 49), (1, .int x1), (2, .int x2), (3, .int x3)] [.int s0] σ := by
  unfold j_X2_nightsIfTaught_29 at h
  refine r_istore hc [(4, .int s0), (0, kz g 49), (1, .int x1), (2, .int x2), (3, .int x3)] dX2_nightsIfTaught_29 (by decide) rfl ?_
  refine r_iload_n hc 3 dX2_nightsIfTaught_31 rfl ?_
  refine r_iload hc 0 dX2_nightsIfTaught_32 rfl ?_
  refine r_if_eq hc 46 dX2_nightsIfTaught_34 (by decide) (fun q => ?_) (fun q => ?_)
  · have h := kif_t h q
    refine r_aload_n hc 1 dX2_nightsIfTaught_46 rfl ?_
    refine gf_X2_1 hc lf_X2_11 dX2_nightsIfTaught_47 ?_
    refine r_iload_n hc 4 dX2_nightsIfTaught_50 rfl ?_
    obtain ⟨hi_1, h⟩ := h
    refine r_iald hc kia_50 hi_1 dX2_nightsIfTaught_51 ?_
    refine r_ior hc dX2_nightsIfTaught_52 ?_
    refine r_nmI (fun x2_2 ex2_2 => ?_)
    have h := h x2_2 ex2_2
    refine r_istore_n hc [(2, .int x2_2), (4, .int s0), (0, kz g 49), (1, .int x1), (3, .int x3)] dX2_nightsIfTaught_53 (by decide) rfl ?_
    obtain ⟨x3_3, ex3_3⟩ : ∃ v : Int32, v = x3 + 1 := ⟨_, rfl⟩
    have h := h x3_3 ex3_3
    refine r_iinc (v := x3_3) hc 4 [(3, .int x3_3), (2, .int x2_2), (4, .int s0), (0, kz g 49), (1, .int x1)] dX2_nightsIfTaught_54 rfl (by rw [ex3_3]; rfl) (by decide) rfl ?_
    refine r_goto hc 4 dX2_nightsIfTaught_57 (by decide) ?_
    refine r_sub [3, 4, 1, 0] rfl ?_
    exact hK _ _ _ h
  · have h := kif_f h q
    refine r_aload_n hc 1 dX2_nightsIfTaught_37 rfl ?_
    refine gf_X2_2 hc lf_X2_17 dX2_nightsIfTaught_38 ?_
    refine r_iload_n hc 4 dX2_nightsIfTaught_41 rfl ?_
    obtain ⟨hi_4, h⟩ := h
    refine r_iald hc kia_51 hi_4 dX2_nightsIfTaught_42 ?_
    refine r_goto hc 52 dX2_nightsIfTaught_43 (by decide) ?_
    refine r_ior hc dX2_nightsIfTaught_52 ?_
    refine r_nmI (fun x2_5 ex2_5 => ?_)
    have h := h x2_5 ex2_5
    refine r_istore_n hc [(2, .int x2_5), (4, .int s0), (0, kz g 49), (1, .int x1), (3, .int x3)] dX2_nightsIfTaught_53 (by decide) rfl ?_
    obtain ⟨x3_6, ex3_6⟩ : ∃ v : Int32, v = x3 + 1 := ⟨_, rfl⟩
    have h := h x3_6 ex3_6
    refine r_iinc (v := x3_6) hc 4 [(3, .int x3_6), (2, .int x2_5), (4, .int s0), (0, kz g 49), (1, .int x1)] dX2_nightsIfTaught_54 rfl (by rw [ex3_6]; rfl) (by decide) rfl ?_
    refine r_goto hc 4 dX2_nightsIfTaught_57 (by decide) ?_
    refine r_sub [3, 4, 1, 0] rfl ?_
    exact hK _ _ _ h
def b_X2_nightsIfTaught_4 (N : Nat) (Q : Int32 → kS → Prop) (x1 : Int32) (K : Int32 → Int32 → kS → Prop) (x2 : Int32) (x3 : Int32) (σ : kS) : Prop :=
  if (σ 33 10) ≤ x3 then (Q x2 σ) else (if ((x1 >>> (x3 &&& 31)) &&& 1) = 1 then (j_X2_nightsIfTaught_29 N Q x1 x2 x3 1 K σ) else (j_X2_nightsIfTaught_29 N Q x1 x2 x3 0 K σ))
def l_X2_nightsIfTaught_4 (N : Nat) (Q : Int32 → kS → Prop) (x1 : Int32) : Nat → Int32 → Int32 → kS → Prop
  | 0 => fun _ _ _ => False
  | n + 1 => b_X2_nightsIfTaught_4 N Q x1 (l_X2_nightsIfTaught_4 N Q x1 n)
set_option maxHeartbeats 4000000 in
set_option maxRecDepth 100000 in
theorem sb_X2_nightsIfTaught_4 {X : kX} {g : kG} {N : Nat} {Q : Int32 → kS → Prop} (hc : kOk X g RX2 cX2_nightsIfTaught 5 (some .int) 0) (hZ : kRi X g cX2_nightsIfTaught Q) {x1 : Int32} {K : Int32 → Int32 → kS → Prop} (hK : ∀ (x2 : Int32) (x3 : Int32) (τ : kS), K x2 x3 τ → kP X g 5 4 [(0, kz g 49), (1, .int x1), (2, .int x2), (3, .int x3)] [] τ) {x2 : Int32} {x3 : Int32} {σ : kS} (h : b_X2_nightsIfTaught_4 N Q x1 K x2 x3 σ) : kP X g 5 4 [(0, kz g 49), (1, .int x1), (2, .int x2), (3, .int x3)] [] σ := by
  unfold b_X2_nightsIfTaught_4 at h
  refine r_iload_n hc 3 dX2_nightsIfTaught_4 rfl ?_
  refine r_aload_n hc 0 dX2_nightsIfTaught_5 rfl ?_
  refine gf_X2_0 hc lf_X2_23 dX2_nightsIfTaught_6 ?_
  refine gf_X3_10 hc kH_33 lf_X2_43 dX2_nightsIfTaught_9 ?_
  refine r_ic_ge hc 60 dX2_nightsIfTaught_12 (by decide) (fun q => ?_) (fun q => ?_)
  · have h := kif_t h q
    refine r_iload_n hc 2 dX2_nightsIfTaught_60 rfl ?_
    exact r_iret (ls0 := []) hZ dX2_nightsIfTaught_61 h
  · have h := kif_f h q
    refine r_iload_n hc 1 dX2_nightsIfTaught_15 rfl ?_
    refine r_iload_n hc 3 dX2_nightsIfTaught_16 rfl ?_
    refine r_ishr hc dX2_nightsIfTaught_17 ?_
    refine r_iconst (v := 1) hc dX2_nightsIfTaught_18 rfl ?_
    refine r_iand hc dX2_nightsIfTaught_19 ?_
    refine r_iconst (v := 1) hc dX2_nightsIfTaught_20 rfl ?_
    refine r_ic_ne hc 28 dX2_nightsIfTaught_21 (by decide) (fun q => ?_) (fun q => ?_)
    · have h := kif_t h q
      refine r_iconst (v := 1) hc dX2_nightsIfTaught_24 rfl ?_
      refine r_goto hc 29 dX2_nightsIfTaught_25 (by decide) ?_
      exact sj_X2_nightsIfTaught_29 hc hZ hK h
    · have h := kif_f h q
      refine r_iconst (v := 0) hc dX2_nightsIfTaught_28 rfl ?_
      exact sj_X2_nightsIfTaught_29 hc hZ hK h
theorem sl_X2_nightsIfTaught_4 {X : kX} {g : kG} {N : Nat} {Q : Int32 → kS → Prop} (hc : kOk X g RX2 cX2_nightsIfTaught 5 (some .int) 0) (hZ : kRi X g cX2_nightsIfTaught Q) {x1 : Int32} : ∀ (n : Nat) (x2 : Int32) (x3 : Int32) (σ : kS), l_X2_nightsIfTaught_4 N Q x1 n x2 x3 σ → kP X g 5 4 [(0, kz g 49), (1, .int x1), (2, .int x2), (3, .int x3)] [] σ := by
  intro n
  induction n with
  | zero => intro x2 x3 σ h; exact h.elim
  | succ n ih => intro x2 x3 σ h; exact sb_X2_nightsIfTaught_4 hc hZ ih h
def w_X2_nightsIfTaught (N : Nat) (σ : kS) (x1 : Int32) (Q : Int32 → kS → Prop) : Prop :=
  l_X2_nightsIfTaught_4 N Q x1  N 0 0 σ
set_option maxHeartbeats 4000000 in
set_option maxRecDepth 100000 in
theorem s_X2_nightsIfTaught {X : kX} {g : kG} {N : Nat} {Q : Int32 → kS → Prop} (hc : kOk X g RX2 cX2_nightsIfTaught 5 (some .int) 0) (hZ : kRi X g cX2_nightsIfTaught Q) {σ : kS} {x1 : Int32} (h : w_X2_nightsIfTaught N σ x1 Q) : kP X g 5 0 [(0, kz g 49), (1, .int x1)] [] σ := by
  unfold w_X2_nightsIfTaught at h
  refine r_iconst (v := 0) hc dX2_nightsIfTaught_0 rfl ?_
  refine r_istore_n hc [(2, .int 0), (0, kz g 49), (1, .int x1)] dX2_nightsIfTaught_1 (by decide) rfl ?_
  refine r_iconst (v := 0) hc dX2_nightsIfTaught_2 rfl ?_
  refine r_istore_n hc [(3, .int 0), (2, .int 0), (0, kz g 49), (1, .int x1)] dX2_nightsIfTaught_3 (by decide) rfl ?_
  refine r_sub [2, 3, 1, 0] rfl ?_
  refine sl_X2_nightsIfTaught_4 hc hZ _ _ _ _ h
theorem m_X2_nightsIfTaught {l : Launch} {g : kG} {N : Nat} {σ : kS} {x1 : Int32} {Q : Int32 → kS → Prop} (h : w_X2_nightsIfTaught N σ x1 Q) : kMi l g yX2_nightsIfTaught cX2_nightsIfTaught 5 (some .int) 0 [kz g 49, .int x1] σ Q :=
  k_met_i (by decide +kernel) rfl (Nat.le_of_ble_eq_true rfl) (fun X hl hc hZ => s_X2_nightsIfTaught hc hZ h)
def b_X2_fewestTaught_2 (N : Nat) (Q : Int32 → kS → Prop) (x1 : Int32) (E76 : kS → Prop) (K : Int32 → kS → Prop) (x2 : Int32) (σ : kS) : Prop :=
  if (σ 33 10) ≤ x2 then (E76 σ) else (vp_in x2 5 ∧ (w_X3_biasAs N σ 33 (σ 36 x2.toNatClampNeg) (σ 33 7) (fun (r_3 : Int32) (σ_2 : kS) => w_X3_biasOf N σ_2 33 x2 (fun (r_5 : Int32) (σ_4 : kS) => w_X2_nightsAt N σ_4 r_5 24 (fun (r_7 : Int32) (σ_6 : kS) => vp_in x2 5 ∧ (∀ σ_9 : kS, σ_9 = st2 σ_6 50 (x2.toNatClampNeg) r_7 → (w_X2_nightsAt N σ_9 r_3 24 (fun (r_11 : Int32) (σ_10 : kS) => vp_in x2 5 ∧ (∀ σ_13 : kS, σ_13 = st2 σ_10 51 (x2.toNatClampNeg) r_11 → (∀ x2_14 : Int32, x2_14 = x2 + 1 → (K x2_14 σ_13)))))))))))
def l_X2_fewestTaught_2 (N : Nat) (Q : Int32 → kS → Prop) (x1 : Int32) (E76 : kS → Prop) : Nat → Int32 → kS → Prop
  | 0 => fun _ _ => False
  | n + 1 => b_X2_fewestTaught_2 N Q x1 E76 (l_X2_fewestTaught_2 N Q x1 E76 n)
set_option maxHeartbeats 4000000 in
set_option maxRecDepth 100000 in
theorem sb_X2_fewestTaught_2 {X : kX} {g : kG} {N : Nat} {Q : Int32 → kS → Prop} (hc : kOk X g RX2 cX2_fewestTaught 6 (some .int) 3) (hZ : kRi X g cX2_fewestTaught Q) {x1 : Int32} {E76 : kS → Prop} (hE76 : ∀ (τ : kS), E76 τ → kP X g 6 76 [(0, kz g 49), (1, .int x1)] [] τ) {K : Int32 → kS → Prop} (hK : ∀ (x2 : Int32) (τ : kS), K x2 τ → kP X g 6 2 [(0, kz g 49), (1, .int x1), (2, .int x2)] [] τ) {x2 : Int32} {σ : kS} (h : b_X2_fewestTaught_2 N Q x1 E76 K x2 σ) : kP X g 6 2 [(0, kz g 49), (1, .int x1), (2, .int x2)] [] σ := by
  unfold b_X2_fewestTaught_2 at h
  refine r_iload_n hc 2 dX2_fewestTaught_2 rfl ?_
  refine r_aload_n hc 0 dX2_fewestTaught_3 rfl ?_
  refine gf_X2_0 hc lf_X2_23 dX2_fewestTaught_4 ?_
  refine gf_X3_10 hc kH_33 lf_X2_43 dX2_fewestTaught_7 ?_
  refine r_ic_ge hc 76 dX2_fewestTaught_10 (by decide) (fun q => ?_) (fun q => ?_)
  · have h := kif_t h q
    refine r_sub [0, 1] rfl ?_
    exact hE76 _ h
  · have h := kif_f h q
    refine r_aload_n hc 0 dX2_fewestTaught_13 rfl ?_
    refine gf_X2_0 hc lf_X2_23 dX2_fewestTaught_14 ?_
    refine r_aload_n hc 0 dX2_fewestTaught_17 rfl ?_
    refine gf_X2_0 hc lf_X2_23 dX2_fewestTaught_18 ?_
    refine gf_X3_2 hc kH_33 lf_X2_46 dX2_fewestTaught_21 ?_
    refine r_iload_n hc 2 dX2_fewestTaught_24 rfl ?_
    obtain ⟨hi_1, h⟩ := h
    refine r_iald hc kia_36 hi_1 dX2_fewestTaught_25 ?_
    refine r_aload_n hc 0 dX2_fewestTaught_26 rfl ?_
    refine gf_X2_0 hc lf_X2_23 dX2_fewestTaught_27 ?_
    refine gf_X3_7 hc kH_33 lf_X2_49 dX2_fewestTaught_30 ?_
    refine r_callVi (d := 1) hc (m_X3_biasAs kH_33 h) cw_X3_biasAs wi_X3_biasAs ws_X3_biasAs lm_X2_52 (by decide) (by decide) (rv_X3 kH_33) rfl rfl (Nat.le_of_ble_eq_true rfl) dX2_fewestTaught_33 (fun r_3 σ_2 h => ?_)
    refine r_istore_n hc [(3, .int r_3), (0, kz g 49), (1, .int x1), (2, .int x2)] dX2_fewestTaught_36 (by decide) rfl ?_
    refine r_aload_n hc 1 dX2_fewestTaught_37 rfl ?_
    refine gf_X2_1 hc lf_X2_11 dX2_fewestTaught_38 ?_
    refine r_iload_n hc 3 dX2_fewestTaught_41 rfl ?_
    refine r_aload_n hc 1 dX2_fewestTaught_42 rfl ?_
    refine r_aload_n hc 1 dX2_fewestTaught_43 rfl ?_
    refine gf_X2_0 hc lf_X2_23 dX2_fewestTaught_44 ?_
    refine r_iload_n hc 3 dX2_fewestTaught_47 rfl ?_
    refine r_callVi (d := 2) hc (m_X3_biasOf kH_33 h) cw_X3_biasOf wi_X3_biasOf ws_X3_biasOf lm_X2_56 (by decide) (by decide) (rv_X3 kH_33) rfl rfl (Nat.le_of_ble_eq_true rfl) dX2_fewestTaught_48 (fun r_5 σ_4 h => ?_)
    refine r_bipush (v := 24) hc dX2_fewestTaught_51 rfl ?_
    refine r_callVi (d := 2) hc (m_X2_nightsAt h) cw_X2_nightsAt wi_X2_nightsAt ws_X2_nightsAt lm_X2_59 (by decide) (by decide) rv_X2 rfl rfl (Nat.le_of_ble_eq_true rfl) dX2_fewestTaught_53 (fun r_7 σ_6 h => ?_)
    obtain ⟨hi_8, h⟩ := h
    refine r_iast hc kia_50 hi_8 dX2_fewestTaught_56 ?_
    refine r_nmS (fun σ_9 eσ_9 => ?_)
    have h := h σ_9 eσ_9
    refine r_aload_n hc 1 dX2_fewestTaught_57 rfl ?_
    refine gf_X2_2 hc lf_X2_17 dX2_fewestTaught_58 ?_
    refine r_iload_n hc 3 dX2_fewestTaught_61 rfl ?_
    refine r_aload_n hc 1 dX2_fewestTaught_62 rfl ?_
    refine r_iload_n hc 0 dX2_fewestTaught_63 rfl ?_
    refine r_bipush (v := 24) hc dX2_fewestTaught_64 rfl ?_
    refine r_callVi (d := 2) hc (m_X2_nightsAt h) cw_X2_nightsAt wi_X2_nightsAt ws_X2_nightsAt lm_X2_59 (by decide) (by decide) rv_X2 rfl rfl (Nat.le_of_ble_eq_true rfl) dX2_fewestTaught_66 (fun r_11 σ_10 h => ?_)
    obtain ⟨hi_12, h⟩ := h
    refine r_iast hc kia_51 hi_12 dX2_fewestTaught_69 ?_
    refine r_nmS (fun σ_13 eσ_13 => ?_)
    have h := h σ_13 eσ_13
    obtain ⟨x2_14, ex2_14⟩ : ∃ v : Int32, v = x2 + 1 := ⟨_, rfl⟩
    have h := h x2_14 ex2_14
    refine r_iinc (v := x2_14) hc 3 [(2, .int x2_14), (3, .int r_3), (0, kz g 49), (1, .int x1)] dX2_fewestTaught_70 rfl (by rw [ex2_14]; rfl) (by decide) rfl ?_
    refine r_goto hc 2 dX2_fewestTaught_73 (by decide) ?_
    refine r_sub [2, 3, 0] rfl ?_
    exact hK _ _ h
theorem sl_X2_fewestTaught_2 {X : kX} {g : kG} {N : Nat} {Q : Int32 → kS → Prop} (hc : kOk X g RX2 cX2_fewestTaught 6 (some .int) 3) (hZ : kRi X g cX2_fewestTaught Q) {x1 : Int32} {E76 : kS → Prop} (hE76 : ∀ (τ : kS), E76 τ → kP X g 6 76 [(0, kz g 49), (1, .int x1)] [] τ) : ∀ (n : Nat) (x2 : Int32) (σ : kS), l_X2_fewestTaught_2 N Q x1 E76 n x2 σ → kP X g 6 2 [(0, kz g 49), (1, .int x1), (2, .int x2)] [] σ := by
  intro n
  induction n with
  | zero => intro x2 σ h; exact h.elim
  | succ n ih => intro x2 σ h; exact sb_X2_fewestTaught_2 hc hZ hE76 ih h
def j_X2_fewestTaught_124 (N : Nat) (Q : Int32 → kS → Prop) (x1 : Int32) (x2 : Int32) (x3 : Int32) (x4 : Int32) (s0 : Int32) (K : Int32 → Int32 → Int32 → kS → Prop) (σ : kS) : Prop :=
  if s0 = 0 then (∀ x4_19 : Int32, x4_19 = x4 + 1 → (K x2 x3 x4_19 σ)) else (w_J6_bitCount_0f7a4 N σ x4 (fun (r_21 : Int32) (σ_20 : kS) => if x3 ≤ r_21 then (∀ x4_22 : Int32, x4_22 = x4 + 1 → (K x2 x3 x4_22 σ_20)) else (w_J6_bitCount_0f7a4 N σ_20 x4 (fun (r_24 : Int32) (σ_23 : kS) => ∀ x4_25 : Int32, x4_25 = x4 + 1 → (K x4 r_24 x4_25 σ_23)))))
set_option maxHeartbeats 4000000 in
set_option maxRecDepth 100000 in
theorem sj_X2_fewestTaught_124 {X : kX} {g : kG} {N : Nat} {Q : Int32 → kS → Prop} (hc : kOk X g RX2 cX2_fewestTaught 6 (some .int) 3) (hZ : kRi X g cX2_fewestTaught Q) {x1 : Int32} {x2 : Int32} {x3 : Int32} {x4 : Int32} {s0 : Int32} {K : Int32 → Int32 → Int32 → kS → Prop} (hK : ∀ (x2 : Int32) (x3 : Int32) (x4 : Int32) (τ : kS), K x2 x3 x4 τ → kP X g 6 92 [(0, kz g 49), (1, .int x1), (2, .int x2), (3, .int x3), (4, .int x4)] [] τ) {σ : kS} (h : j_X2_fewestTaught_124 N Q x1 x2 x3 x4 s0 K σ) : kP X g 6 124 [(0, kz g 49), (1, .int x1), (2, .int x2), (3, .int x3), (4, .int x4)] [.int s0] σ := by
  unfold j_X2_fewestTaught_124 at h
  refine r_istore hc [(5, .int s0), (0, kz g 49), (1, .int x1), (2, .int x2), (3, .int x3), (4, .int x4)] dX2_fewestTaught_124 (by decide) rfl ?_
  refine r_iload hc 0 dX2_fewestTaught_126 rfl ?_
  refine r_if_eq hc 149 dX2_fewestTaught_128 (by decide) (fun q => ?_) (fun q => ?_)
  · have h := kif_t h q
    obtain ⟨x4_19, ex4_19⟩ : ∃ v : Int32, v = x4 + 1 := ⟨_, rfl⟩
    have h := h x4_19 ex4_19
    refine r_iinc (v := x4_19) hc 5 [(4, .int x4_19), (5, .int s0), (0, kz g 49), (1, .int x1), (2, .int x2), (3, .int x3)] dX2_fewestTaught_149 rfl (by rw [ex4_19]; rfl) (by decide) rfl ?_
    refine r_goto hc 92 dX2_fewestTaught_152 (by decide) ?_
    refine r_sub [2, 3, 4, 5, 0] rfl ?_
    exact hK _ _ _ _ h
  · have h := kif_f h q
    refine r_iload hc 5 dX2_fewestTaught_131 rfl ?_
    refine r_callSi (d := 0) hc (m_J6_bitCount_0f7a4 h) cw_J6_bitCount_0f7a4 wt_J6_bitCount_0f7a4 lm_X2_65 (by decide) (by decide) rfl rfl (Nat.le_of_ble_eq_true rfl) dX2_fewestTaught_133 (fun r_21 σ_20 h => ?_)
    refine r_iload_n hc 4 dX2_fewestTaught_136 rfl ?_
    refine r_ic_ge hc 149 dX2_fewestTaught_137 (by decide) (fun q => ?_) (fun q => ?_)
    · have h := kif_t h q
      obtain ⟨x4_22, ex4_22⟩ : ∃ v : Int32, v = x4 + 1 := ⟨_, rfl⟩
      have h := h x4_22 ex4_22
      refine r_iinc (v := x4_22) hc 5 [(4, .int x4_22), (5, .int s0), (0, kz g 49), (1, .int x1), (2, .int x2), (3, .int x3)] dX2_fewestTaught_149 rfl (by rw [ex4_22]; rfl) (by decide) rfl ?_
      refine r_goto hc 92 dX2_fewestTaught_152 (by decide) ?_
      refine r_sub [2, 3, 4, 5, 0] rfl ?_
      exact hK _ _ _ _ h
    · have h := kif_f h q
      refine r_iload hc 5 dX2_fewestTaught_140 rfl ?_
      refine r_istore_n hc [(2, .int x4), (5, .int s0), (0, kz g 49), (1, .int x1), (3, .int x3), (4, .int x4)] dX2_fewestTaught_142 (by decide) rfl ?_
      refine r_iload hc 5 dX2_fewestTaught_143 rfl ?_
      refine r_callSi (d := 0) hc (m_J6_bitCount_0f7a4 h) cw_J6_bitCount_0f7a4 wt_J6_bitCount_0f7a4 lm_X2_65 (by decide) (by decide) rfl rfl (Nat.le_of_ble_eq_true rfl) dX2_fewestTaught_145 (fun r_24 σ_23 h => ?_)
      refine r_istore_n hc [(3, .int r_24), (2, .int x4), (5, .int s0), (0, kz g 49), (1, .int x1), (4, .int x4)] dX2_fewestTaught_148 (by decide) rfl ?_
      obtain ⟨x4_25, ex4_25⟩ : ∃ v : Int32, v = x4 + 1 := ⟨_, rfl⟩
      have h := h x4_25 ex4_25
      refine r_iinc (v := x4_25) hc 5 [(4, .int x4_25), (3, .int r_24), (2, .int x4), (5, .int s0), (0, kz g 49), (1, .int x1)] dX2_fewestTaught_149 rfl (by rw [ex4_25]; rfl) (by decide) rfl ?_
      refine r_goto hc 92 dX2_fewestTaught_152 (by decide) ?_
      refine r_sub [4, 5, 2, 1, 0] rfl ?_
      exact hK _ _ _ _ h
def b_X2_fewestTaught_92 (N : Nat) (Q : Int32 → kS → Prop) (x1 : Int32) (K : Int32 → Int32 → Int32 → kS → Prop) (x2 : Int32) (x3 : Int32) (x4 : Int32) (σ : kS) : Prop :=
  if (1 <<< ((σ 33 10) &&& 31)) ≤ x4 then (Q x2 σ) else (w_X2_nightsIfTaught N σ x4 (fun (r_18 : Int32) (σ_17 : kS) => if (x1 &&& (r_18 ^^^ (-1))) = 0 then (j_X2_fewestTaught_124 N Q x1 x2 x3 x4 1 K σ_17) else (j_X2_fewestTaught_124 N Q x1 x2 x3 x4 0 K σ_17)))
def l_X2_fewestTaught_92 (N : Nat) (Q : Int32 → kS → Prop) (x1 : Int32) : Nat → Int32 → Int32 → Int32 → kS → Prop
  | 0 => fun _ _ _ _ => False
  | n + 1 => b_X2_fewestTaught_92 N Q x1 (l_X2_fewestTaught_92 N Q x1 n)
set_option maxHeartbeats 4000000 in
set_option maxRecDepth 100000 in
theorem sb_X2_fewestTaught_92 {X : kX} {g : kG} {N : Nat} {Q : Int32 → kS → Prop} (hc : kOk X g RX2 cX2_fewestTaught 6 (some .int) 3) (hZ : kRi X g cX2_fewestTaught Q) {x1 : Int32} {K : Int32 → Int32 → Int32 → kS → Prop} (hK : ∀ (x2 : Int32) (x3 : Int32) (x4 : Int32) (τ : kS), K x2 x3 x4 τ → kP X g 6 92 [(0, kz g 49), (1, .int x1), (2, .int x2), (3, .int x3), (4, .int x4)] [] τ) {x2 : Int32} {x3 : Int32} {x4 : Int32} {σ : kS} (h : b_X2_fewestTaught_92 N Q x1 K x2 x3 x4 σ) : kP X g 6 92 [(0, kz g 49), (1, .int x1), (2, .int x2), (3, .int x3), (4, .int x4)] [] σ := by
  unfold b_X2_fewestTaught_92 at h
  refine r_iload hc 4 dX2_fewestTaught_92 rfl ?_
  refine r_iconst (v := 1) hc dX2_fewestTaught_94 rfl ?_
  refine r_aload_n hc 0 dX2_fewestTaught_95 rfl ?_
  refine gf_X2_0 hc lf_X2_23 dX2_fewestTaught_96 ?_
  refine gf_X3_10 hc kH_33 lf_X2_43 dX2_fewestTaught_99 ?_
  refine r_ishl hc dX2_fewestTaught_102 ?_
  refine r_ic_ge hc 155 dX2_fewestTaught_103 (by decide) (fun q => ?_) (fun q => ?_)
  · have h := kif_t h q
    refine r_iload_n hc 2 dX2_fewestTaught_155 rfl ?_
    exact r_iret (ls0 := []) hZ dX2_fewestTaught_156 h
  · have h := kif_f h q
    refine r_iload_n hc 1 dX2_fewestTaught_106 rfl ?_
    refine r_aload_n hc 0 dX2_fewestTaught_107 rfl ?_
    refine r_iload hc 4 dX2_fewestTaught_108 rfl ?_
    refine r_callVi (d := 0) hc (m_X2_nightsIfTaught h) cw_X2_nightsIfTaught wi_X2_nightsIfTaught ws_X2_nightsIfTaught lm_X2_62 (by decide) (by decide) rv_X2 rfl rfl (Nat.le_of_ble_eq_true rfl) dX2_fewestTaught_110 (fun r_18 σ_17 h => ?_)
    refine r_iconst (v := (-1)) hc dX2_fewestTaught_113 rfl ?_
    refine r_ixor hc dX2_fewestTaught_114 ?_
    refine r_iand hc dX2_fewestTaught_115 ?_
    refine r_if_ne hc 123 dX2_fewestTaught_116 (by decide) (fun q => ?_) (fun q => ?_)
    · have h := kif_t h q
      refine r_iconst (v := 1) hc dX2_fewestTaught_119 rfl ?_
      refine r_goto hc 124 dX2_fewestTaught_120 (by decide) ?_
      exact sj_X2_fewestTaught_124 hc hZ hK h
    · have h := kif_f h q
      refine r_iconst (v := 0) hc dX2_fewestTaught_123 rfl ?_
      exact sj_X2_fewestTaught_124 hc hZ hK h
theorem sl_X2_fewestTaught_92 {X : kX} {g : kG} {N : Nat} {Q : Int32 → kS → Prop} (hc : kOk X g RX2 cX2_fewestTaught 6 (some .int) 3) (hZ : kRi X g cX2_fewestTaught Q) {x1 : Int32} : ∀ (n : Nat) (x2 : Int32) (x3 : Int32) (x4 : Int32) (σ : kS), l_X2_fewestTaught_92 N Q x1 n x2 x3 x4 σ → kP X g 6 92 [(0, kz g 49), (1, .int x1), (2, .int x2), (3, .int x3), (4, .int x4)] [] σ := by
  intro n
  induction n with
  | zero => intro x2 x3 x4 σ h; exact h.elim
  | succ n ih => intro x2 x3 x4 σ h; exact sb_X2_fewestTaught_92 hc hZ ih h
def w_X2_fewestTaught (N : Nat) (σ : kS) (x1 : Int32) (Q : Int32 → kS → Prop) : Prop :=
  l_X2_fewestTaught_2 N Q x1 (fun (σ_15 : kS) => ∀ x3_16 : Int32, x3_16 = (σ_15 33 10) + 1 → (l_X2_fewestTaught_92 N Q x1  N (-1000000) x3_16 0 σ_15)) N 0 σ
set_option maxHeartbeats 4000000 in
set_option maxRecDepth 100000 in
theorem s_X2_fewestTaught {X : kX} {g : kG} {N : Nat} {Q : Int32 → kS → Prop} (hc : kOk X g RX2 cX2_fewestTaught 6 (some .int) 3) (hZ : kRi X g cX2_fewestTaught Q) {σ : kS} {x1 : Int32} (h : w_X2_fewestTaught N σ x1 Q) : kP X g 6 0 [(0, kz g 49), (1, .int x1)] [] σ := by
  unfold w_X2_fewestTaught at h
  refine r_iconst (v := 0) hc dX2_fewestTaught_0 rfl ?_
  refine r_istore_n hc [(2, .int 0), (0, kz g 49), (1, .int x1)] dX2_fewestTaught_1 (by decide) rfl ?_
  refine r_sub [1, 2, 0] rfl ?_
  refine sl_X2_fewestTaught_2 hc hZ (fun σ_15 h => ?_) _ _ _ h
  refine r_ldc hc lk_X2_31 dX2_fewestTaught_76 ?_
  refine r_istore_n hc [(2, .int (-1000000)), (0, kz g 49), (1, .int x1)] dX2_fewestTaught_78 (by decide) rfl ?_
  refine r_aload_n hc 1 dX2_fewestTaught_79 rfl ?_
  refine gf_X2_0 hc lf_X2_23 dX2_fewestTaught_80 ?_
  refine gf_X3_10 hc kH_33 lf_X2_43 dX2_fewestTaught_83 ?_
  refine r_iconst (v := 1) hc dX2_fewestTaught_86 rfl ?_
  refine r_iadd hc dX2_fewestTaught_87 ?_
  refine r_nmI (fun x3_16 ex3_16 => ?_)
  have h := h x3_16 ex3_16
  refine r_istore_n hc [(3, .int x3_16), (2, .int (-1000000)), (0, kz g 49), (1, .int x1)] dX2_fewestTaught_88 (by decide) rfl ?_
  refine r_iconst (v := 0) hc dX2_fewestTaught_89 rfl ?_
  refine r_istore hc [(4, .int 0), (3, .int x3_16), (2, .int (-1000000)), (0, kz g 49), (1, .int x1)] dX2_fewestTaught_90 (by decide) rfl ?_
  refine r_sub [3, 4, 2, 1, 0] rfl ?_
  refine sl_X2_fewestTaught_92 hc hZ _ _ _ _ _ h
theorem m_X2_fewestTaught {l : Launch} {g : kG} {N : Nat} {σ : kS} {x1 : Int32} {Q : Int32 → kS → Prop} (h : w_X2_fewestTaught N σ x1 Q) : kMi l g yX2_fewestTaught cX2_fewestTaught 6 (some .int) 3 [kz g 49, .int x1] σ Q :=
  k_met_i (by decide +kernel) rfl (Nat.le_of_ble_eq_true rfl) (fun X hl hc hZ => s_X2_fewestTaught hc hZ h)
def b_X2_findPieceNights_22 (N : Nat) (Q : kS → Prop) (x1 : Int32) (x2 : Int32) (E73 : kS → Prop) (K : Int32 → kS → Prop) (x3 : Int32) (σ : kS) : Prop :=
  if (σ 33 10) ≤ x3 then (E73 σ) else (w_X3_reaches N σ 33 x3 x2 (fun (r_4 : Int32) (σ_3 : kS) => if r_4 = 0 then (∀ x3_5 : Int32, x3_5 = x3 + 1 → (K x3_5 σ_3)) else (vp_in x2 4 ∧ (w_X3_biasOf N σ_3 33 x3 (fun (r_8 : Int32) (σ_7 : kS) => w_X2_nightsAt N σ_7 r_8 x1 (fun (r_10 : Int32) (σ_9 : kS) => vp_in x2 4 ∧ (∀ σ_12 : kS, σ_12 = st2 σ_9 52 (x2.toNatClampNeg) ((σ_3 52 x2.toNatClampNeg) ||| r_10) → (∀ x3_13 : Int32, x3_13 = x3 + 1 → (K x3_13 σ_12)))))))))
def l_X2_findPieceNights_22 (N : Nat) (Q : kS → Prop) (x1 : Int32) (x2 : Int32) (E73 : kS → Prop) : Nat → Int32 → kS → Prop
  | 0 => fun _ _ => False
  | n + 1 => b_X2_findPieceNights_22 N Q x1 x2 E73 (l_X2_findPieceNights_22 N Q x1 x2 E73 n)
set_option maxHeartbeats 4000000 in
set_option maxRecDepth 100000 in
theorem sb_X2_findPieceNights_22 {X : kX} {g : kG} {N : Nat} {Q : kS → Prop} (hc : kOk X g RX2 cX2_findPieceNights 4 none 4) (hZ : kRw X g cX2_findPieceNights Q) {x1 : Int32} {x2 : Int32} {E73 : kS → Prop} (hE73 : ∀ (τ : kS), E73 τ → kP X g 4 73 [(0, kz g 49), (1, .int x1), (2, .int x2)] [] τ) {K : Int32 → kS → Prop} (hK : ∀ (x3 : Int32) (τ : kS), K x3 τ → kP X g 4 22 [(0, kz g 49), (1, .int x1), (2, .int x2), (3, .int x3)] [] τ) {x3 : Int32} {σ : kS} (h : b_X2_findPieceNights_22 N Q x1 x2 E73 K x3 σ) : kP X g 4 22 [(0, kz g 49), (1, .int x1), (2, .int x2), (3, .int x3)] [] σ := by
  unfold b_X2_findPieceNights_22 at h
  refine r_iload_n hc 3 dX2_findPieceNights_22 rfl ?_
  refine r_aload_n hc 0 dX2_findPieceNights_23 rfl ?_
  refine gf_X2_0 hc lf_X2_23 dX2_findPieceNights_24 ?_
  refine gf_X3_10 hc kH_33 lf_X2_43 dX2_findPieceNights_27 ?_
  refine r_ic_ge hc 73 dX2_findPieceNights_30 (by decide) (fun q => ?_) (fun q => ?_)
  · have h := kif_t h q
    refine r_sub [0, 1, 2] rfl ?_
    exact hE73 _ h
  · have h := kif_f h q
    refine r_aload_n hc 0 dX2_findPieceNights_33 rfl ?_
    refine gf_X2_0 hc lf_X2_23 dX2_findPieceNights_34 ?_
    refine r_iload_n hc 3 dX2_findPieceNights_37 rfl ?_
    refine r_iload_n hc 2 dX2_findPieceNights_38 rfl ?_
    refine r_callVi (d := 3) hc (m_X3_reaches kH_33 h) cw_X3_reaches wi_X3_reaches ws_X3_reaches lm_X2_83 (by decide) (by decide) (rv_X3 kH_33) rfl rfl (Nat.le_of_ble_eq_true rfl) dX2_findPieceNights_39 (fun r_4 σ_3 h => ?_)
    refine r_if_eq hc 67 dX2_findPieceNights_42 (by decide) (fun q => ?_) (fun q => ?_)
    · have h := kif_t h q
      obtain ⟨x3_5, ex3_5⟩ : ∃ v : Int32, v = x3 + 1 := ⟨_, rfl⟩
      have h := h x3_5 ex3_5
      refine r_iinc (v := x3_5) hc 3 [(3, .int x3_5), (0, kz g 49), (1, .int x1), (2, .int x2)] dX2_findPieceNights_67 rfl (by rw [ex3_5]; rfl) (by decide) rfl ?_
      refine r_goto hc 22 dX2_findPieceNights_70 (by decide) ?_
      refine r_sub [1, 2, 3, 0] rfl ?_
      exact hK _ _ h
    · have h := kif_f h q
      refine r_aload_n hc 0 dX2_findPieceNights_45 rfl ?_
      refine gf_X2_3 hc lf_X2_20 dX2_findPieceNights_46 ?_
      refine r_iload_n hc 2 dX2_findPieceNights_49 rfl ?_
      refine r_dup2 hc dX2_findPieceNights_50 rfl rfl ?_
      obtain ⟨hi_6, h⟩ := h
      refine r_iald hc kia_52 hi_6 dX2_findPieceNights_51 ?_
      refine r_aload_n hc 0 dX2_findPieceNights_52 rfl ?_
      refine r_aload_n hc 0 dX2_findPieceNights_53 rfl ?_
      refine gf_X2_0 hc lf_X2_23 dX2_findPieceNights_54 ?_
      refine r_iload_n hc 3 dX2_findPieceNights_57 rfl ?_
      refine r_callVi (d := 2) hc (m_X3_biasOf kH_33 h) cw_X3_biasOf wi_X3_biasOf ws_X3_biasOf lm_X2_56 (by decide) (by decide) (rv_X3 kH_33) rfl rfl (Nat.le_of_ble_eq_true rfl) dX2_findPieceNights_58 (fun r_8 σ_7 h => ?_)
      refine r_iload_n hc 1 dX2_findPieceNights_61 rfl ?_
      refine r_callVi (d := 2) hc (m_X2_nightsAt h) cw_X2_nightsAt wi_X2_nightsAt ws_X2_nightsAt lm_X2_59 (by decide) (by decide) rv_X2 rfl rfl (Nat.le_of_ble_eq_true rfl) dX2_findPieceNights_62 (fun r_10 σ_9 h => ?_)
      refine r_ior hc dX2_findPieceNights_65 ?_
      obtain ⟨hi_11, h⟩ := h
      refine r_iast hc kia_52 hi_11 dX2_findPieceNights_66 ?_
      refine r_nmS (fun σ_12 eσ_12 => ?_)
      have h := h σ_12 eσ_12
      obtain ⟨x3_13, ex3_13⟩ : ∃ v : Int32, v = x3 + 1 := ⟨_, rfl⟩
      have h := h x3_13 ex3_13
      refine r_iinc (v := x3_13) hc 3 [(3, .int x3_13), (0, kz g 49), (1, .int x1), (2, .int x2)] dX2_findPieceNights_67 rfl (by rw [ex3_13]; rfl) (by decide) rfl ?_
      refine r_goto hc 22 dX2_findPieceNights_70 (by decide) ?_
      refine r_sub [1, 2, 3, 0] rfl ?_
      exact hK _ _ h
theorem sl_X2_findPieceNights_22 {X : kX} {g : kG} {N : Nat} {Q : kS → Prop} (hc : kOk X g RX2 cX2_findPieceNights 4 none 4) (hZ : kRw X g cX2_findPieceNights Q) {x1 : Int32} {x2 : Int32} {E73 : kS → Prop} (hE73 : ∀ (τ : kS), E73 τ → kP X g 4 73 [(0, kz g 49), (1, .int x1), (2, .int x2)] [] τ) : ∀ (n : Nat) (x3 : Int32) (σ : kS), l_X2_findPieceNights_22 N Q x1 x2 E73 n x3 σ → kP X g 4 22 [(0, kz g 49), (1, .int x1), (2, .int x2), (3, .int x3)] [] σ := by
  intro n
  induction n with
  | zero => intro x3 σ h; exact h.elim
  | succ n ih => intro x3 σ h; exact sb_X2_findPieceNights_22 hc hZ hE73 ih h
def b_X2_findPieceNights_2 (N : Nat) (Q : kS → Prop) (x1 : Int32) (K : Int32 → kS → Prop) (x2 : Int32) (σ : kS) : Prop :=
  if (σ 33 9) ≤ x2 then (Q σ) else (vp_in x2 4 ∧ (∀ σ_2 : kS, σ_2 = st2 σ 52 (x2.toNatClampNeg) 0 → (l_X2_findPieceNights_22 N Q x1 x2 (fun (σ_14 : kS) => ∀ x2_15 : Int32, x2_15 = x2 + 1 → (K x2_15 σ_14)) N 0 σ_2)))
def l_X2_findPieceNights_2 (N : Nat) (Q : kS → Prop) (x1 : Int32) : Nat → Int32 → kS → Prop
  | 0 => fun _ _ => False
  | n + 1 => b_X2_findPieceNights_2 N Q x1 (l_X2_findPieceNights_2 N Q x1 n)
set_option maxHeartbeats 4000000 in
set_option maxRecDepth 100000 in
theorem sb_X2_findPieceNights_2 {X : kX} {g : kG} {N : Nat} {Q : kS → Prop} (hc : kOk X g RX2 cX2_findPieceNights 4 none 4) (hZ : kRw X g cX2_findPieceNights Q) {x1 : Int32} {K : Int32 → kS → Prop} (hK : ∀ (x2 : Int32) (τ : kS), K x2 τ → kP X g 4 2 [(0, kz g 49), (1, .int x1), (2, .int x2)] [] τ) {x2 : Int32} {σ : kS} (h : b_X2_findPieceNights_2 N Q x1 K x2 σ) : kP X g 4 2 [(0, kz g 49), (1, .int x1), (2, .int x2)] [] σ := by
  unfold b_X2_findPieceNights_2 at h
  refine r_iload_n hc 2 dX2_findPieceNights_2 rfl ?_
  refine r_aload_n hc 0 dX2_findPieceNights_3 rfl ?_
  refine gf_X2_0 hc lf_X2_23 dX2_findPieceNights_4 ?_
  refine gf_X3_9 hc kH_33 lf_X2_77 dX2_findPieceNights_7 ?_
  refine r_ic_ge hc 79 dX2_findPieceNights_10 (by decide) (fun q => ?_) (fun q => ?_)
  · have h := kif_t h q
    exact r_vret (ls0 := []) hZ dX2_findPieceNights_79 h
  · have h := kif_f h q
    refine r_aload_n hc 0 dX2_findPieceNights_13 rfl ?_
    refine gf_X2_3 hc lf_X2_20 dX2_findPieceNights_14 ?_
    refine r_iload_n hc 2 dX2_findPieceNights_17 rfl ?_
    refine r_iconst (v := 0) hc dX2_findPieceNights_18 rfl ?_
    obtain ⟨hi_1, h⟩ := h
    refine r_iast hc kia_52 hi_1 dX2_findPieceNights_19 ?_
    refine r_nmS (fun σ_2 eσ_2 => ?_)
    have h := h σ_2 eσ_2
    refine r_iconst (v := 0) hc dX2_findPieceNights_20 rfl ?_
    refine r_istore_n hc [(3, .int 0), (0, kz g 49), (1, .int x1), (2, .int x2)] dX2_findPieceNights_21 (by decide) rfl ?_
    refine r_sub [1, 2, 3, 0] rfl ?_
    refine sl_X2_findPieceNights_22 hc hZ (fun σ_14 h => ?_) _ _ _ h
    obtain ⟨x2_15, ex2_15⟩ : ∃ v : Int32, v = x2 + 1 := ⟨_, rfl⟩
    have h := h x2_15 ex2_15
    refine r_iinc (v := x2_15) hc 2 [(2, .int x2_15), (0, kz g 49), (1, .int x1)] dX2_findPieceNights_73 rfl (by rw [ex2_15]; rfl) (by decide) rfl ?_
    refine r_goto hc 2 dX2_findPieceNights_76 (by decide) ?_
    refine r_sub [1, 2, 0] rfl ?_
    exact hK _ _ h
theorem sl_X2_findPieceNights_2 {X : kX} {g : kG} {N : Nat} {Q : kS → Prop} (hc : kOk X g RX2 cX2_findPieceNights 4 none 4) (hZ : kRw X g cX2_findPieceNights Q) {x1 : Int32} : ∀ (n : Nat) (x2 : Int32) (σ : kS), l_X2_findPieceNights_2 N Q x1 n x2 σ → kP X g 4 2 [(0, kz g 49), (1, .int x1), (2, .int x2)] [] σ := by
  intro n
  induction n with
  | zero => intro x2 σ h; exact h.elim
  | succ n ih => intro x2 σ h; exact sb_X2_findPieceNights_2 hc hZ ih h
def w_X2_findPieceNights (N : Nat) (σ : kS) (x1 : Int32) (Q : kS → Prop) : Prop :=
  l_X2_findPieceNights_2 N Q x1  N 0 σ
set_option maxHeartbeats 4000000 in
set_option maxRecDepth 100000 in
theorem s_X2_findPieceNights {X : kX} {g : kG} {N : Nat} {Q : kS → Prop} (hc : kOk X g RX2 cX2_findPieceNights 4 none 4) (hZ : kRw X g cX2_findPieceNights Q) {σ : kS} {x1 : Int32} (h : w_X2_findPieceNights N σ x1 Q) : kP X g 4 0 [(0, kz g 49), (1, .int x1)] [] σ := by
  unfold w_X2_findPieceNights at h
  refine r_iconst (v := 0) hc dX2_findPieceNights_0 rfl ?_
  refine r_istore_n hc [(2, .int 0), (0, kz g 49), (1, .int x1)] dX2_findPieceNights_1 (by decide) rfl ?_
  refine r_sub [1, 2, 0] rfl ?_
  refine sl_X2_findPieceNights_2 hc hZ _ _ _ h
theorem m_X2_findPieceNights {l : Launch} {g : kG} {N : Nat} {σ : kS} {x1 : Int32} {Q : kS → Prop} (h : w_X2_findPieceNights N σ x1 Q) : kMv l g yX2_findPieceNights cX2_findPieceNights 4 none 4 [kz g 49, .int x1] σ Q :=
  k_met_v (by decide +kernel) rfl (Nat.le_of_ble_eq_true rfl) (fun X hl hc hZ => s_X2_findPieceNights hc hZ h)
def b_X2_waysFrom_28 (N : Nat) (Q : Int32 → kS → Prop) (W : kS → Int32 → Int32 → (Int32 → kS → Prop) → Prop) (x1 : Int32) (x2 : Int32) (x3 : Int32) (K : Int32 → Int32 → kS → Prop) (x4 : Int32) (x5 : Int32) (σ : kS) : Prop :=
  if 6 ≤ x5 then (Q x4 σ) else (∀ x6_3 : Int32, x6_3 = 1 <<< (x5 &&& 31) → (if (x3 &&& x6_3) = 0 then (∀ x5_4 : Int32, x5_4 = x5 + 1 → (K x4 x5_4 σ)) else (W σ (x1 + 1) (x2 &&& (x6_3 ^^^ (-1))) (fun (r_6 : Int32) (σ_5 : kS) => ∀ x4_7 : Int32, x4_7 = x4 + r_6 → (∀ x5_8 : Int32, x5_8 = x5 + 1 → (K x4_7 x5_8 σ_5))))))
def l_X2_waysFrom_28 (N : Nat) (Q : Int32 → kS → Prop) (W : kS → Int32 → Int32 → (Int32 → kS → Prop) → Prop) (x1 : Int32) (x2 : Int32) (x3 : Int32) : Nat → Int32 → Int32 → kS → Prop
  | 0 => fun _ _ _ => False
  | n + 1 => b_X2_waysFrom_28 N Q W x1 x2 x3 (l_X2_waysFrom_28 N Q W x1 x2 x3 n)
set_option maxHeartbeats 4000000 in
set_option maxRecDepth 100000 in
theorem sb_X2_waysFrom_28 {X : kX} {g : kG} {N dep : Nat} {Q : Int32 → kS → Prop} {W : kS → Int32 → Int32 → (Int32 → kS → Prop) → Prop} (hrec : ∀ {σ : kS} {x1 x2 : Int32} {Q : Int32 → kS → Prop}, W σ x1 x2 Q → kMi (kXl X) g yX2_waysFrom cX2_waysFrom 7 (some .int) dep [kz g 49, .int x1, .int x2] σ Q) (hc : kOk X g RX2 cX2_waysFrom 7 (some .int) (dep + 1)) (hZ : kRi X g cX2_waysFrom Q) {x1 : Int32} {x2 : Int32} {x3 : Int32} {K : Int32 → Int32 → kS → Prop} (hK : ∀ (x4 : Int32) (x5 : Int32) (τ : kS), K x4 x5 τ → kP X g 7 28 [(0, kz g 49), (1, .int x1), (2, .int x2), (3, .int x3), (4, .int x4), (5, .int x5)] [] τ) {x4 : Int32} {x5 : Int32} {σ : kS} (h : b_X2_waysFrom_28 N Q W x1 x2 x3 K x4 x5 σ) : kP X g 7 28 [(0, kz g 49), (1, .int x1), (2, .int x2), (3, .int x3), (4, .int x4), (5, .int x5)] [] σ := by
  unfold b_X2_waysFrom_28 at h
  refine r_iload hc 5 dX2_waysFrom_28 rfl ?_
  refine r_bipush (v := 6) hc dX2_waysFrom_30 rfl ?_
  refine r_ic_ge hc 72 dX2_waysFrom_32 (by decide) (fun q => ?_) (fun q => ?_)
  · have h := kif_t h q
    refine r_iload hc 4 dX2_waysFrom_72 rfl ?_
    exact r_iret (ls0 := []) hZ dX2_waysFrom_74 h
  · have h := kif_f h q
    refine r_iconst (v := 1) hc dX2_waysFrom_35 rfl ?_
    refine r_iload hc 5 dX2_waysFrom_36 rfl ?_
    refine r_ishl hc dX2_waysFrom_38 ?_
    refine r_nmI (fun x6_3 ex6_3 => ?_)
    have h := h x6_3 ex6_3
    refine r_istore hc [(6, .int x6_3), (0, kz g 49), (1, .int x1), (2, .int x2), (3, .int x3), (4, .int x4), (5, .int x5)] dX2_waysFrom_39 (by decide) rfl ?_
    refine r_iload_n hc 4 dX2_waysFrom_41 rfl ?_
    refine r_iload hc 0 dX2_waysFrom_42 rfl ?_
    refine r_iand hc dX2_waysFrom_44 ?_
    refine r_if_eq hc 66 dX2_waysFrom_45 (by decide) (fun q => ?_) (fun q => ?_)
    · have h := kif_t h q
      obtain ⟨x5_4, ex5_4⟩ : ∃ v : Int32, v = x5 + 1 := ⟨_, rfl⟩
      have h := h x5_4 ex5_4
      refine r_iinc (v := x5_4) hc 6 [(5, .int x5_4), (6, .int x6_3), (0, kz g 49), (1, .int x1), (2, .int x2), (3, .int x3), (4, .int x4)] dX2_waysFrom_66 rfl (by rw [ex5_4]; rfl) (by decide) rfl ?_
      refine r_goto hc 28 dX2_waysFrom_69 (by decide) ?_
      refine r_sub [2, 3, 4, 5, 6, 0] rfl ?_
      exact hK _ _ _ h
    · have h := kif_f h q
      refine r_iload hc 5 dX2_waysFrom_48 rfl ?_
      refine r_aload_n hc 1 dX2_waysFrom_50 rfl ?_
      refine r_iload_n hc 2 dX2_waysFrom_51 rfl ?_
      refine r_iconst (v := 1) hc dX2_waysFrom_52 rfl ?_
      refine r_iadd hc dX2_waysFrom_53 ?_
      refine r_iload_n hc 3 dX2_waysFrom_54 rfl ?_
      refine r_iload hc 0 dX2_waysFrom_55 rfl ?_
      refine r_iconst (v := (-1)) hc dX2_waysFrom_57 rfl ?_
      refine r_ixor hc dX2_waysFrom_58 ?_
      refine r_iand hc dX2_waysFrom_59 ?_
      refine r_callVi (d := dep) hc (hrec h) cw_X2_waysFrom wi_X2_waysFrom ws_X2_waysFrom lm_X2_74 (Nat.le_refl _) (by decide) rv_X2 rfl rfl (Nat.le_of_ble_eq_true rfl) dX2_waysFrom_60 (fun r_6 σ_5 h => ?_)
      refine r_iadd hc dX2_waysFrom_63 ?_
      refine r_nmI (fun x4_7 ex4_7 => ?_)
      have h := h x4_7 ex4_7
      refine r_istore hc [(4, .int x4_7), (6, .int x6_3), (0, kz g 49), (1, .int x1), (2, .int x2), (3, .int x3), (5, .int x5)] dX2_waysFrom_64 (by decide) rfl ?_
      obtain ⟨x5_8, ex5_8⟩ : ∃ v : Int32, v = x5 + 1 := ⟨_, rfl⟩
      have h := h x5_8 ex5_8
      refine r_iinc (v := x5_8) hc 6 [(5, .int x5_8), (4, .int x4_7), (6, .int x6_3), (0, kz g 49), (1, .int x1), (2, .int x2), (3, .int x3)] dX2_waysFrom_66 rfl (by rw [ex5_8]; rfl) (by decide) rfl ?_
      refine r_goto hc 28 dX2_waysFrom_69 (by decide) ?_
      refine r_sub [3, 4, 5, 6, 1, 0] rfl ?_
      exact hK _ _ _ h
theorem sl_X2_waysFrom_28 {X : kX} {g : kG} {N dep : Nat} {Q : Int32 → kS → Prop} {W : kS → Int32 → Int32 → (Int32 → kS → Prop) → Prop} (hrec : ∀ {σ : kS} {x1 x2 : Int32} {Q : Int32 → kS → Prop}, W σ x1 x2 Q → kMi (kXl X) g yX2_waysFrom cX2_waysFrom 7 (some .int) dep [kz g 49, .int x1, .int x2] σ Q) (hc : kOk X g RX2 cX2_waysFrom 7 (some .int) (dep + 1)) (hZ : kRi X g cX2_waysFrom Q) {x1 : Int32} {x2 : Int32} {x3 : Int32} : ∀ (n : Nat) (x4 : Int32) (x5 : Int32) (σ : kS), l_X2_waysFrom_28 N Q W x1 x2 x3 n x4 x5 σ → kP X g 7 28 [(0, kz g 49), (1, .int x1), (2, .int x2), (3, .int x3), (4, .int x4), (5, .int x5)] [] σ := by
  intro n
  induction n with
  | zero => intro x4 x5 σ h; exact h.elim
  | succ n ih => intro x4 x5 σ h; exact sb_X2_waysFrom_28 hrec hc hZ ih h
def b_X2_waysFrom (N : Nat) (W : kS → Int32 → Int32 → (Int32 → kS → Prop) → Prop) (σ : kS) (x1 : Int32) (x2 : Int32) (Q : Int32 → kS → Prop) : Prop :=
  if x1 < (σ 33 9) then (vp_in x1 4 ∧ (∀ x3_2 : Int32, x3_2 = (σ 52 x1.toNatClampNeg) &&& x2 → (l_X2_waysFrom_28 N Q W x1 x2 x3_2  N 0 0 σ))) else (Q 1 σ)
def w_X2_waysFrom (N : Nat) : Nat → kS → Int32 → Int32 → (Int32 → kS → Prop) → Prop
  | 0 => fun _ _ _ _ => False
  | dep + 1 => b_X2_waysFrom N (w_X2_waysFrom N dep)
set_option maxHeartbeats 4000000 in
set_option maxRecDepth 100000 in
theorem s_X2_waysFrom {X : kX} {g : kG} {N dep : Nat} {Q : Int32 → kS → Prop} {W : kS → Int32 → Int32 → (Int32 → kS → Prop) → Prop} (hrec : ∀ {σ : kS} {x1 x2 : Int32} {Q : Int32 → kS → Prop}, W σ x1 x2 Q → kMi (kXl X) g yX2_waysFrom cX2_waysFrom 7 (some .int) dep [kz g 49, .int x1, .int x2] σ Q) (hc : kOk X g RX2 cX2_waysFrom 7 (some .int) (dep + 1)) (hZ : kRi X g cX2_waysFrom Q) {σ : kS} {x1 : Int32} {x2 : Int32} (h : b_X2_waysFrom N W σ x1 x2 Q) : kP X g 7 0 [(0, kz g 49), (1, .int x1), (2, .int x2)] [] σ := by
  unfold b_X2_waysFrom at h
  refine r_iload_n hc 1 dX2_waysFrom_0 rfl ?_
  refine r_aload_n hc 0 dX2_waysFrom_1 rfl ?_
  refine gf_X2_0 hc lf_X2_23 dX2_waysFrom_2 ?_
  refine gf_X3_9 hc kH_33 lf_X2_77 dX2_waysFrom_5 ?_
  refine r_ic_lt hc 13 dX2_waysFrom_8 (by decide) (fun q => ?_) (fun q => ?_)
  · have h := kif_t h q
    refine r_aload_n hc 0 dX2_waysFrom_13 rfl ?_
    refine gf_X2_3 hc lf_X2_20 dX2_waysFrom_14 ?_
    refine r_iload_n hc 1 dX2_waysFrom_17 rfl ?_
    obtain ⟨hi_1, h⟩ := h
    refine r_iald hc kia_52 hi_1 dX2_waysFrom_18 ?_
    refine r_iload_n hc 2 dX2_waysFrom_19 rfl ?_
    refine r_iand hc dX2_waysFrom_20 ?_
    refine r_nmI (fun x3_2 ex3_2 => ?_)
    have h := h x3_2 ex3_2
    refine r_istore_n hc [(3, .int x3_2), (0, kz g 49), (1, .int x1), (2, .int x2)] dX2_waysFrom_21 (by decide) rfl ?_
    refine r_iconst (v := 0) hc dX2_waysFrom_22 rfl ?_
    refine r_istore hc [(4, .int 0), (3, .int x3_2), (0, kz g 49), (1, .int x1), (2, .int x2)] dX2_waysFrom_23 (by decide) rfl ?_
    refine r_iconst (v := 0) hc dX2_waysFrom_25 rfl ?_
    refine r_istore hc [(5, .int 0), (4, .int 0), (3, .int x3_2), (0, kz g 49), (1, .int x1), (2, .int x2)] dX2_waysFrom_26 (by decide) rfl ?_
    refine r_sub [3, 4, 5, 2, 1, 0] rfl ?_
    refine sl_X2_waysFrom_28 hrec hc hZ _ _ _ _ h
  · have h := kif_f h q
    refine r_iconst (v := 1) hc dX2_waysFrom_11 rfl ?_
    exact r_iret (ls0 := []) hZ dX2_waysFrom_12 h
theorem m_X2_waysFrom {l : Launch} {g : kG} {N : Nat} : ∀ (dep : Nat) {σ : kS} {x1 : Int32} {x2 : Int32} {Q : Int32 → kS → Prop}, w_X2_waysFrom N dep σ x1 x2 Q → kMi l g yX2_waysFrom cX2_waysFrom 7 (some .int) dep [kz g 49, .int x1, .int x2] σ Q := by
  intro dep
  induction dep with
  | zero => intro σ x1 x2 Q h; exact h.elim
  | succ dep ih => intro σ x1 x2 Q h; exact k_met_i (by decide +kernel) rfl (Nat.le_of_ble_eq_true rfl) (fun X hl hc hZ => s_X2_waysFrom (N := N) (W := w_X2_waysFrom N dep) (by subst hl; exact ih) hc hZ h)
def w_X2_programmes (N : Nat) (σ : kS) (x1 : Int32) (Q : Int32 → kS → Prop) : Prop :=
  w_X2_findPieceNights N σ x1 (fun (σ_1 : kS) => w_X2_waysFrom N 6 σ_1 0 ((1 <<< (x1 &&& 31)) - 1) (fun (r_4 : Int32) (σ_3 : kS) => Q r_4 σ_3))
set_option maxHeartbeats 4000000 in
set_option maxRecDepth 100000 in
theorem s_X2_programmes {X : kX} {g : kG} {N : Nat} {Q : Int32 → kS → Prop} (hc : kOk X g RX2 cX2_programmes 2 (some .int) 7) (hZ : kRi X g cX2_programmes Q) {σ : kS} {x1 : Int32} (h : w_X2_programmes N σ x1 Q) : kP X g 2 0 [(0, kz g 49), (1, .int x1)] [] σ := by
  unfold w_X2_programmes at h
  refine r_aload_n hc 0 dX2_programmes_0 rfl ?_
  refine r_iload_n hc 1 dX2_programmes_1 rfl ?_
  refine r_callVv (d := 4) hc (m_X2_findPieceNights h) cw_X2_findPieceNights wi_X2_findPieceNights ws_X2_findPieceNights lm_X2_70 (by decide) (by decide) rv_X2 rfl rfl (Nat.le_of_ble_eq_true rfl) dX2_programmes_2 (fun σ_1 h => ?_)
  refine r_aload_n hc 0 dX2_programmes_5 rfl ?_
  refine r_iconst (v := 0) hc dX2_programmes_6 rfl ?_
  refine r_iconst (v := 1) hc dX2_programmes_7 rfl ?_
  refine r_iload_n hc 1 dX2_programmes_8 rfl ?_
  refine r_ishl hc dX2_programmes_9 ?_
  refine r_iconst (v := 1) hc dX2_programmes_10 rfl ?_
  refine r_isub hc dX2_programmes_11 ?_
  refine r_callVi (d := 6) hc (m_X2_waysFrom _ h) cw_X2_waysFrom wi_X2_waysFrom ws_X2_waysFrom lm_X2_74 (by decide) (by decide) rv_X2 rfl rfl (Nat.le_of_ble_eq_true rfl) dX2_programmes_12 (fun r_4 σ_3 h => ?_)
  exact r_iret (ls0 := []) hZ dX2_programmes_15 h
theorem m_X2_programmes {l : Launch} {g : kG} {N : Nat} {σ : kS} {x1 : Int32} {Q : Int32 → kS → Prop} (h : w_X2_programmes N σ x1 Q) : kMi l g yX2_programmes cX2_programmes 2 (some .int) 7 [kz g 49, .int x1] σ Q :=
  k_met_i (by decide +kernel) rfl (Nat.le_of_ble_eq_true rfl) (fun X hl hc hZ => s_X2_programmes hc hZ h)
def b_X2_firstNightFor_12 (N : Nat) (Q : Int32 → kS → Prop) (x1 : Int32) (x2 : Int32) (x3 : Int32) (K : Int32 → kS → Prop) (x4 : Int32) (σ : kS) : Prop :=
  if 6 ≤ x4 then (Q (-1000000) σ) else (∀ x5_3 : Int32, x5_3 = 1 <<< (x4 &&& 31) → (if (x3 &&& x5_3) = 0 then (∀ x4_4 : Int32, x4_4 = x4 + 1 → (K x4_4 σ)) else (w_X2_waysFrom N 6 σ (x1 + 1) (x2 &&& (x5_3 ^^^ (-1))) (fun (r_6 : Int32) (σ_5 : kS) => if r_6 ≤ 0 then (∀ x4_7 : Int32, x4_7 = x4 + 1 → (K x4_7 σ_5)) else (Q x4 σ_5)))))
def l_X2_firstNightFor_12 (N : Nat) (Q : Int32 → kS → Prop) (x1 : Int32) (x2 : Int32) (x3 : Int32) : Nat → Int32 → kS → Prop
  | 0 => fun _ _ => False
  | n + 1 => b_X2_firstNightFor_12 N Q x1 x2 x3 (l_X2_firstNightFor_12 N Q x1 x2 x3 n)
set_option maxHeartbeats 4000000 in
set_option maxRecDepth 100000 in
theorem sb_X2_firstNightFor_12 {X : kX} {g : kG} {N : Nat} {Q : Int32 → kS → Prop} (hc : kOk X g RX2 cX2_firstNightFor 6 (some .int) 7) (hZ : kRi X g cX2_firstNightFor Q) {x1 : Int32} {x2 : Int32} {x3 : Int32} {K : Int32 → kS → Prop} (hK : ∀ (x4 : Int32) (τ : kS), K x4 τ → kP X g 6 12 [(0, kz g 49), (1, .int x1), (2, .int x2), (3, .int x3), (4, .int x4)] [] τ) {x4 : Int32} {σ : kS} (h : b_X2_firstNightFor_12 N Q x1 x2 x3 K x4 σ) : kP X g 6 12 [(0, kz g 49), (1, .int x1), (2, .int x2), (3, .int x3), (4, .int x4)] [] σ := by
  unfold b_X2_firstNightFor_12 at h
  refine r_iload hc 4 dX2_firstNightFor_12 rfl ?_
  refine r_bipush (v := 6) hc dX2_firstNightFor_14 rfl ?_
  refine r_ic_ge hc 57 dX2_firstNightFor_16 (by decide) (fun q => ?_) (fun q => ?_)
  · have h := kif_t h q
    refine r_ldc hc lk_X2_31 dX2_firstNightFor_57 ?_
    exact r_iret (ls0 := []) hZ dX2_firstNightFor_59 h
  · have h := kif_f h q
    refine r_iconst (v := 1) hc dX2_firstNightFor_19 rfl ?_
    refine r_iload hc 4 dX2_firstNightFor_20 rfl ?_
    refine r_ishl hc dX2_firstNightFor_22 ?_
    refine r_nmI (fun x5_3 ex5_3 => ?_)
    have h := h x5_3 ex5_3
    refine r_istore hc [(5, .int x5_3), (0, kz g 49), (1, .int x1), (2, .int x2), (3, .int x3), (4, .int x4)] dX2_firstNightFor_23 (by decide) rfl ?_
    refine r_iload_n hc 4 dX2_firstNightFor_25 rfl ?_
    refine r_iload hc 0 dX2_firstNightFor_26 rfl ?_
    refine r_iand hc dX2_firstNightFor_28 ?_
    refine r_if_eq hc 51 dX2_firstNightFor_29 (by decide) (fun q => ?_) (fun q => ?_)
    · have h := kif_t h q
      obtain ⟨x4_4, ex4_4⟩ : ∃ v : Int32, v = x4 + 1 := ⟨_, rfl⟩
      have h := h x4_4 ex4_4
      refine r_iinc (v := x4_4) hc 5 [(4, .int x4_4), (5, .int x5_3), (0, kz g 49), (1, .int x1), (2, .int x2), (3, .int x3)] dX2_firstNightFor_51 rfl (by rw [ex4_4]; rfl) (by decide) rfl ?_
      refine r_goto hc 12 dX2_firstNightFor_54 (by decide) ?_
      refine r_sub [2, 3, 4, 5, 0] rfl ?_
      exact hK _ _ h
    · have h := kif_f h q
      refine r_aload_n hc 1 dX2_firstNightFor_32 rfl ?_
      refine r_iload_n hc 2 dX2_firstNightFor_33 rfl ?_
      refine r_iconst (v := 1) hc dX2_firstNightFor_34 rfl ?_
      refine r_iadd hc dX2_firstNightFor_35 ?_
      refine r_iload_n hc 3 dX2_firstNightFor_36 rfl ?_
      refine r_iload hc 0 dX2_firstNightFor_37 rfl ?_
      refine r_iconst (v := (-1)) hc dX2_firstNightFor_39 rfl ?_
      refine r_ixor hc dX2_firstNightFor_40 ?_
      refine r_iand hc dX2_firstNightFor_41 ?_
      refine r_callVi (d := 6) hc (m_X2_waysFrom _ h) cw_X2_waysFrom wi_X2_waysFrom ws_X2_waysFrom lm_X2_74 (by decide) (by decide) rv_X2 rfl rfl (Nat.le_of_ble_eq_true rfl) dX2_firstNightFor_42 (fun r_6 σ_5 h => ?_)
      refine r_if_le hc 51 dX2_firstNightFor_45 (by decide) (fun q => ?_) (fun q => ?_)
      · have h := kif_t h q
        obtain ⟨x4_7, ex4_7⟩ : ∃ v : Int32, v = x4 + 1 := ⟨_, rfl⟩
        have h := h x4_7 ex4_7
        refine r_iinc (v := x4_7) hc 5 [(4, .int x4_7), (5, .int x5_3), (0, kz g 49), (1, .int x1), (2, .int x2), (3, .int x3)] dX2_firstNightFor_51 rfl (by rw [ex4_7]; rfl) (by decide) rfl ?_
        refine r_goto hc 12 dX2_firstNightFor_54 (by decide) ?_
        refine r_sub [2, 3, 4, 5, 0] rfl ?_
        exact hK _ _ h
      · have h := kif_f h q
        refine r_iload hc 5 dX2_firstNightFor_48 rfl ?_
        exact r_iret (ls0 := []) hZ dX2_firstNightFor_50 h
theorem sl_X2_firstNightFor_12 {X : kX} {g : kG} {N : Nat} {Q : Int32 → kS → Prop} (hc : kOk X g RX2 cX2_firstNightFor 6 (some .int) 7) (hZ : kRi X g cX2_firstNightFor Q) {x1 : Int32} {x2 : Int32} {x3 : Int32} : ∀ (n : Nat) (x4 : Int32) (σ : kS), l_X2_firstNightFor_12 N Q x1 x2 x3 n x4 σ → kP X g 6 12 [(0, kz g 49), (1, .int x1), (2, .int x2), (3, .int x3), (4, .int x4)] [] σ := by
  intro n
  induction n with
  | zero => intro x4 σ h; exact h.elim
  | succ n ih => intro x4 σ h; exact sb_X2_firstNightFor_12 hc hZ ih h
def w_X2_firstNightFor (N : Nat) (σ : kS) (x1 : Int32) (x2 : Int32) (Q : Int32 → kS → Prop) : Prop :=
  vp_in x1 4 ∧ (∀ x3_2 : Int32, x3_2 = (σ 52 x1.toNatClampNeg) &&& x2 → (l_X2_firstNightFor_12 N Q x1 x2 x3_2  N 0 σ))
set_option maxHeartbeats 4000000 in
set_option maxRecDepth 100000 in
theorem s_X2_firstNightFor {X : kX} {g : kG} {N : Nat} {Q : Int32 → kS → Prop} (hc : kOk X g RX2 cX2_firstNightFor 6 (some .int) 7) (hZ : kRi X g cX2_firstNightFor Q) {σ : kS} {x1 : Int32} {x2 : Int32} (h : w_X2_firstNightFor N σ x1 x2 Q) : kP X g 6 0 [(0, kz g 49), (1, .int x1), (2, .int x2)] [] σ := by
  unfold w_X2_firstNightFor at h
  refine r_aload_n hc 0 dX2_firstNightFor_0 rfl ?_
  refine gf_X2_3 hc lf_X2_20 dX2_firstNightFor_1 ?_
  refine r_iload_n hc 1 dX2_firstNightFor_4 rfl ?_
  obtain ⟨hi_1, h⟩ := h
  refine r_iald hc kia_52 hi_1 dX2_firstNightFor_5 ?_
  refine r_iload_n hc 2 dX2_firstNightFor_6 rfl ?_
  refine r_iand hc dX2_firstNightFor_7 ?_
  refine r_nmI (fun x3_2 ex3_2 => ?_)
  have h := h x3_2 ex3_2
  refine r_istore_n hc [(3, .int x3_2), (0, kz g 49), (1, .int x1), (2, .int x2)] dX2_firstNightFor_8 (by decide) rfl ?_
  refine r_iconst (v := 0) hc dX2_firstNightFor_9 rfl ?_
  refine r_istore hc [(4, .int 0), (3, .int x3_2), (0, kz g 49), (1, .int x1), (2, .int x2)] dX2_firstNightFor_10 (by decide) rfl ?_
  refine r_sub [2, 3, 4, 1, 0] rfl ?_
  refine sl_X2_firstNightFor_12 hc hZ _ _ _ h
theorem m_X2_firstNightFor {l : Launch} {g : kG} {N : Nat} {σ : kS} {x1 : Int32} {x2 : Int32} {Q : Int32 → kS → Prop} (h : w_X2_firstNightFor N σ x1 x2 Q) : kMi l g yX2_firstNightFor cX2_firstNightFor 6 (some .int) 7 [kz g 49, .int x1, .int x2] σ Q :=
  k_met_i (by decide +kernel) rfl (Nat.le_of_ble_eq_true rfl) (fun X hl hc hZ => s_X2_firstNightFor hc hZ h)
def b_X2_nightOfPiece_32 (N : Nat) (Q : Int32 → kS → Prop) (x2 : Int32) (K : Int32 → Int32 → Int32 → kS → Prop) (x3 : Int32) (x4 : Int32) (x5 : Int32) (σ : kS) : Prop :=
  if x2 < x5 then (Q x4 σ) else (w_X2_firstNightFor N σ x5 x3 (fun (r_5 : Int32) (σ_4 : kS) => if r_5 = (-1000000) then (Q (-1000000) σ_4) else (∀ x3_6 : Int32, x3_6 = x3 &&& ((1 <<< (r_5 &&& 31)) ^^^ (-1)) → (∀ x5_7 : Int32, x5_7 = x5 + 1 → (K x3_6 r_5 x5_7 σ_4)))))
def l_X2_nightOfPiece_32 (N : Nat) (Q : Int32 → kS → Prop) (x2 : Int32) : Nat → Int32 → Int32 → Int32 → kS → Prop
  | 0 => fun _ _ _ _ => False
  | n + 1 => b_X2_nightOfPiece_32 N Q x2 (l_X2_nightOfPiece_32 N Q x2 n)
set_option maxHeartbeats 4000000 in
set_option maxRecDepth 100000 in
theorem sb_X2_nightOfPiece_32 {X : kX} {g : kG} {N : Nat} {Q : Int32 → kS → Prop} (hc : kOk X g RX2 cX2_nightOfPiece 6 (some .int) 8) (hZ : kRi X g cX2_nightOfPiece Q) {x2 : Int32} {K : Int32 → Int32 → Int32 → kS → Prop} (hK : ∀ (x3 : Int32) (x4 : Int32) (x5 : Int32) (τ : kS), K x3 x4 x5 τ → kP X g 6 32 [(0, kz g 49), (2, .int x2), (3, .int x3), (4, .int x4), (5, .int x5)] [] τ) {x3 : Int32} {x4 : Int32} {x5 : Int32} {σ : kS} (h : b_X2_nightOfPiece_32 N Q x2 K x3 x4 x5 σ) : kP X g 6 32 [(0, kz g 49), (2, .int x2), (3, .int x3), (4, .int x4), (5, .int x5)] [] σ := by
  unfold b_X2_nightOfPiece_32 at h
  refine r_iload hc 4 dX2_nightOfPiece_32 rfl ?_
  refine r_iload_n hc 1 dX2_nightOfPiece_34 rfl ?_
  refine r_ic_gt hc 72 dX2_nightOfPiece_35 (by decide) (fun q => ?_) (fun q => ?_)
  · have h := kif_t h q
    refine r_iload hc 3 dX2_nightOfPiece_72 rfl ?_
    exact r_iret (ls0 := []) hZ dX2_nightOfPiece_74 h
  · have h := kif_f h q
    refine r_aload_n hc 0 dX2_nightOfPiece_38 rfl ?_
    refine r_iload hc 4 dX2_nightOfPiece_39 rfl ?_
    refine r_iload_n hc 2 dX2_nightOfPiece_41 rfl ?_
    refine r_callVi (d := 7) hc (m_X2_firstNightFor h) cw_X2_firstNightFor wi_X2_firstNightFor ws_X2_firstNightFor lm_X2_80 (by decide) (by decide) rv_X2 rfl rfl (Nat.le_of_ble_eq_true rfl) dX2_nightOfPiece_42 (fun r_5 σ_4 h => ?_)
    refine r_istore hc [(4, .int r_5), (0, kz g 49), (2, .int x2), (3, .int x3), (5, .int x5)] dX2_nightOfPiece_45 (by decide) rfl ?_
    refine r_iload hc 0 dX2_nightOfPiece_47 rfl ?_
    refine r_ldc hc lk_X2_31 dX2_nightOfPiece_49 ?_
    refine r_ic_ne hc 57 dX2_nightOfPiece_51 (by decide) (fun q => ?_) (fun q => ?_)
    · have h := kif_t h q
      refine r_ldc hc lk_X2_31 dX2_nightOfPiece_54 ?_
      exact r_iret (ls0 := []) hZ dX2_nightOfPiece_56 h
    · have h := kif_f h q
      refine r_iload_n hc 3 dX2_nightOfPiece_57 rfl ?_
      refine r_iconst (v := 1) hc dX2_nightOfPiece_58 rfl ?_
      refine r_iload hc 0 dX2_nightOfPiece_59 rfl ?_
      refine r_ishl hc dX2_nightOfPiece_61 ?_
      refine r_iconst (v := (-1)) hc dX2_nightOfPiece_62 rfl ?_
      refine r_ixor hc dX2_nightOfPiece_63 ?_
      refine r_iand hc dX2_nightOfPiece_64 ?_
      refine r_nmI (fun x3_6 ex3_6 => ?_)
      have h := h x3_6 ex3_6
      refine r_istore_n hc [(3, .int x3_6), (4, .int r_5), (0, kz g 49), (2, .int x2), (5, .int x5)] dX2_nightOfPiece_65 (by decide) rfl ?_
      obtain ⟨x5_7, ex5_7⟩ : ∃ v : Int32, v = x5 + 1 := ⟨_, rfl⟩
      have h := h x5_7 ex5_7
      refine r_iinc (v := x5_7) hc 4 [(5, .int x5_7), (3, .int x3_6), (4, .int r_5), (0, kz g 49), (2, .int x2)] dX2_nightOfPiece_66 rfl (by rw [ex5_7]; rfl) (by decide) rfl ?_
      refine r_goto hc 32 dX2_nightOfPiece_69 (by decide) ?_
      refine r_sub [3, 4, 1, 2, 0] rfl ?_
      exact hK _ _ _ _ h
theorem sl_X2_nightOfPiece_32 {X : kX} {g : kG} {N : Nat} {Q : Int32 → kS → Prop} (hc : kOk X g RX2 cX2_nightOfPiece 6 (some .int) 8) (hZ : kRi X g cX2_nightOfPiece Q) {x2 : Int32} : ∀ (n : Nat) (x3 : Int32) (x4 : Int32) (x5 : Int32) (σ : kS), l_X2_nightOfPiece_32 N Q x2 n x3 x4 x5 σ → kP X g 6 32 [(0, kz g 49), (2, .int x2), (3, .int x3), (4, .int x4), (5, .int x5)] [] σ := by
  intro n
  induction n with
  | zero => intro x3 x4 x5 σ h; exact h.elim
  | succ n ih => intro x3 x4 x5 σ h; exact sb_X2_nightOfPiece_32 hc hZ ih h
def w_X2_nightOfPiece (N : Nat) (σ : kS) (x1 : Int32) (x2 : Int32) (Q : Int32 → kS → Prop) : Prop :=
  if x2 < (σ 33 9) then (w_X2_findPieceNights N σ x1 (fun (σ_1 : kS) => ∀ x3_3 : Int32, x3_3 = (1 <<< (x1 &&& 31)) - 1 → (l_X2_nightOfPiece_32 N Q x2  N x3_3 (-1000000) 0 σ_1))) else (Q (-1000000) σ)
set_option maxHeartbeats 4000000 in
set_option maxRecDepth 100000 in
theorem s_X2_nightOfPiece {X : kX} {g : kG} {N : Nat} {Q : Int32 → kS → Prop} (hc : kOk X g RX2 cX2_nightOfPiece 6 (some .int) 8) (hZ : kRi X g cX2_nightOfPiece Q) {σ : kS} {x1 : Int32} {x2 : Int32} (h : w_X2_nightOfPiece N σ x1 x2 Q) : kP X g 6 0 [(0, kz g 49), (1, .int x1), (2, .int x2)] [] σ := by
  unfold w_X2_nightOfPiece at h
  refine r_iload_n hc 2 dX2_nightOfPiece_0 rfl ?_
  refine r_aload_n hc 0 dX2_nightOfPiece_1 rfl ?_
  refine gf_X2_0 hc lf_X2_23 dX2_nightOfPiece_2 ?_
  refine gf_X3_9 hc kH_33 lf_X2_77 dX2_nightOfPiece_5 ?_
  refine r_ic_lt hc 14 dX2_nightOfPiece_8 (by decide) (fun q => ?_) (fun q => ?_)
  · have h := kif_t h q
    refine r_aload_n hc 0 dX2_nightOfPiece_14 rfl ?_
    refine r_iload_n hc 1 dX2_nightOfPiece_15 rfl ?_
    refine r_callVv (d := 4) hc (m_X2_findPieceNights h) cw_X2_findPieceNights wi_X2_findPieceNights ws_X2_findPieceNights lm_X2_70 (by decide) (by decide) rv_X2 rfl rfl (Nat.le_of_ble_eq_true rfl) dX2_nightOfPiece_16 (fun σ_1 h => ?_)
    refine r_iconst (v := 1) hc dX2_nightOfPiece_19 rfl ?_
    refine r_iload_n hc 1 dX2_nightOfPiece_20 rfl ?_
    refine r_ishl hc dX2_nightOfPiece_21 ?_
    refine r_iconst (v := 1) hc dX2_nightOfPiece_22 rfl ?_
    refine r_isub hc dX2_nightOfPiece_23 ?_
    refine r_nmI (fun x3_3 ex3_3 => ?_)
    have h := h x3_3 ex3_3
    refine r_istore_n hc [(3, .int x3_3), (0, kz g 49), (1, .int x1), (2, .int x2)] dX2_nightOfPiece_24 (by decide) rfl ?_
    refine r_ldc hc lk_X2_31 dX2_nightOfPiece_25 ?_
    refine r_istore hc [(4, .int (-1000000)), (3, .int x3_3), (0, kz g 49), (1, .int x1), (2, .int x2)] dX2_nightOfPiece_27 (by decide) rfl ?_
    refine r_iconst (v := 0) hc dX2_nightOfPiece_29 rfl ?_
    refine r_istore hc [(5, .int 0), (4, .int (-1000000)), (3, .int x3_3), (0, kz g 49), (1, .int x1), (2, .int x2)] dX2_nightOfPiece_30 (by decide) rfl ?_
    refine r_sub [3, 5, 2, 1, 0] rfl ?_
    refine sl_X2_nightOfPiece_32 hc hZ _ _ _ _ _ h
  · have h := kif_f h q
    refine r_ldc hc lk_X2_31 dX2_nightOfPiece_11 ?_
    exact r_iret (ls0 := []) hZ dX2_nightOfPiece_13 h
theorem m_X2_nightOfPiece {l : Launch} {g : kG} {N : Nat} {σ : kS} {x1 : Int32} {x2 : Int32} {Q : Int32 → kS → Prop} (h : w_X2_nightOfPiece N σ x1 x2 Q) : kMi l g yX2_nightOfPiece cX2_nightOfPiece 6 (some .int) 8 [kz g 49, .int x1, .int x2] σ Q :=
  k_met_i (by decide +kernel) rfl (Nat.le_of_ble_eq_true rfl) (fun X hl hc hZ => s_X2_nightOfPiece hc hZ h)
def b_X2_divisorOfBoth_9 (N : Nat) (Q : Int64 → kS → Prop) (K : Int64 → Int64 → Int32 → kS → Prop) (x4 : Int64) (x6 : Int64) (x8 : Int32) (σ : kS) : Prop :=
  if 128 ≤ x8 then (Q x4 σ) else (if (lg_cmp x6 0) = 0 then (Q x4 σ) else (¬ x6 = 0 ∧ (∀ x9_2 : Int64, x9_2 = kremL x4 x6 → (∀ x8_3 : Int32, x8_3 = x8 + 1 → (K x6 x9_2 x8_3 σ)))))
def l_X2_divisorOfBoth_9 (N : Nat) (Q : Int64 → kS → Prop) : Nat → Int64 → Int64 → Int32 → kS → Prop
  | 0 => fun _ _ _ _ => False
  | n + 1 => b_X2_divisorOfBoth_9 N Q (l_X2_divisorOfBoth_9 N Q n)
set_option maxHeartbeats 4000000 in
set_option maxRecDepth 100000 in
theorem sb_X2_divisorOfBoth_9 {X : kX} {g : kG} {N : Nat} {Q : Int64 → kS → Prop} (hc : kOk X g RX2 cX2_divisorOfBoth 11 (some .long) 0) (hZ : kRl X g cX2_divisorOfBoth Q) {K : Int64 → Int64 → Int32 → kS → Prop} (hK : ∀ (x4 : Int64) (x6 : Int64) (x8 : Int32) (τ : kS), K x4 x6 x8 τ → kP X g 11 9 [(4, .long x4), (6, .long x6), (8, .int x8)] [] τ) {x4 : Int64} {x6 : Int64} {x8 : Int32} {σ : kS} (h : b_X2_divisorOfBoth_9 N Q K x4 x6 x8 σ) : kP X g 11 9 [(4, .long x4), (6, .long x6), (8, .int x8)] [] σ := by
  unfold b_X2_divisorOfBoth_9 at h
  refine r_iload hc 2 dX2_divisorOfBoth_9 rfl ?_
  refine r_sipush (v := 128) hc dX2_divisorOfBoth_11 rfl ?_
  refine r_ic_ge hc 45 dX2_divisorOfBoth_14 (by decide) (fun q => ?_) (fun q => ?_)
  · have h := kif_t h q
    refine r_lload hc 0 dX2_divisorOfBoth_45 rfl ?_
    exact r_lret (ls0 := []) hZ dX2_divisorOfBoth_47 h
  · have h := kif_f h q
    refine r_lload hc 1 dX2_divisorOfBoth_17 rfl ?_
    refine r_lconst (v := 0) hc dX2_divisorOfBoth_19 rfl ?_
    refine r_lcmp hc dX2_divisorOfBoth_20 ?_
    refine r_if_eq hc 45 dX2_divisorOfBoth_21 (by decide) (fun q => ?_) (fun q => ?_)
    · have h := kif_t h q
      refine r_lload hc 0 dX2_divisorOfBoth_45 rfl ?_
      exact r_lret (ls0 := []) hZ dX2_divisorOfBoth_47 h
    · have h := kif_f h q
      refine r_lload hc 0 dX2_divisorOfBoth_24 rfl ?_
      refine r_lload hc 1 dX2_divisorOfBoth_26 rfl ?_
      obtain ⟨hn_1, h⟩ := h
      refine r_lrem hc dX2_divisorOfBoth_28 hn_1 ?_
      refine r_nmJ (fun x9_2 ex9_2 => ?_)
      have h := h x9_2 ex9_2
      refine r_lstore hc [(9, .long x9_2), (4, .long x4), (6, .long x6), (8, .int x8)] dX2_divisorOfBoth_29 (by decide) rfl ?_
      refine r_lload hc 2 dX2_divisorOfBoth_31 rfl ?_
      refine r_lstore hc [(4, .long x6), (9, .long x9_2), (6, .long x6), (8, .int x8)] dX2_divisorOfBoth_33 (by decide) rfl ?_
      refine r_lload hc 1 dX2_divisorOfBoth_35 rfl ?_
      refine r_lstore hc [(6, .long x9_2), (4, .long x6), (9, .long x9_2), (8, .int x8)] dX2_divisorOfBoth_37 (by decide) rfl ?_
      obtain ⟨x8_3, ex8_3⟩ : ∃ v : Int32, v = x8 + 1 := ⟨_, rfl⟩
      have h := h x8_3 ex8_3
      refine r_iinc (v := x8_3) hc 3 [(8, .int x8_3), (6, .long x9_2), (4, .long x6), (9, .long x9_2)] dX2_divisorOfBoth_39 rfl (by rw [ex8_3]; rfl) (by decide) rfl ?_
      refine r_goto hc 9 dX2_divisorOfBoth_42 (by decide) ?_
      refine r_sub [2, 1, 0] rfl ?_
      exact hK _ _ _ _ h
theorem sl_X2_divisorOfBoth_9 {X : kX} {g : kG} {N : Nat} {Q : Int64 → kS → Prop} (hc : kOk X g RX2 cX2_divisorOfBoth 11 (some .long) 0) (hZ : kRl X g cX2_divisorOfBoth Q) : ∀ (n : Nat) (x4 : Int64) (x6 : Int64) (x8 : Int32) (σ : kS), l_X2_divisorOfBoth_9 N Q n x4 x6 x8 σ → kP X g 11 9 [(4, .long x4), (6, .long x6), (8, .int x8)] [] σ := by
  intro n
  induction n with
  | zero => intro x4 x6 x8 σ h; exact h.elim
  | succ n ih => intro x4 x6 x8 σ h; exact sb_X2_divisorOfBoth_9 hc hZ ih h
def w_X2_divisorOfBoth (N : Nat) (σ : kS) (x0 : Int64) (x2 : Int64) (Q : Int64 → kS → Prop) : Prop :=
  l_X2_divisorOfBoth_9 N Q  N x0 x2 0 σ
set_option maxHeartbeats 4000000 in
set_option maxRecDepth 100000 in
theorem s_X2_divisorOfBoth {X : kX} {g : kG} {N : Nat} {Q : Int64 → kS → Prop} (hc : kOk X g RX2 cX2_divisorOfBoth 11 (some .long) 0) (hZ : kRl X g cX2_divisorOfBoth Q) {σ : kS} {x0 : Int64} {x2 : Int64} (h : w_X2_divisorOfBoth N σ x0 x2 Q) : kP X g 11 0 [(0, .long x0), (2, .long x2)] [] σ := by
  unfold w_X2_divisorOfBoth at h
  refine r_lload_n hc 0 dX2_divisorOfBoth_0 rfl ?_
  refine r_lstore hc [(4, .long x0), (0, .long x0), (2, .long x2)] dX2_divisorOfBoth_1 (by decide) rfl ?_
  refine r_lload_n hc 2 dX2_divisorOfBoth_3 rfl ?_
  refine r_lstore hc [(6, .long x2), (4, .long x0), (0, .long x0), (2, .long x2)] dX2_divisorOfBoth_4 (by decide) rfl ?_
  refine r_iconst (v := 0) hc dX2_divisorOfBoth_6 rfl ?_
  refine r_istore hc [(8, .int 0), (6, .long x2), (4, .long x0), (0, .long x0), (2, .long x2)] dX2_divisorOfBoth_7 (by decide) rfl ?_
  refine r_sub [2, 1, 0] rfl ?_
  refine sl_X2_divisorOfBoth_9 hc hZ _ _ _ _ _ h
theorem m_X2_divisorOfBoth {l : Launch} {g : kG} {N : Nat} {σ : kS} {x0 : Int64} {x2 : Int64} {Q : Int64 → kS → Prop} (h : w_X2_divisorOfBoth N σ x0 x2 Q) : kMl l g yX2_divisorOfBoth cX2_divisorOfBoth 11 (some .long) 0 [.long x0, .long x2] σ Q :=
  k_met_l (by decide +kernel) rfl (Nat.le_of_ble_eq_true rfl) (fun X hl hc hZ => s_X2_divisorOfBoth hc hZ h)
def w_X2_ownStrings (N : Nat) (σ : kS) (Q : Int32 → kS → Prop) : Prop :=
  w_X2_divisorOfBoth N σ ((σ 33 6).toInt64) ((σ 33 5).toInt64) (fun (r_2 : Int64) (σ_1 : kS) => Q (r_2.toInt32) σ_1)
set_option maxHeartbeats 4000000 in
set_option maxRecDepth 100000 in
theorem s_X2_ownStrings {X : kX} {g : kG} {N : Nat} {Q : Int32 → kS → Prop} (hc : kOk X g RX2 cX2_ownStrings 1 (some .int) 1) (hZ : kRi X g cX2_ownStrings Q) {σ : kS} (h : w_X2_ownStrings N σ Q) : kP X g 1 0 [(0, kz g 49)] [] σ := by
  unfold w_X2_ownStrings at h
  refine r_aload_n hc 0 dX2_ownStrings_0 rfl ?_
  refine gf_X2_0 hc lf_X2_23 dX2_ownStrings_1 ?_
  refine gf_X3_6 hc kH_33 lf_X2_96 dX2_ownStrings_4 ?_
  refine r_i2l hc dX2_ownStrings_7 ?_
  refine r_aload_n hc 0 dX2_ownStrings_8 rfl ?_
  refine gf_X2_0 hc lf_X2_23 dX2_ownStrings_9 ?_
  refine gf_X3_5 hc kH_33 lf_X2_32 dX2_ownStrings_12 ?_
  refine r_i2l hc dX2_ownStrings_15 ?_
  refine r_callSl (d := 0) hc (m_X2_divisorOfBoth h) cw_X2_divisorOfBoth wt_X2_divisorOfBoth lm_X2_99 (by decide) (by decide) rfl rfl (Nat.le_of_ble_eq_true rfl) dX2_ownStrings_16 (fun r_2 σ_1 h => ?_)
  refine r_l2i hc dX2_ownStrings_19 ?_
  exact r_iret (ls0 := []) hZ dX2_ownStrings_20 h
theorem m_X2_ownStrings {l : Launch} {g : kG} {N : Nat} {σ : kS} {Q : Int32 → kS → Prop} (h : w_X2_ownStrings N σ Q) : kMi l g yX2_ownStrings cX2_ownStrings 1 (some .int) 1 [kz g 49] σ Q :=
  k_met_i (by decide +kernel) rfl (Nat.le_of_ble_eq_true rfl) (fun X hl hc hZ => s_X2_ownStrings hc hZ h)
def w_X2_chordCount (N : Nat) (σ : kS) (Q : Int32 → kS → Prop) : Prop :=
  w_X2_ownStrings N σ (fun (r_2 : Int32) (σ_1 : kS) => Q (1 <<< (r_2 &&& 31)) σ_1)
set_option maxHeartbeats 4000000 in
set_option maxRecDepth 100000 in
theorem s_X2_chordCount {X : kX} {g : kG} {N : Nat} {Q : Int32 → kS → Prop} (hc : kOk X g RX2 cX2_chordCount 1 (some .int) 2) (hZ : kRi X g cX2_chordCount Q) {σ : kS} (h : w_X2_chordCount N σ Q) : kP X g 1 0 [(0, kz g 49)] [] σ := by
  unfold w_X2_chordCount at h
  refine r_iconst (v := 1) hc dX2_chordCount_0 rfl ?_
  refine r_aload_n hc 0 dX2_chordCount_1 rfl ?_
  refine r_callVi (d := 1) hc (m_X2_ownStrings h) cw_X2_ownStrings wi_X2_ownStrings ws_X2_ownStrings lm_X2_87 (by decide) (by decide) rv_X2 rfl rfl (Nat.le_of_ble_eq_true rfl) dX2_chordCount_2 (fun r_2 σ_1 h => ?_)
  refine r_ishl hc dX2_chordCount_5 ?_
  exact r_iret (ls0 := []) hZ dX2_chordCount_6 h
theorem m_X2_chordCount {l : Launch} {g : kG} {N : Nat} {σ : kS} {Q : Int32 → kS → Prop} (h : w_X2_chordCount N σ Q) : kMi l g yX2_chordCount cX2_chordCount 1 (some .int) 2 [kz g 49] σ Q :=
  k_met_i (by decide +kernel) rfl (Nat.le_of_ble_eq_true rfl) (fun X hl hc hZ => s_X2_chordCount hc hZ h)
def b_X2_chordNumber_14 (N : Nat) (Q : Int32 → kS → Prop) (x1 : Int32) (x2 : Int32) (K : Int32 → Int32 → kS → Prop) (x3 : Int32) (x4 : Int32) (σ : kS) : Prop :=
  if (σ 33 5) ≤ x4 then (Q x3 σ) else (∀ x3_4 : Int32, x3_4 = x3 ||| (x1 <<< (x4 &&& 31)) → (∀ x4_5 : Int32, x4_5 = x4 + x2 → (K x3_4 x4_5 σ)))
def l_X2_chordNumber_14 (N : Nat) (Q : Int32 → kS → Prop) (x1 : Int32) (x2 : Int32) : Nat → Int32 → Int32 → kS → Prop
  | 0 => fun _ _ _ => False
  | n + 1 => b_X2_chordNumber_14 N Q x1 x2 (l_X2_chordNumber_14 N Q x1 x2 n)
set_option maxHeartbeats 4000000 in
set_option maxRecDepth 100000 in
theorem sb_X2_chordNumber_14 {X : kX} {g : kG} {N : Nat} {Q : Int32 → kS → Prop} (hc : kOk X g RX2 cX2_chordNumber 5 (some .int) 2) (hZ : kRi X g cX2_chordNumber Q) {x1 : Int32} {x2 : Int32} {K : Int32 → Int32 → kS → Prop} (hK : ∀ (x3 : Int32) (x4 : Int32) (τ : kS), K x3 x4 τ → kP X g 5 14 [(0, kz g 49), (1, .int x1), (2, .int x2), (3, .int x3), (4, .int x4)] [] τ) {x3 : Int32} {x4 : Int32} {σ : kS} (h : b_X2_chordNumber_14 N Q x1 x2 K x3 x4 σ) : kP X g 5 14 [(0, kz g 49), (1, .int x1), (2, .int x2), (3, .int x3), (4, .int x4)] [] σ := by
  unfold b_X2_chordNumber_14 at h
  refine r_iload hc 4 dX2_chordNumber_14 rfl ?_
  refine r_aload_n hc 0 dX2_chordNumber_16 rfl ?_
  refine gf_X2_0 hc lf_X2_23 dX2_chordNumber_17 ?_
  refine gf_X3_5 hc kH_33 lf_X2_32 dX2_chordNumber_20 ?_
  refine r_ic_ge hc 42 dX2_chordNumber_23 (by decide) (fun q => ?_) (fun q => ?_)
  · have h := kif_t h q
    refine r_iload_n hc 3 dX2_chordNumber_42 rfl ?_
    exact r_iret (ls0 := []) hZ dX2_chordNumber_43 h
  · have h := kif_f h q
    refine r_iload_n hc 3 dX2_chordNumber_26 rfl ?_
    refine r_iload_n hc 1 dX2_chordNumber_27 rfl ?_
    refine r_iload hc 4 dX2_chordNumber_28 rfl ?_
    refine r_ishl hc dX2_chordNumber_30 ?_
    refine r_ior hc dX2_chordNumber_31 ?_
    refine r_nmI (fun x3_4 ex3_4 => ?_)
    have h := h x3_4 ex3_4
    refine r_istore_n hc [(3, .int x3_4), (0, kz g 49), (1, .int x1), (2, .int x2), (4, .int x4)] dX2_chordNumber_32 (by decide) rfl ?_
    refine r_iload hc 4 dX2_chordNumber_33 rfl ?_
    refine r_iload_n hc 3 dX2_chordNumber_35 rfl ?_
    refine r_iadd hc dX2_chordNumber_36 ?_
    refine r_nmI (fun x4_5 ex4_5 => ?_)
    have h := h x4_5 ex4_5
    refine r_istore hc [(4, .int x4_5), (3, .int x3_4), (0, kz g 49), (1, .int x1), (2, .int x2)] dX2_chordNumber_37 (by decide) rfl ?_
    refine r_goto hc 14 dX2_chordNumber_39 (by decide) ?_
    refine r_sub [2, 3, 4, 1, 0] rfl ?_
    exact hK _ _ _ h
theorem sl_X2_chordNumber_14 {X : kX} {g : kG} {N : Nat} {Q : Int32 → kS → Prop} (hc : kOk X g RX2 cX2_chordNumber 5 (some .int) 2) (hZ : kRi X g cX2_chordNumber Q) {x1 : Int32} {x2 : Int32} : ∀ (n : Nat) (x3 : Int32) (x4 : Int32) (σ : kS), l_X2_chordNumber_14 N Q x1 x2 n x3 x4 σ → kP X g 5 14 [(0, kz g 49), (1, .int x1), (2, .int x2), (3, .int x3), (4, .int x4)] [] σ := by
  intro n
  induction n with
  | zero => intro x3 x4 σ h; exact h.elim
  | succ n ih => intro x3 x4 σ h; exact sb_X2_chordNumber_14 hc hZ ih h
def w_X2_chordNumber (N : Nat) (σ : kS) (x1 : Int32) (Q : Int32 → kS → Prop) : Prop :=
  w_X2_ownStrings N σ (fun (r_2 : Int32) (σ_1 : kS) => ∀ x2_3 : Int32, x2_3 = kmax 1 r_2 → (l_X2_chordNumber_14 N Q x1 x2_3  N 0 0 σ_1))
set_option maxHeartbeats 4000000 in
set_option maxRecDepth 100000 in
theorem s_X2_chordNumber {X : kX} {g : kG} {N : Nat} {Q : Int32 → kS → Prop} (hc : kOk X g RX2 cX2_chordNumber 5 (some .int) 2) (hZ : kRi X g cX2_chordNumber Q) {σ : kS} {x1 : Int32} (h : w_X2_chordNumber N σ x1 Q) : kP X g 5 0 [(0, kz g 49), (1, .int x1)] [] σ := by
  unfold w_X2_chordNumber at h
  refine r_iconst (v := 1) hc dX2_chordNumber_0 rfl ?_
  refine r_aload_n hc 0 dX2_chordNumber_1 rfl ?_
  refine r_callVi (d := 1) hc (m_X2_ownStrings h) cw_X2_ownStrings wi_X2_ownStrings ws_X2_ownStrings lm_X2_87 (by decide) (by decide) rv_X2 rfl rfl (Nat.le_of_ble_eq_true rfl) dX2_chordNumber_2 (fun r_2 σ_1 h => ?_)
  refine r_mmax hc lm_X2_91 (by decide) (Nat.le_of_ble_eq_true rfl) dX2_chordNumber_5 ?_
  refine r_nmI (fun x2_3 ex2_3 => ?_)
  have h := h x2_3 ex2_3
  refine r_istore_n hc [(2, .int x2_3), (0, kz g 49), (1, .int x1)] dX2_chordNumber_8 (by decide) rfl ?_
  refine r_iconst (v := 0) hc dX2_chordNumber_9 rfl ?_
  refine r_istore_n hc [(3, .int 0), (2, .int x2_3), (0, kz g 49), (1, .int x1)] dX2_chordNumber_10 (by decide) rfl ?_
  refine r_iconst (v := 0) hc dX2_chordNumber_11 rfl ?_
  refine r_istore hc [(4, .int 0), (3, .int 0), (2, .int x2_3), (0, kz g 49), (1, .int x1)] dX2_chordNumber_12 (by decide) rfl ?_
  refine r_sub [3, 4, 2, 1, 0] rfl ?_
  refine sl_X2_chordNumber_14 hc hZ _ _ _ _ h
theorem m_X2_chordNumber {l : Launch} {g : kG} {N : Nat} {σ : kS} {x1 : Int32} {Q : Int32 → kS → Prop} (h : w_X2_chordNumber N σ x1 Q) : kMi l g yX2_chordNumber cX2_chordNumber 5 (some .int) 2 [kz g 49, .int x1] σ Q :=
  k_met_i (by decide +kernel) rfl (Nat.le_of_ble_eq_true rfl) (fun X hl hc hZ => s_X2_chordNumber hc hZ h)
def b_X2_soundsAs_3 (N : Nat) (Q : Int32 → kS → Prop) (a3 : Nat) (x1 : Int32) (x2 : Int32) (x4 : Int32) (K : Int32 → kS → Prop) (x5 : Int32) (σ : kS) : Prop :=
  vp_in x2 4 ∧ (if (σ 34 x2.toNatClampNeg) ≤ x5 then (Q 1 σ) else (vp_in (x4 + x5) 40 ∧ (w_X3_stringOf N σ 33 x2 x5 (fun (r_4 : Int32) (σ_3 : kS) => w_X3_stringHeard N σ_3 33 r_4 x1 (fun (r_6 : Int32) (σ_5 : kS) => if (σ a3 (x4 + x5).toNatClampNeg) = r_6 then (∀ x5_7 : Int32, x5_7 = x5 + 1 → (K x5_7 σ_5)) else (Q 0 σ_5))))))
def l_X2_soundsAs_3 (N : Nat) (Q : Int32 → kS → Prop) (a3 : Nat) (x1 : Int32) (x2 : Int32) (x4 : Int32) : Nat → Int32 → kS → Prop
  | 0 => fun _ _ => False
  | n + 1 => b_X2_soundsAs_3 N Q a3 x1 x2 x4 (l_X2_soundsAs_3 N Q a3 x1 x2 x4 n)
set_option maxHeartbeats 4000000 in
set_option maxRecDepth 100000 in
theorem sb_X2_soundsAs_3 {X : kX} {g : kG} {N : Nat} {Q : Int32 → kS → Prop} {a3 : Nat} (hc : kOk X g RX2 cX2_soundsAs 6 (some .boolean) 2) (hZ : kRz X g cX2_soundsAs Q) (ha3 : kInts a3 40) {x1 : Int32} {x2 : Int32} {x4 : Int32} {K : Int32 → kS → Prop} (hK : ∀ (x5 : Int32) (τ : kS), K x5 τ → kP X g 6 3 [(0, kz g 49), (1, .int x1), (2, .int x2), (3, kz g a3), (4, .int x4), (5, .int x5)] [] τ) {x5 : Int32} {σ : kS} (h : b_X2_soundsAs_3 N Q a3 x1 x2 x4 K x5 σ) : kP X g 6 3 [(0, kz g 49), (1, .int x1), (2, .int x2), (3, kz g a3), (4, .int x4), (5, .int x5)] [] σ := by
  unfold b_X2_soundsAs_3 at h
  refine r_iload hc 5 dX2_soundsAs_3 rfl ?_
  refine r_aload_n hc 0 dX2_soundsAs_5 rfl ?_
  refine gf_X2_0 hc lf_X2_23 dX2_soundsAs_6 ?_
  refine gf_X3_0 hc kH_33 lf_X2_110 dX2_soundsAs_9 ?_
  refine r_iload_n hc 2 dX2_soundsAs_12 rfl ?_
  obtain ⟨hi_1, h⟩ := h
  refine r_iald hc kia_34 hi_1 dX2_soundsAs_13 ?_
  refine r_ic_ge hc 53 dX2_soundsAs_14 (by decide) (fun q => ?_) (fun q => ?_)
  · have h := kif_t h q
    refine r_iconst (v := 1) hc dX2_soundsAs_53 rfl ?_
    exact r_zret (ls0 := []) hZ dX2_soundsAs_54 (Or.inr rfl) h
  · have h := kif_f h q
    refine r_aload_n hc 3 dX2_soundsAs_17 rfl ?_
    refine r_iload hc 4 dX2_soundsAs_18 rfl ?_
    refine r_iload hc 5 dX2_soundsAs_20 rfl ?_
    refine r_iadd hc dX2_soundsAs_22 ?_
    obtain ⟨hi_2, h⟩ := h
    refine r_iald hc ha3 hi_2 dX2_soundsAs_23 ?_
    refine r_aload_n hc 0 dX2_soundsAs_24 rfl ?_
    refine gf_X2_0 hc lf_X2_23 dX2_soundsAs_25 ?_
    refine r_aload_n hc 0 dX2_soundsAs_28 rfl ?_
    refine gf_X2_0 hc lf_X2_23 dX2_soundsAs_29 ?_
    refine r_iload_n hc 2 dX2_soundsAs_32 rfl ?_
    refine r_iload hc 5 dX2_soundsAs_33 rfl ?_
    refine r_callVi (d := 0) hc (m_X3_stringOf kH_33 h) cw_X3_stringOf wi_X3_stringOf ws_X3_stringOf lm_X2_113 (by decide) (by decide) (rv_X3 kH_33) rfl rfl (Nat.le_of_ble_eq_true rfl) dX2_soundsAs_35 (fun r_4 σ_3 h => ?_)
    refine r_iload_n hc 1 dX2_soundsAs_38 rfl ?_
    refine r_callVi (d := 1) hc (m_X3_stringHeard kH_33 h) cw_X3_stringHeard wi_X3_stringHeard ws_X3_stringHeard lm_X2_116 (by decide) (by decide) (rv_X3 kH_33) rfl rfl (Nat.le_of_ble_eq_true rfl) dX2_soundsAs_39 (fun r_6 σ_5 h => ?_)
    refine r_ic_eq hc 47 dX2_soundsAs_42 (by decide) (fun q => ?_) (fun q => ?_)
    · have h := kif_t h q
      obtain ⟨x5_7, ex5_7⟩ : ∃ v : Int32, v = x5 + 1 := ⟨_, rfl⟩
      have h := h x5_7 ex5_7
      refine r_iinc (v := x5_7) hc 5 [(5, .int x5_7), (0, kz g 49), (1, .int x1), (2, .int x2), (3, kz g a3), (4, .int x4)] dX2_soundsAs_47 rfl (by rw [ex5_7]; rfl) (by decide) rfl ?_
      refine r_goto hc 3 dX2_soundsAs_50 (by decide) ?_
      refine r_sub [1, 2, 3, 4, 5, 0] rfl ?_
      exact hK _ _ h
    · have h := kif_f h q
      refine r_iconst (v := 0) hc dX2_soundsAs_45 rfl ?_
      exact r_zret (ls0 := []) hZ dX2_soundsAs_46 (Or.inl rfl) h
theorem sl_X2_soundsAs_3 {X : kX} {g : kG} {N : Nat} {Q : Int32 → kS → Prop} {a3 : Nat} (hc : kOk X g RX2 cX2_soundsAs 6 (some .boolean) 2) (hZ : kRz X g cX2_soundsAs Q) (ha3 : kInts a3 40) {x1 : Int32} {x2 : Int32} {x4 : Int32} : ∀ (n : Nat) (x5 : Int32) (σ : kS), l_X2_soundsAs_3 N Q a3 x1 x2 x4 n x5 σ → kP X g 6 3 [(0, kz g 49), (1, .int x1), (2, .int x2), (3, kz g a3), (4, .int x4), (5, .int x5)] [] σ := by
  intro n
  induction n with
  | zero => intro x5 σ h; exact h.elim
  | succ n ih => intro x5 σ h; exact sb_X2_soundsAs_3 hc hZ ha3 ih h
def w_X2_soundsAs (N : Nat) (σ : kS) (x1 : Int32) (x2 : Int32) (a3 : Nat) (x4 : Int32) (Q : Int32 → kS → Prop) : Prop :=
  l_X2_soundsAs_3 N Q a3 x1 x2 x4  N 0 σ
set_option maxHeartbeats 4000000 in
set_option maxRecDepth 100000 in
theorem s_X2_soundsAs {X : kX} {g : kG} {N : Nat} {Q : Int32 → kS → Prop} {a3 : Nat} (hc : kOk X g RX2 cX2_soundsAs 6 (some .boolean) 2) (hZ : kRz X g cX2_soundsAs Q) (ha3 : kInts a3 40) {σ : kS} {x1 : Int32} {x2 : Int32} {x4 : Int32} (h : w_X2_soundsAs N σ x1 x2 a3 x4 Q) : kP X g 6 0 [(0, kz g 49), (1, .int x1), (2, .int x2), (3, kz g a3), (4, .int x4)] [] σ := by
  unfold w_X2_soundsAs at h
  refine r_iconst (v := 0) hc dX2_soundsAs_0 rfl ?_
  refine r_istore hc [(5, .int 0), (0, kz g 49), (1, .int x1), (2, .int x2), (3, kz g a3), (4, .int x4)] dX2_soundsAs_1 (by decide) rfl ?_
  refine r_sub [1, 2, 3, 4, 5, 0] rfl ?_
  refine sl_X2_soundsAs_3 hc hZ ha3 _ _ _ h
theorem m_X2_soundsAs {l : Launch} {g : kG} {N : Nat} {σ : kS} {a3 : Nat} {x1 : Int32} {x2 : Int32} {x4 : Int32} {Q : Int32 → kS → Prop} (ha3 : kInts a3 40) (h : w_X2_soundsAs N σ x1 x2 a3 x4 Q) : kMi l g yX2_soundsAs cX2_soundsAs 6 (some .boolean) 2 [kz g 49, .int x1, .int x2, kz g a3, .int x4] σ Q :=
  k_met_z (by decide +kernel) rfl (Nat.le_of_ble_eq_true rfl) (fun X hl hc hZ => s_X2_soundsAs hc hZ ha3 h)
def b_X2_kindsHeard_6 (N : Nat) (Q : Int32 → kS → Prop) (a3 : Nat) (x1 : Int32) (x2 : Int32) (x4 : Int32) (K : Int32 → Int32 → kS → Prop) (x5 : Int32) (x6 : Int32) (σ : kS) : Prop :=
  if 5 < x6 then (Q x5 σ) else (vp_in x1 5 ∧ (w_X3_biasAs N σ 33 x6 (σ 37 x1.toNatClampNeg) (fun (r_3 : Int32) (σ_2 : kS) => w_X2_soundsAs N σ_2 r_3 x2 a3 x4 (fun (r_5 : Int32) (σ_4 : kS) => if r_5 = 0 then (∀ x6_6 : Int32, x6_6 = x6 + 1 → (K x5 x6_6 σ_4)) else (∀ x5_7 : Int32, x5_7 = x5 ||| (1 <<< (x6 &&& 31)) → (∀ x6_8 : Int32, x6_8 = x6 + 1 → (K x5_7 x6_8 σ_4)))))))
def l_X2_kindsHeard_6 (N : Nat) (Q : Int32 → kS → Prop) (a3 : Nat) (x1 : Int32) (x2 : Int32) (x4 : Int32) : Nat → Int32 → Int32 → kS → Prop
  | 0 => fun _ _ _ => False
  | n + 1 => b_X2_kindsHeard_6 N Q a3 x1 x2 x4 (l_X2_kindsHeard_6 N Q a3 x1 x2 x4 n)
set_option maxHeartbeats 4000000 in
set_option maxRecDepth 100000 in
theorem sb_X2_kindsHeard_6 {X : kX} {g : kG} {N : Nat} {Q : Int32 → kS → Prop} {a3 : Nat} (hc : kOk X g RX2 cX2_kindsHeard 8 (some .int) 3) (hZ : kRi X g cX2_kindsHeard Q) (ha3 : kInts a3 40) {x1 : Int32} {x2 : Int32} {x4 : Int32} {K : Int32 → Int32 → kS → Prop} (hK : ∀ (x5 : Int32) (x6 : Int32) (τ : kS), K x5 x6 τ → kP X g 8 6 [(0, kz g 49), (1, .int x1), (2, .int x2), (3, kz g a3), (4, .int x4), (5, .int x5), (6, .int x6)] [] τ) {x5 : Int32} {x6 : Int32} {σ : kS} (h : b_X2_kindsHeard_6 N Q a3 x1 x2 x4 K x5 x6 σ) : kP X g 8 6 [(0, kz g 49), (1, .int x1), (2, .int x2), (3, kz g a3), (4, .int x4), (5, .int x5), (6, .int x6)] [] σ := by
  unfold b_X2_kindsHeard_6 at h
  refine r_iload hc 6 dX2_kindsHeard_6 rfl ?_
  refine r_iconst (v := 5) hc dX2_kindsHeard_8 rfl ?_
  refine r_ic_gt hc 60 dX2_kindsHeard_9 (by decide) (fun q => ?_) (fun q => ?_)
  · have h := kif_t h q
    refine r_iload hc 5 dX2_kindsHeard_60 rfl ?_
    exact r_iret (ls0 := []) hZ dX2_kindsHeard_62 h
  · have h := kif_f h q
    refine r_aload_n hc 0 dX2_kindsHeard_12 rfl ?_
    refine gf_X2_0 hc lf_X2_23 dX2_kindsHeard_13 ?_
    refine r_iload hc 6 dX2_kindsHeard_16 rfl ?_
    refine r_aload_n hc 0 dX2_kindsHeard_18 rfl ?_
    refine gf_X2_0 hc lf_X2_23 dX2_kindsHeard_19 ?_
    refine gf_X3_3 hc kH_33 lf_X2_103 dX2_kindsHeard_22 ?_
    refine r_iload_n hc 1 dX2_kindsHeard_25 rfl ?_
    obtain ⟨hi_1, h⟩ := h
    refine r_iald hc kia_37 hi_1 dX2_kindsHeard_26 ?_
    refine r_callVi (d := 1) hc (m_X3_biasAs kH_33 h) cw_X3_biasAs wi_X3_biasAs ws_X3_biasAs lm_X2_52 (by decide) (by decide) (rv_X3 kH_33) rfl rfl (Nat.le_of_ble_eq_true rfl) dX2_kindsHeard_27 (fun r_3 σ_2 h => ?_)
    refine r_istore hc [(7, .int r_3), (0, kz g 49), (1, .int x1), (2, .int x2), (3, kz g a3), (4, .int x4), (5, .int x5), (6, .int x6)] dX2_kindsHeard_30 (by decide) rfl ?_
    refine r_aload_n hc 1 dX2_kindsHeard_32 rfl ?_
    refine r_iload hc 0 dX2_kindsHeard_33 rfl ?_
    refine r_iload_n hc 3 dX2_kindsHeard_35 rfl ?_
    refine r_aload_n hc 4 dX2_kindsHeard_36 rfl ?_
    refine r_iload hc 5 dX2_kindsHeard_37 rfl ?_
    refine r_callVi (d := 2) hc (m_X2_soundsAs ha3 h) cw_X2_soundsAs wi_X2_soundsAs ws_X2_soundsAs lm_X2_106 (by decide) (by decide) rv_X2 rfl rfl (Nat.le_of_ble_eq_true rfl) dX2_kindsHeard_39 (fun r_5 σ_4 h => ?_)
    refine r_if_eq hc 54 dX2_kindsHeard_42 (by decide) (fun q => ?_) (fun q => ?_)
    · have h := kif_t h q
      obtain ⟨x6_6, ex6_6⟩ : ∃ v : Int32, v = x6 + 1 := ⟨_, rfl⟩
      have h := h x6_6 ex6_6
      refine r_iinc (v := x6_6) hc 7 [(6, .int x6_6), (7, .int r_3), (0, kz g 49), (1, .int x1), (2, .int x2), (3, kz g a3), (4, .int x4), (5, .int x5)] dX2_kindsHeard_54 rfl (by rw [ex6_6]; rfl) (by decide) rfl ?_
      refine r_goto hc 6 dX2_kindsHeard_57 (by decide) ?_
      refine r_sub [2, 3, 4, 5, 6, 7, 0] rfl ?_
      exact hK _ _ _ h
    · have h := kif_f h q
      refine r_iload hc 6 dX2_kindsHeard_45 rfl ?_
      refine r_iconst (v := 1) hc dX2_kindsHeard_47 rfl ?_
      refine r_iload hc 7 dX2_kindsHeard_48 rfl ?_
      refine r_ishl hc dX2_kindsHeard_50 ?_
      refine r_ior hc dX2_kindsHeard_51 ?_
      refine r_nmI (fun x5_7 ex5_7 => ?_)
      have h := h x5_7 ex5_7
      refine r_istore hc [(5, .int x5_7), (7, .int r_3), (0, kz g 49), (1, .int x1), (2, .int x2), (3, kz g a3), (4, .int x4), (6, .int x6)] dX2_kindsHeard_52 (by decide) rfl ?_
      obtain ⟨x6_8, ex6_8⟩ : ∃ v : Int32, v = x6 + 1 := ⟨_, rfl⟩
      have h := h x6_8 ex6_8
      refine r_iinc (v := x6_8) hc 7 [(6, .int x6_8), (5, .int x5_7), (7, .int r_3), (0, kz g 49), (1, .int x1), (2, .int x2), (3, kz g a3), (4, .int x4)] dX2_kindsHeard_54 rfl (by rw [ex6_8]; rfl) (by decide) rfl ?_
      refine r_goto hc 6 dX2_kindsHeard_57 (by decide) ?_
      refine r_sub [3, 4, 5, 6, 7, 1, 0] rfl ?_
      exact hK _ _ _ h
theorem sl_X2_kindsHeard_6 {X : kX} {g : kG} {N : Nat} {Q : Int32 → kS → Prop} {a3 : Nat} (hc : kOk X g RX2 cX2_kindsHeard 8 (some .int) 3) (hZ : kRi X g cX2_kindsHeard Q) (ha3 : kInts a3 40) {x1 : Int32} {x2 : Int32} {x4 : Int32} : ∀ (n : Nat) (x5 : Int32) (x6 : Int32) (σ : kS), l_X2_kindsHeard_6 N Q a3 x1 x2 x4 n x5 x6 σ → kP X g 8 6 [(0, kz g 49), (1, .int x1), (2, .int x2), (3, kz g a3), (4, .int x4), (5, .int x5), (6, .int x6)] [] σ := by
  intro n
  induction n with
  | zero => intro x5 x6 σ h; exact h.elim
  | succ n ih => intro x5 x6 σ h; exact sb_X2_kindsHeard_6 hc hZ ha3 ih h
def w_X2_kindsHeard (N : Nat) (σ : kS) (x1 : Int32) (x2 : Int32) (a3 : Nat) (x4 : Int32) (Q : Int32 → kS → Prop) : Prop :=
  l_X2_kindsHeard_6 N Q a3 x1 x2 x4  N 0 1 σ
set_option maxHeartbeats 4000000 in
set_option maxRecDepth 100000 in
theorem s_X2_kindsHeard {X : kX} {g : kG} {N : Nat} {Q : Int32 → kS → Prop} {a3 : Nat} (hc : kOk X g RX2 cX2_kindsHeard 8 (some .int) 3) (hZ : kRi X g cX2_kindsHeard Q) (ha3 : kInts a3 40) {σ : kS} {x1 : Int32} {x2 : Int32} {x4 : Int32} (h : w_X2_kindsHeard N σ x1 x2 a3 x4 Q) : kP X g 8 0 [(0, kz g 49), (1, .int x1), (2, .int x2), (3, kz g a3), (4, .int x4)] [] σ := by
  unfold w_X2_kindsHeard at h
  refine r_iconst (v := 0) hc dX2_kindsHeard_0 rfl ?_
  refine r_istore hc [(5, .int 0), (0, kz g 49), (1, .int x1), (2, .int x2), (3, kz g a3), (4, .int x4)] dX2_kindsHeard_1 (by decide) rfl ?_
  refine r_iconst (v := 1) hc dX2_kindsHeard_3 rfl ?_
  refine r_istore hc [(6, .int 1), (5, .int 0), (0, kz g 49), (1, .int x1), (2, .int x2), (3, kz g a3), (4, .int x4)] dX2_kindsHeard_4 (by decide) rfl ?_
  refine r_sub [2, 3, 4, 5, 6, 1, 0] rfl ?_
  refine sl_X2_kindsHeard_6 hc hZ ha3 _ _ _ _ h
theorem m_X2_kindsHeard {l : Launch} {g : kG} {N : Nat} {σ : kS} {a3 : Nat} {x1 : Int32} {x2 : Int32} {x4 : Int32} {Q : Int32 → kS → Prop} (ha3 : kInts a3 40) (h : w_X2_kindsHeard N σ x1 x2 a3 x4 Q) : kMi l g yX2_kindsHeard cX2_kindsHeard 8 (some .int) 3 [kz g 49, .int x1, .int x2, kz g a3, .int x4] σ Q :=
  k_met_i (by decide +kernel) rfl (Nat.le_of_ble_eq_true rfl) (fun X hl hc hZ => s_X2_kindsHeard hc hZ ha3 h)
def b_X2_fewestTunings_14 (N : Nat) (Q : Int32 → kS → Prop) (x1 : Int32) (x2 : Int32) (K : Int32 → Int32 → Int32 → kS → Prop) (x3 : Int32) (x4 : Int32) (x5 : Int32) (σ : kS) : Prop :=
  if x1 ≤ x5 then (Q x3 σ) else (w_X3_around N σ 33 (x4 + (σ 33 6)) (fun (r_3 : Int32) (σ_2 : kS) => if r_3 ≤ x2 then (∀ x5_4 : Int32, x5_4 = x5 + 1 → (K x3 r_3 x5_4 σ_2)) else (∀ x3_5 : Int32, x3_5 = x3 + 1 → (∀ x5_6 : Int32, x5_6 = x5 + 1 → (K x3_5 0 x5_6 σ_2)))))
def l_X2_fewestTunings_14 (N : Nat) (Q : Int32 → kS → Prop) (x1 : Int32) (x2 : Int32) : Nat → Int32 → Int32 → Int32 → kS → Prop
  | 0 => fun _ _ _ _ => False
  | n + 1 => b_X2_fewestTunings_14 N Q x1 x2 (l_X2_fewestTunings_14 N Q x1 x2 n)
set_option maxHeartbeats 4000000 in
set_option maxRecDepth 100000 in
theorem sb_X2_fewestTunings_14 {X : kX} {g : kG} {N : Nat} {Q : Int32 → kS → Prop} (hc : kOk X g RX2 cX2_fewestTunings 6 (some .int) 1) (hZ : kRi X g cX2_fewestTunings Q) {x1 : Int32} {x2 : Int32} {K : Int32 → Int32 → Int32 → kS → Prop} (hK : ∀ (x3 : Int32) (x4 : Int32) (x5 : Int32) (τ : kS), K x3 x4 x5 τ → kP X g 6 14 [(0, kz g 49), (1, .int x1), (2, .int x2), (3, .int x3), (4, .int x4), (5, .int x5)] [] τ) {x3 : Int32} {x4 : Int32} {x5 : Int32} {σ : kS} (h : b_X2_fewestTunings_14 N Q x1 x2 K x3 x4 x5 σ) : kP X g 6 14 [(0, kz g 49), (1, .int x1), (2, .int x2), (3, .int x3), (4, .int x4), (5, .int x5)] [] σ := by
  unfold b_X2_fewestTunings_14 at h
  refine r_iload hc 5 dX2_fewestTunings_14 rfl ?_
  refine r_iload_n hc 1 dX2_fewestTunings_16 rfl ?_
  refine r_ic_ge hc 57 dX2_fewestTunings_17 (by decide) (fun q => ?_) (fun q => ?_)
  · have h := kif_t h q
    refine r_iload_n hc 3 dX2_fewestTunings_57 rfl ?_
    exact r_iret (ls0 := []) hZ dX2_fewestTunings_58 h
  · have h := kif_f h q
    refine r_aload_n hc 0 dX2_fewestTunings_20 rfl ?_
    refine gf_X2_0 hc lf_X2_23 dX2_fewestTunings_21 ?_
    refine r_iload hc 4 dX2_fewestTunings_24 rfl ?_
    refine r_aload_n hc 0 dX2_fewestTunings_26 rfl ?_
    refine gf_X2_0 hc lf_X2_23 dX2_fewestTunings_27 ?_
    refine gf_X3_6 hc kH_33 lf_X2_96 dX2_fewestTunings_30 ?_
    refine r_iadd hc dX2_fewestTunings_33 ?_
    refine r_callVi (d := 0) hc (m_X3_around kH_33 h) cw_X3_around wi_X3_around ws_X3_around lm_X2_40 (by decide) (by decide) (rv_X3 kH_33) rfl rfl (Nat.le_of_ble_eq_true rfl) dX2_fewestTunings_34 (fun r_3 σ_2 h => ?_)
    refine r_istore hc [(4, .int r_3), (0, kz g 49), (1, .int x1), (2, .int x2), (3, .int x3), (5, .int x5)] dX2_fewestTunings_37 (by decide) rfl ?_
    refine r_iload hc 0 dX2_fewestTunings_39 rfl ?_
    refine r_iload_n hc 3 dX2_fewestTunings_41 rfl ?_
    refine r_ic_le hc 51 dX2_fewestTunings_42 (by decide) (fun q => ?_) (fun q => ?_)
    · have h := kif_t h q
      obtain ⟨x5_4, ex5_4⟩ : ∃ v : Int32, v = x5 + 1 := ⟨_, rfl⟩
      have h := h x5_4 ex5_4
      refine r_iinc (v := x5_4) hc 5 [(5, .int x5_4), (4, .int r_3), (0, kz g 49), (1, .int x1), (2, .int x2), (3, .int x3)] dX2_fewestTunings_51 rfl (by rw [ex5_4]; rfl) (by decide) rfl ?_
      refine r_goto hc 14 dX2_fewestTunings_54 (by decide) ?_
      refine r_sub [2, 3, 4, 5, 1, 0] rfl ?_
      exact hK _ _ _ _ h
    · have h := kif_f h q
      refine r_iconst (v := 0) hc dX2_fewestTunings_45 rfl ?_
      refine r_istore hc [(4, .int 0), (0, kz g 49), (1, .int x1), (2, .int x2), (3, .int x3), (5, .int x5)] dX2_fewestTunings_46 (by decide) rfl ?_
      obtain ⟨x3_5, ex3_5⟩ : ∃ v : Int32, v = x3 + 1 := ⟨_, rfl⟩
      have h := h x3_5 ex3_5
      refine r_iinc (v := x3_5) hc 4 [(3, .int x3_5), (4, .int 0), (0, kz g 49), (1, .int x1), (2, .int x2), (5, .int x5)] dX2_fewestTunings_48 rfl (by rw [ex3_5]; rfl) (by decide) rfl ?_
      obtain ⟨x5_6, ex5_6⟩ : ∃ v : Int32, v = x5 + 1 := ⟨_, rfl⟩
      have h := h x5_6 ex5_6
      refine r_iinc (v := x5_6) hc 5 [(5, .int x5_6), (3, .int x3_5), (4, .int 0), (0, kz g 49), (1, .int x1), (2, .int x2)] dX2_fewestTunings_51 rfl (by rw [ex5_6]; rfl) (by decide) rfl ?_
      refine r_goto hc 14 dX2_fewestTunings_54 (by decide) ?_
      refine r_sub [3, 4, 5, 1, 2, 0] rfl ?_
      exact hK _ _ _ _ h
theorem sl_X2_fewestTunings_14 {X : kX} {g : kG} {N : Nat} {Q : Int32 → kS → Prop} (hc : kOk X g RX2 cX2_fewestTunings 6 (some .int) 1) (hZ : kRi X g cX2_fewestTunings Q) {x1 : Int32} {x2 : Int32} : ∀ (n : Nat) (x3 : Int32) (x4 : Int32) (x5 : Int32) (σ : kS), l_X2_fewestTunings_14 N Q x1 x2 n x3 x4 x5 σ → kP X g 6 14 [(0, kz g 49), (1, .int x1), (2, .int x2), (3, .int x3), (4, .int x4), (5, .int x5)] [] σ := by
  intro n
  induction n with
  | zero => intro x3 x4 x5 σ h; exact h.elim
  | succ n ih => intro x3 x4 x5 σ h; exact sb_X2_fewestTunings_14 hc hZ ih h
def w_X2_fewestTunings (N : Nat) (σ : kS) (x1 : Int32) (x2 : Int32) (Q : Int32 → kS → Prop) : Prop :=
  ∀ x4_1 : Int32, x4_1 = σ 33 7 → (l_X2_fewestTunings_14 N Q x1 x2  N 0 x4_1 0 σ)
set_option maxHeartbeats 4000000 in
set_option maxRecDepth 100000 in
theorem s_X2_fewestTunings {X : kX} {g : kG} {N : Nat} {Q : Int32 → kS → Prop} (hc : kOk X g RX2 cX2_fewestTunings 6 (some .int) 1) (hZ : kRi X g cX2_fewestTunings Q) {σ : kS} {x1 : Int32} {x2 : Int32} (h : w_X2_fewestTunings N σ x1 x2 Q) : kP X g 6 0 [(0, kz g 49), (1, .int x1), (2, .int x2)] [] σ := by
  unfold w_X2_fewestTunings at h
  refine r_iconst (v := 0) hc dX2_fewestTunings_0 rfl ?_
  refine r_istore_n hc [(3, .int 0), (0, kz g 49), (1, .int x1), (2, .int x2)] dX2_fewestTunings_1 (by decide) rfl ?_
  refine r_aload_n hc 1 dX2_fewestTunings_2 rfl ?_
  refine gf_X2_0 hc lf_X2_23 dX2_fewestTunings_3 ?_
  refine gf_X3_7 hc kH_33 lf_X2_49 dX2_fewestTunings_6 ?_
  refine r_nmI (fun x4_1 ex4_1 => ?_)
  have h := h x4_1 ex4_1
  refine r_istore hc [(4, .int x4_1), (3, .int 0), (0, kz g 49), (1, .int x1), (2, .int x2)] dX2_fewestTunings_9 (by decide) rfl ?_
  refine r_iconst (v := 0) hc dX2_fewestTunings_11 rfl ?_
  refine r_istore hc [(5, .int 0), (4, .int x4_1), (3, .int 0), (0, kz g 49), (1, .int x1), (2, .int x2)] dX2_fewestTunings_12 (by decide) rfl ?_
  refine r_sub [3, 4, 5, 2, 1, 0] rfl ?_
  refine sl_X2_fewestTunings_14 hc hZ _ _ _ _ _ h
theorem m_X2_fewestTunings {l : Launch} {g : kG} {N : Nat} {σ : kS} {x1 : Int32} {x2 : Int32} {Q : Int32 → kS → Prop} (h : w_X2_fewestTunings N σ x1 x2 Q) : kMi l g yX2_fewestTunings cX2_fewestTunings 6 (some .int) 1 [kz g 49, .int x1, .int x2] σ Q :=
  k_met_i (by decide +kernel) rfl (Nat.le_of_ble_eq_true rfl) (fun X hl hc hZ => s_X2_fewestTunings hc hZ h)
def b_X2_firstNightAlike_2 (N : Nat) (Q : Int32 → kS → Prop) (x1 : Int32) (x2 : Int32) (K : Int32 → kS → Prop) (x3 : Int32) (σ : kS) : Prop :=
  if 100 < x3 then (Q (-1000000) σ) else (w_X3_shiftBehind N σ 33 x3 (fun (r_2 : Int32) (σ_1 : kS) => w_X3_around N σ_1 33 (x2 + (x3 * x1)) (fun (r_4 : Int32) (σ_3 : kS) => if r_2 = r_4 then (Q x3 σ_3) else (∀ x3_5 : Int32, x3_5 = x3 + 1 → (K x3_5 σ_3)))))
def l_X2_firstNightAlike_2 (N : Nat) (Q : Int32 → kS → Prop) (x1 : Int32) (x2 : Int32) : Nat → Int32 → kS → Prop
  | 0 => fun _ _ => False
  | n + 1 => b_X2_firstNightAlike_2 N Q x1 x2 (l_X2_firstNightAlike_2 N Q x1 x2 n)
set_option maxHeartbeats 4000000 in
set_option maxRecDepth 100000 in
theorem sb_X2_firstNightAlike_2 {X : kX} {g : kG} {N : Nat} {Q : Int32 → kS → Prop} (hc : kOk X g RX2 cX2_firstNightAlike 4 (some .int) 2) (hZ : kRi X g cX2_firstNightAlike Q) {x1 : Int32} {x2 : Int32} {K : Int32 → kS → Prop} (hK : ∀ (x3 : Int32) (τ : kS), K x3 τ → kP X g 4 2 [(0, kz g 49), (1, .int x1), (2, .int x2), (3, .int x3)] [] τ) {x3 : Int32} {σ : kS} (h : b_X2_firstNightAlike_2 N Q x1 x2 K x3 σ) : kP X g 4 2 [(0, kz g 49), (1, .int x1), (2, .int x2), (3, .int x3)] [] σ := by
  unfold b_X2_firstNightAlike_2 at h
  refine r_iload_n hc 3 dX2_firstNightAlike_2 rfl ?_
  refine r_bipush (v := 100) hc dX2_firstNightAlike_3 rfl ?_
  refine r_ic_gt hc 39 dX2_firstNightAlike_5 (by decide) (fun q => ?_) (fun q => ?_)
  · have h := kif_t h q
    refine r_ldc hc lk_X2_31 dX2_firstNightAlike_39 ?_
    exact r_iret (ls0 := []) hZ dX2_firstNightAlike_41 h
  · have h := kif_f h q
    refine r_aload_n hc 0 dX2_firstNightAlike_8 rfl ?_
    refine gf_X2_0 hc lf_X2_23 dX2_firstNightAlike_9 ?_
    refine r_iload_n hc 3 dX2_firstNightAlike_12 rfl ?_
    refine r_callVi (d := 1) hc (m_X3_shiftBehind kH_33 h) cw_X3_shiftBehind wi_X3_shiftBehind ws_X3_shiftBehind lm_X2_27 (by decide) (by decide) (rv_X3 kH_33) rfl rfl (Nat.le_of_ble_eq_true rfl) dX2_firstNightAlike_13 (fun r_2 σ_1 h => ?_)
    refine r_aload_n hc 0 dX2_firstNightAlike_16 rfl ?_
    refine gf_X2_0 hc lf_X2_23 dX2_firstNightAlike_17 ?_
    refine r_iload_n hc 2 dX2_firstNightAlike_20 rfl ?_
    refine r_iload_n hc 3 dX2_firstNightAlike_21 rfl ?_
    refine r_iload_n hc 1 dX2_firstNightAlike_22 rfl ?_
    refine r_imul hc dX2_firstNightAlike_23 ?_
    refine r_iadd hc dX2_firstNightAlike_24 ?_
    refine r_callVi (d := 0) hc (m_X3_around kH_33 h) cw_X3_around wi_X3_around ws_X3_around lm_X2_40 (by decide) (by decide) (rv_X3 kH_33) rfl rfl (Nat.le_of_ble_eq_true rfl) dX2_firstNightAlike_25 (fun r_4 σ_3 h => ?_)
    refine r_ic_ne hc 33 dX2_firstNightAlike_28 (by decide) (fun q => ?_) (fun q => ?_)
    · have h := kif_t h q
      refine r_iload_n hc 3 dX2_firstNightAlike_31 rfl ?_
      exact r_iret (ls0 := []) hZ dX2_firstNightAlike_32 h
    · have h := kif_f h q
      obtain ⟨x3_5, ex3_5⟩ : ∃ v : Int32, v = x3 + 1 := ⟨_, rfl⟩
      have h := h x3_5 ex3_5
      refine r_iinc (v := x3_5) hc 3 [(3, .int x3_5), (0, kz g 49), (1, .int x1), (2, .int x2)] dX2_firstNightAlike_33 rfl (by rw [ex3_5]; rfl) (by decide) rfl ?_
      refine r_goto hc 2 dX2_firstNightAlike_36 (by decide) ?_
      refine r_sub [1, 2, 3, 0] rfl ?_
      exact hK _ _ h
theorem sl_X2_firstNightAlike_2 {X : kX} {g : kG} {N : Nat} {Q : Int32 → kS → Prop} (hc : kOk X g RX2 cX2_firstNightAlike 4 (some .int) 2) (hZ : kRi X g cX2_firstNightAlike Q) {x1 : Int32} {x2 : Int32} : ∀ (n : Nat) (x3 : Int32) (σ : kS), l_X2_firstNightAlike_2 N Q x1 x2 n x3 σ → kP X g 4 2 [(0, kz g 49), (1, .int x1), (2, .int x2), (3, .int x3)] [] σ := by
  intro n
  induction n with
  | zero => intro x3 σ h; exact h.elim
  | succ n ih => intro x3 σ h; exact sb_X2_firstNightAlike_2 hc hZ ih h
def w_X2_firstNightAlike (N : Nat) (σ : kS) (x1 : Int32) (x2 : Int32) (Q : Int32 → kS → Prop) : Prop :=
  l_X2_firstNightAlike_2 N Q x1 x2  N 0 σ
set_option maxHeartbeats 4000000 in
set_option maxRecDepth 100000 in
theorem s_X2_firstNightAlike {X : kX} {g : kG} {N : Nat} {Q : Int32 → kS → Prop} (hc : kOk X g RX2 cX2_firstNightAlike 4 (some .int) 2) (hZ : kRi X g cX2_firstNightAlike Q) {σ : kS} {x1 : Int32} {x2 : Int32} (h : w_X2_firstNightAlike N σ x1 x2 Q) : kP X g 4 0 [(0, kz g 49), (1, .int x1), (2, .int x2)] [] σ := by
  unfold w_X2_firstNightAlike at h
  refine r_iconst (v := 0) hc dX2_firstNightAlike_0 rfl ?_
  refine r_istore_n hc [(3, .int 0), (0, kz g 49), (1, .int x1), (2, .int x2)] dX2_firstNightAlike_1 (by decide) rfl ?_
  refine r_sub [1, 2, 3, 0] rfl ?_
  refine sl_X2_firstNightAlike_2 hc hZ _ _ _ h
theorem m_X2_firstNightAlike {l : Launch} {g : kG} {N : Nat} {σ : kS} {x1 : Int32} {x2 : Int32} {Q : Int32 → kS → Prop} (h : w_X2_firstNightAlike N σ x1 x2 Q) : kMi l g yX2_firstNightAlike cX2_firstNightAlike 4 (some .int) 2 [kz g 49, .int x1, .int x2] σ Q :=
  k_met_i (by decide +kernel) rfl (Nat.le_of_ble_eq_true rfl) (fun X hl hc hZ => s_X2_firstNightAlike hc hZ h)
def b_X2_choices_5 (N : Nat) (Q : Int64 → kS → Prop) (x0 : Int32) (x1 : Int32) (K : Int64 → Int32 → kS → Prop) (x2 : Int64) (x4 : Int32) (σ : kS) : Prop :=
  if x1 < x4 then (Q x2 σ) else (¬ (x4.toInt64) = 0 ∧ (∀ x2_2 : Int64, x2_2 = (x2 * (((x0 - x1) + x4).toInt64)) / (x4.toInt64) → (∀ x4_3 : Int32, x4_3 = x4 + 1 → (K x2_2 x4_3 σ))))
def l_X2_choices_5 (N : Nat) (Q : Int64 → kS → Prop) (x0 : Int32) (x1 : Int32) : Nat → Int64 → Int32 → kS → Prop
  | 0 => fun _ _ _ => False
  | n + 1 => b_X2_choices_5 N Q x0 x1 (l_X2_choices_5 N Q x0 x1 n)
set_option maxHeartbeats 4000000 in
set_option maxRecDepth 100000 in
theorem sb_X2_choices_5 {X : kX} {g : kG} {N : Nat} {Q : Int64 → kS → Prop} (hc : kOk X g RX2 cX2_choices 5 (some .long) 0) (hZ : kRl X g cX2_choices Q) {x0 : Int32} {x1 : Int32} {K : Int64 → Int32 → kS → Prop} (hK : ∀ (x2 : Int64) (x4 : Int32) (τ : kS), K x2 x4 τ → kP X g 5 5 [(0, .int x0), (1, .int x1), (2, .long x2), (4, .int x4)] [] τ) {x2 : Int64} {x4 : Int32} {σ : kS} (h : b_X2_choices_5 N Q x0 x1 K x2 x4 σ) : kP X g 5 5 [(0, .int x0), (1, .int x1), (2, .long x2), (4, .int x4)] [] σ := by
  unfold b_X2_choices_5 at h
  refine r_iload hc 3 dX2_choices_5 rfl ?_
  refine r_iload_n hc 1 dX2_choices_7 rfl ?_
  refine r_ic_gt hc 31 dX2_choices_8 (by decide) (fun q => ?_) (fun q => ?_)
  · have h := kif_t h q
    refine r_lload_n hc 2 dX2_choices_31 rfl ?_
    exact r_lret (ls0 := []) hZ dX2_choices_32 h
  · have h := kif_f h q
    refine r_lload_n hc 2 dX2_choices_11 rfl ?_
    refine r_iload_n hc 0 dX2_choices_12 rfl ?_
    refine r_iload_n hc 1 dX2_choices_13 rfl ?_
    refine r_isub hc dX2_choices_14 ?_
    refine r_iload hc 3 dX2_choices_15 rfl ?_
    refine r_iadd hc dX2_choices_17 ?_
    refine r_i2l hc dX2_choices_18 ?_
    refine r_lmul hc dX2_choices_19 ?_
    refine r_iload hc 3 dX2_choices_20 rfl ?_
    refine r_i2l hc dX2_choices_22 ?_
    obtain ⟨hn_1, h⟩ := h
    refine r_ldiv hc dX2_choices_23 hn_1 ?_
    refine r_nmJ (fun x2_2 ex2_2 => ?_)
    have h := h x2_2 ex2_2
    refine r_lstore_n hc [(2, .long x2_2), (0, .int x0), (1, .int x1), (4, .int x4)] dX2_choices_24 (by decide) rfl ?_
    obtain ⟨x4_3, ex4_3⟩ : ∃ v : Int32, v = x4 + 1 := ⟨_, rfl⟩
    have h := h x4_3 ex4_3
    refine r_iinc (v := x4_3) hc 3 [(4, .int x4_3), (2, .long x2_2), (0, .int x0), (1, .int x1)] dX2_choices_25 rfl (by rw [ex4_3]; rfl) (by decide) rfl ?_
    refine r_goto hc 5 dX2_choices_28 (by decide) ?_
    refine r_sub [2, 3, 1, 0] rfl ?_
    exact hK _ _ _ h
theorem sl_X2_choices_5 {X : kX} {g : kG} {N : Nat} {Q : Int64 → kS → Prop} (hc : kOk X g RX2 cX2_choices 5 (some .long) 0) (hZ : kRl X g cX2_choices Q) {x0 : Int32} {x1 : Int32} : ∀ (n : Nat) (x2 : Int64) (x4 : Int32) (σ : kS), l_X2_choices_5 N Q x0 x1 n x2 x4 σ → kP X g 5 5 [(0, .int x0), (1, .int x1), (2, .long x2), (4, .int x4)] [] σ := by
  intro n
  induction n with
  | zero => intro x2 x4 σ h; exact h.elim
  | succ n ih => intro x2 x4 σ h; exact sb_X2_choices_5 hc hZ ih h
def w_X2_choices (N : Nat) (σ : kS) (x0 : Int32) (x1 : Int32) (Q : Int64 → kS → Prop) : Prop :=
  l_X2_choices_5 N Q x0 x1  N 1 1 σ
set_option maxHeartbeats 4000000 in
set_option maxRecDepth 100000 in
theorem s_X2_choices {X : kX} {g : kG} {N : Nat} {Q : Int64 → kS → Prop} (hc : kOk X g RX2 cX2_choices 5 (some .long) 0) (hZ : kRl X g cX2_choices Q) {σ : kS} {x0 : Int32} {x1 : Int32} (h : w_X2_choices N σ x0 x1 Q) : kP X g 5 0 [(0, .int x0), (1, .int x1)] [] σ := by
  unfold w_X2_choices at h
  refine r_lconst (v := 1) hc dX2_choices_0 rfl ?_
  refine r_lstore_n hc [(2, .long 1), (0, .int x0), (1, .int x1)] dX2_choices_1 (by decide) rfl ?_
  refine r_iconst (v := 1) hc dX2_choices_2 rfl ?_
  refine r_istore hc [(4, .int 1), (2, .long 1), (0, .int x0), (1, .int x1)] dX2_choices_3 (by decide) rfl ?_
  refine r_sub [2, 3, 1, 0] rfl ?_
  refine sl_X2_choices_5 hc hZ _ _ _ _ h
theorem m_X2_choices {l : Launch} {g : kG} {N : Nat} {σ : kS} {x0 : Int32} {x1 : Int32} {Q : Int64 → kS → Prop} (h : w_X2_choices N σ x0 x1 Q) : kMl l g yX2_choices cX2_choices 5 (some .long) 0 [.int x0, .int x1] σ Q :=
  k_met_l (by decide +kernel) rfl (Nat.le_of_ble_eq_true rfl) (fun X hl hc hZ => s_X2_choices hc hZ h)
def b_X2_power_5 (N : Nat) (Q : Int64 → kS → Prop) (x0 : Int32) (x1 : Int32) (K : Int64 → Int32 → kS → Prop) (x2 : Int64) (x4 : Int32) (σ : kS) : Prop :=
  if x1 ≤ x4 then (Q x2 σ) else (∀ x2_1 : Int64, x2_1 = x2 * (x0.toInt64) → (∀ x4_2 : Int32, x4_2 = x4 + 1 → (K x2_1 x4_2 σ)))
def l_X2_power_5 (N : Nat) (Q : Int64 → kS → Prop) (x0 : Int32) (x1 : Int32) : Nat → Int64 → Int32 → kS → Prop
  | 0 => fun _ _ _ => False
  | n + 1 => b_X2_power_5 N Q x0 x1 (l_X2_power_5 N Q x0 x1 n)
set_option maxHeartbeats 4000000 in
set_option maxRecDepth 100000 in
theorem sb_X2_power_5 {X : kX} {g : kG} {N : Nat} {Q : Int64 → kS → Prop} (hc : kOk X g RX2 cX2_power 5 (some .long) 0) (hZ : kRl X g cX2_power Q) {x0 : Int32} {x1 : Int32} {K : Int64 → Int32 → kS → Prop} (hK : ∀ (x2 : Int64) (x4 : Int32) (τ : kS), K x2 x4 τ → kP X g 5 5 [(0, .int x0), (1, .int x1), (2, .long x2), (4, .int x4)] [] τ) {x2 : Int64} {x4 : Int32} {σ : kS} (h : b_X2_power_5 N Q x0 x1 K x2 x4 σ) : kP X g 5 5 [(0, .int x0), (1, .int x1), (2, .long x2), (4, .int x4)] [] σ := by
  unfold b_X2_power_5 at h
  refine r_iload hc 3 dX2_power_5 rfl ?_
  refine r_iload_n hc 1 dX2_power_7 rfl ?_
  refine r_ic_ge hc 22 dX2_power_8 (by decide) (fun q => ?_) (fun q => ?_)
  · have h := kif_t h q
    refine r_lload_n hc 2 dX2_power_22 rfl ?_
    exact r_lret (ls0 := []) hZ dX2_power_23 h
  · have h := kif_f h q
    refine r_lload_n hc 2 dX2_power_11 rfl ?_
    refine r_iload_n hc 0 dX2_power_12 rfl ?_
    refine r_i2l hc dX2_power_13 ?_
    refine r_lmul hc dX2_power_14 ?_
    refine r_nmJ (fun x2_1 ex2_1 => ?_)
    have h := h x2_1 ex2_1
    refine r_lstore_n hc [(2, .long x2_1), (0, .int x0), (1, .int x1), (4, .int x4)] dX2_power_15 (by decide) rfl ?_
    obtain ⟨x4_2, ex4_2⟩ : ∃ v : Int32, v = x4 + 1 := ⟨_, rfl⟩
    have h := h x4_2 ex4_2
    refine r_iinc (v := x4_2) hc 3 [(4, .int x4_2), (2, .long x2_1), (0, .int x0), (1, .int x1)] dX2_power_16 rfl (by rw [ex4_2]; rfl) (by decide) rfl ?_
    refine r_goto hc 5 dX2_power_19 (by decide) ?_
    refine r_sub [2, 3, 1, 0] rfl ?_
    exact hK _ _ _ h
theorem sl_X2_power_5 {X : kX} {g : kG} {N : Nat} {Q : Int64 → kS → Prop} (hc : kOk X g RX2 cX2_power 5 (some .long) 0) (hZ : kRl X g cX2_power Q) {x0 : Int32} {x1 : Int32} : ∀ (n : Nat) (x2 : Int64) (x4 : Int32) (σ : kS), l_X2_power_5 N Q x0 x1 n x2 x4 σ → kP X g 5 5 [(0, .int x0), (1, .int x1), (2, .long x2), (4, .int x4)] [] σ := by
  intro n
  induction n with
  | zero => intro x2 x4 σ h; exact h.elim
  | succ n ih => intro x2 x4 σ h; exact sb_X2_power_5 hc hZ ih h
def w_X2_power (N : Nat) (σ : kS) (x0 : Int32) (x1 : Int32) (Q : Int64 → kS → Prop) : Prop :=
  l_X2_power_5 N Q x0 x1  N 1 0 σ
set_option maxHeartbeats 4000000 in
set_option maxRecDepth 100000 in
theorem s_X2_power {X : kX} {g : kG} {N : Nat} {Q : Int64 → kS → Prop} (hc : kOk X g RX2 cX2_power 5 (some .long) 0) (hZ : kRl X g cX2_power Q) {σ : kS} {x0 : Int32} {x1 : Int32} (h : w_X2_power N σ x0 x1 Q) : kP X g 5 0 [(0, .int x0), (1, .int x1)] [] σ := by
  unfold w_X2_power at h
  refine r_lconst (v := 1) hc dX2_power_0 rfl ?_
  refine r_lstore_n hc [(2, .long 1), (0, .int x0), (1, .int x1)] dX2_power_1 (by decide) rfl ?_
  refine r_iconst (v := 0) hc dX2_power_2 rfl ?_
  refine r_istore hc [(4, .int 0), (2, .long 1), (0, .int x0), (1, .int x1)] dX2_power_3 (by decide) rfl ?_
  refine r_sub [2, 3, 1, 0] rfl ?_
  refine sl_X2_power_5 hc hZ _ _ _ _ h
theorem m_X2_power {l : Launch} {g : kG} {N : Nat} {σ : kS} {x0 : Int32} {x1 : Int32} {Q : Int64 → kS → Prop} (h : w_X2_power N σ x0 x1 Q) : kMl l g yX2_power cX2_power 5 (some .long) 0 [.int x0, .int x1] σ Q :=
  k_met_l (by decide +kernel) rfl (Nat.le_of_ble_eq_true rfl) (fun X hl hc hZ => s_X2_power hc hZ h)
def b_X2_tenthsRight_6 (N : Nat) (Q : Int64 → kS → Prop) (x1 : Int32) (x2 : Int32) (x3 : Int32) (K : Int64 → Int32 → kS → Prop) (x4 : Int64) (x6 : Int32) (σ : kS) : Prop :=
  if x3 < x6 then (Q x4 σ) else (w_X3_shiftBehind N σ 33 x3 (fun (r_2 : Int32) (σ_1 : kS) => w_X3_around N σ_1 33 (r_2 + x6) (fun (r_4 : Int32) (σ_3 : kS) => if r_4 = x1 then (w_X2_choices N σ_3 x3 x6 (fun (r_6 : Int64) (σ_5 : kS) => w_X2_power N σ_5 x2 x6 (fun (r_8 : Int64) (σ_7 : kS) => w_X2_power N σ_7 (10 - x2) (x3 - x6) (fun (r_10 : Int64) (σ_9 : kS) => ∀ x4_11 : Int64, x4_11 = x4 + ((r_6 * r_8) * r_10) → (∀ x6_12 : Int32, x6_12 = x6 + 1 → (K x4_11 x6_12 σ_9)))))) else (∀ x6_13 : Int32, x6_13 = x6 + 1 → (K x4 x6_13 σ_3)))))
def l_X2_tenthsRight_6 (N : Nat) (Q : Int64 → kS → Prop) (x1 : Int32) (x2 : Int32) (x3 : Int32) : Nat → Int64 → Int32 → kS → Prop
  | 0 => fun _ _ _ => False
  | n + 1 => b_X2_tenthsRight_6 N Q x1 x2 x3 (l_X2_tenthsRight_6 N Q x1 x2 x3 n)
set_option maxHeartbeats 4000000 in
set_option maxRecDepth 100000 in
theorem sb_X2_tenthsRight_6 {X : kX} {g : kG} {N : Nat} {Q : Int64 → kS → Prop} (hc : kOk X g RX2 cX2_tenthsRight 7 (some .long) 2) (hZ : kRl X g cX2_tenthsRight Q) {x1 : Int32} {x2 : Int32} {x3 : Int32} {K : Int64 → Int32 → kS → Prop} (hK : ∀ (x4 : Int64) (x6 : Int32) (τ : kS), K x4 x6 τ → kP X g 7 6 [(0, kz g 49), (1, .int x1), (2, .int x2), (3, .int x3), (4, .long x4), (6, .int x6)] [] τ) {x4 : Int64} {x6 : Int32} {σ : kS} (h : b_X2_tenthsRight_6 N Q x1 x2 x3 K x4 x6 σ) : kP X g 7 6 [(0, kz g 49), (1, .int x1), (2, .int x2), (3, .int x3), (4, .long x4), (6, .int x6)] [] σ := by
  unfold b_X2_tenthsRight_6 at h
  refine r_iload hc 5 dX2_tenthsRight_6 rfl ?_
  refine r_iload_n hc 3 dX2_tenthsRight_8 rfl ?_
  refine r_ic_gt hc 70 dX2_tenthsRight_9 (by decide) (fun q => ?_) (fun q => ?_)
  · have h := kif_t h q
    refine r_lload hc 4 dX2_tenthsRight_70 rfl ?_
    exact r_lret (ls0 := []) hZ dX2_tenthsRight_72 h
  · have h := kif_f h q
    refine r_aload_n hc 0 dX2_tenthsRight_12 rfl ?_
    refine gf_X2_0 hc lf_X2_23 dX2_tenthsRight_13 ?_
    refine r_aload_n hc 0 dX2_tenthsRight_16 rfl ?_
    refine gf_X2_0 hc lf_X2_23 dX2_tenthsRight_17 ?_
    refine r_iload_n hc 3 dX2_tenthsRight_20 rfl ?_
    refine r_callVi (d := 1) hc (m_X3_shiftBehind kH_33 h) cw_X3_shiftBehind wi_X3_shiftBehind ws_X3_shiftBehind lm_X2_27 (by decide) (by decide) (rv_X3 kH_33) rfl rfl (Nat.le_of_ble_eq_true rfl) dX2_tenthsRight_21 (fun r_2 σ_1 h => ?_)
    refine r_iload hc 5 dX2_tenthsRight_24 rfl ?_
    refine r_iadd hc dX2_tenthsRight_26 ?_
    refine r_callVi (d := 0) hc (m_X3_around kH_33 h) cw_X3_around wi_X3_around ws_X3_around lm_X2_40 (by decide) (by decide) (rv_X3 kH_33) rfl rfl (Nat.le_of_ble_eq_true rfl) dX2_tenthsRight_27 (fun r_4 σ_3 h => ?_)
    refine r_iload_n hc 1 dX2_tenthsRight_30 rfl ?_
    refine r_ic_ne hc 64 dX2_tenthsRight_31 (by decide) (fun q => ?_) (fun q => ?_)
    · have h := kif_t h q
      refine r_lload hc 4 dX2_tenthsRight_34 rfl ?_
      refine r_iload_n hc 3 dX2_tenthsRight_36 rfl ?_
      refine r_iload hc 5 dX2_tenthsRight_37 rfl ?_
      refine r_callSl (d := 0) hc (m_X2_choices h) cw_X2_choices wt_X2_choices lm_X2_119 (by decide) (by decide) rfl rfl (Nat.le_of_ble_eq_true rfl) dX2_tenthsRight_39 (fun r_6 σ_5 h => ?_)
      refine r_iload_n hc 2 dX2_tenthsRight_42 rfl ?_
      refine r_iload hc 5 dX2_tenthsRight_43 rfl ?_
      refine r_callSl (d := 0) hc (m_X2_power h) cw_X2_power wt_X2_power lm_X2_123 (by decide) (by decide) rfl rfl (Nat.le_of_ble_eq_true rfl) dX2_tenthsRight_45 (fun r_8 σ_7 h => ?_)
      refine r_lmul hc dX2_tenthsRight_48 ?_
      refine r_bipush (v := 10) hc dX2_tenthsRight_49 rfl ?_
      refine r_iload_n hc 2 dX2_tenthsRight_51 rfl ?_
      refine r_isub hc dX2_tenthsRight_52 ?_
      refine r_iload_n hc 3 dX2_tenthsRight_53 rfl ?_
      refine r_iload hc 5 dX2_tenthsRight_54 rfl ?_
      refine r_isub hc dX2_tenthsRight_56 ?_
      refine r_callSl (d := 0) hc (m_X2_power h) cw_X2_power wt_X2_power lm_X2_123 (by decide) (by decide) rfl rfl (Nat.le_of_ble_eq_true rfl) dX2_tenthsRight_57 (fun r_10 σ_9 h => ?_)
      refine r_lmul hc dX2_tenthsRight_60 ?_
      refine r_ladd hc dX2_tenthsRight_61 ?_
      refine r_nmJ (fun x4_11 ex4_11 => ?_)
      have h := h x4_11 ex4_11
      refine r_lstore hc [(4, .long x4_11), (0, kz g 49), (1, .int x1), (2, .int x2), (3, .int x3), (6, .int x6)] dX2_tenthsRight_62 (by decide) rfl ?_
      obtain ⟨x6_12, ex6_12⟩ : ∃ v : Int32, v = x6 + 1 := ⟨_, rfl⟩
      have h := h x6_12 ex6_12
      refine r_iinc (v := x6_12) hc 5 [(6, .int x6_12), (4, .long x4_11), (0, kz g 49), (1, .int x1), (2, .int x2), (3, .int x3)] dX2_tenthsRight_64 rfl (by rw [ex6_12]; rfl) (by decide) rfl ?_
      refine r_goto hc 6 dX2_tenthsRight_67 (by decide) ?_
      refine r_sub [2, 3, 4, 5, 1, 0] rfl ?_
      exact hK _ _ _ h
    · have h := kif_f h q
      obtain ⟨x6_13, ex6_13⟩ : ∃ v : Int32, v = x6 + 1 := ⟨_, rfl⟩
      have h := h x6_13 ex6_13
      refine r_iinc (v := x6_13) hc 5 [(6, .int x6_13), (0, kz g 49), (1, .int x1), (2, .int x2), (3, .int x3), (4, .long x4)] dX2_tenthsRight_64 rfl (by rw [ex6_13]; rfl) (by decide) rfl ?_
      refine r_goto hc 6 dX2_tenthsRight_67 (by decide) ?_
      refine r_sub [1, 2, 3, 4, 5, 0] rfl ?_
      exact hK _ _ _ h
theorem sl_X2_tenthsRight_6 {X : kX} {g : kG} {N : Nat} {Q : Int64 → kS → Prop} (hc : kOk X g RX2 cX2_tenthsRight 7 (some .long) 2) (hZ : kRl X g cX2_tenthsRight Q) {x1 : Int32} {x2 : Int32} {x3 : Int32} : ∀ (n : Nat) (x4 : Int64) (x6 : Int32) (σ : kS), l_X2_tenthsRight_6 N Q x1 x2 x3 n x4 x6 σ → kP X g 7 6 [(0, kz g 49), (1, .int x1), (2, .int x2), (3, .int x3), (4, .long x4), (6, .int x6)] [] σ := by
  intro n
  induction n with
  | zero => intro x4 x6 σ h; exact h.elim
  | succ n ih => intro x4 x6 σ h; exact sb_X2_tenthsRight_6 hc hZ ih h
def w_X2_tenthsRight (N : Nat) (σ : kS) (x1 : Int32) (x2 : Int32) (x3 : Int32) (Q : Int64 → kS → Prop) : Prop :=
  l_X2_tenthsRight_6 N Q x1 x2 x3  N 0 0 σ
set_option maxHeartbeats 4000000 in
set_option maxRecDepth 100000 in
theorem s_X2_tenthsRight {X : kX} {g : kG} {N : Nat} {Q : Int64 → kS → Prop} (hc : kOk X g RX2 cX2_tenthsRight 7 (some .long) 2) (hZ : kRl X g cX2_tenthsRight Q) {σ : kS} {x1 : Int32} {x2 : Int32} {x3 : Int32} (h : w_X2_tenthsRight N σ x1 x2 x3 Q) : kP X g 7 0 [(0, kz g 49), (1, .int x1), (2, .int x2), (3, .int x3)] [] σ := by
  unfold w_X2_tenthsRight at h
  refine r_lconst (v := 0) hc dX2_tenthsRight_0 rfl ?_
  refine r_lstore hc [(4, .long 0), (0, kz g 49), (1, .int x1), (2, .int x2), (3, .int x3)] dX2_tenthsRight_1 (by decide) rfl ?_
  refine r_iconst (v := 0) hc dX2_tenthsRight_3 rfl ?_
  refine r_istore hc [(6, .int 0), (4, .long 0), (0, kz g 49), (1, .int x1), (2, .int x2), (3, .int x3)] dX2_tenthsRight_4 (by decide) rfl ?_
  refine r_sub [2, 3, 4, 5, 1, 0] rfl ?_
  refine sl_X2_tenthsRight_6 hc hZ _ _ _ _ h
theorem m_X2_tenthsRight {l : Launch} {g : kG} {N : Nat} {σ : kS} {x1 : Int32} {x2 : Int32} {x3 : Int32} {Q : Int64 → kS → Prop} (h : w_X2_tenthsRight N σ x1 x2 x3 Q) : kMl l g yX2_tenthsRight cX2_tenthsRight 7 (some .long) 2 [kz g 49, .int x1, .int x2, .int x3] σ Q :=
  k_met_l (by decide +kernel) rfl (Nat.le_of_ble_eq_true rfl) (fun X hl hc hZ => s_X2_tenthsRight hc hZ h)
def b_X2_biasesOfAll_4 (N : Nat) (Q : Int32 → kS → Prop) (K : Int32 → Int32 → kS → Prop) (x1 : Int32) (x2 : Int32) (σ : kS) : Prop :=
  if (σ 33 10) ≤ x2 then (Q x1 σ) else (w_X3_biasOf N σ 33 x2 (fun (r_2 : Int32) (σ_1 : kS) => ∀ x1_3 : Int32, x1_3 = x1 ||| (1 <<< (r_2 &&& 31)) → (∀ x2_4 : Int32, x2_4 = x2 + 1 → (K x1_3 x2_4 σ_1))))
def l_X2_biasesOfAll_4 (N : Nat) (Q : Int32 → kS → Prop) : Nat → Int32 → Int32 → kS → Prop
  | 0 => fun _ _ _ => False
  | n + 1 => b_X2_biasesOfAll_4 N Q (l_X2_biasesOfAll_4 N Q n)
set_option maxHeartbeats 4000000 in
set_option maxRecDepth 100000 in
theorem sb_X2_biasesOfAll_4 {X : kX} {g : kG} {N : Nat} {Q : Int32 → kS → Prop} (hc : kOk X g RX2 cX2_biasesOfAll 3 (some .int) 3) (hZ : kRi X g cX2_biasesOfAll Q) {K : Int32 → Int32 → kS → Prop} (hK : ∀ (x1 : Int32) (x2 : Int32) (τ : kS), K x1 x2 τ → kP X g 3 4 [(0, kz g 49), (1, .int x1), (2, .int x2)] [] τ) {x1 : Int32} {x2 : Int32} {σ : kS} (h : b_X2_biasesOfAll_4 N Q K x1 x2 σ) : kP X g 3 4 [(0, kz g 49), (1, .int x1), (2, .int x2)] [] σ := by
  unfold b_X2_biasesOfAll_4 at h
  refine r_iload_n hc 2 dX2_biasesOfAll_4 rfl ?_
  refine r_aload_n hc 0 dX2_biasesOfAll_5 rfl ?_
  refine gf_X2_0 hc lf_X2_23 dX2_biasesOfAll_6 ?_
  refine gf_X3_10 hc kH_33 lf_X2_43 dX2_biasesOfAll_9 ?_
  refine r_ic_ge hc 34 dX2_biasesOfAll_12 (by decide) (fun q => ?_) (fun q => ?_)
  · have h := kif_t h q
    refine r_iload_n hc 1 dX2_biasesOfAll_34 rfl ?_
    exact r_iret (ls0 := []) hZ dX2_biasesOfAll_35 h
  · have h := kif_f h q
    refine r_iload_n hc 1 dX2_biasesOfAll_15 rfl ?_
    refine r_iconst (v := 1) hc dX2_biasesOfAll_16 rfl ?_
    refine r_aload_n hc 0 dX2_biasesOfAll_17 rfl ?_
    refine gf_X2_0 hc lf_X2_23 dX2_biasesOfAll_18 ?_
    refine r_iload_n hc 2 dX2_biasesOfAll_21 rfl ?_
    refine r_callVi (d := 2) hc (m_X3_biasOf kH_33 h) cw_X3_biasOf wi_X3_biasOf ws_X3_biasOf lm_X2_56 (by decide) (by decide) (rv_X3 kH_33) rfl rfl (Nat.le_of_ble_eq_true rfl) dX2_biasesOfAll_22 (fun r_2 σ_1 h => ?_)
    refine r_ishl hc dX2_biasesOfAll_25 ?_
    refine r_ior hc dX2_biasesOfAll_26 ?_
    refine r_nmI (fun x1_3 ex1_3 => ?_)
    have h := h x1_3 ex1_3
    refine r_istore_n hc [(1, .int x1_3), (0, kz g 49), (2, .int x2)] dX2_biasesOfAll_27 (by decide) rfl ?_
    obtain ⟨x2_4, ex2_4⟩ : ∃ v : Int32, v = x2 + 1 := ⟨_, rfl⟩
    have h := h x2_4 ex2_4
    refine r_iinc (v := x2_4) hc 2 [(2, .int x2_4), (1, .int x1_3), (0, kz g 49)] dX2_biasesOfAll_28 rfl (by rw [ex2_4]; rfl) (by decide) rfl ?_
    refine r_goto hc 4 dX2_biasesOfAll_31 (by decide) ?_
    refine r_sub [2, 1, 0] rfl ?_
    exact hK _ _ _ h
theorem sl_X2_biasesOfAll_4 {X : kX} {g : kG} {N : Nat} {Q : Int32 → kS → Prop} (hc : kOk X g RX2 cX2_biasesOfAll 3 (some .int) 3) (hZ : kRi X g cX2_biasesOfAll Q) : ∀ (n : Nat) (x1 : Int32) (x2 : Int32) (σ : kS), l_X2_biasesOfAll_4 N Q n x1 x2 σ → kP X g 3 4 [(0, kz g 49), (1, .int x1), (2, .int x2)] [] σ := by
  intro n
  induction n with
  | zero => intro x1 x2 σ h; exact h.elim
  | succ n ih => intro x1 x2 σ h; exact sb_X2_biasesOfAll_4 hc hZ ih h
def w_X2_biasesOfAll (N : Nat) (σ : kS) (Q : Int32 → kS → Prop) : Prop :=
  l_X2_biasesOfAll_4 N Q  N 0 0 σ
set_option maxHeartbeats 4000000 in
set_option maxRecDepth 100000 in
theorem s_X2_biasesOfAll {X : kX} {g : kG} {N : Nat} {Q : Int32 → kS → Prop} (hc : kOk X g RX2 cX2_biasesOfAll 3 (some .int) 3) (hZ : kRi X g cX2_biasesOfAll Q) {σ : kS} (h : w_X2_biasesOfAll N σ Q) : kP X g 3 0 [(0, kz g 49)] [] σ := by
  unfold w_X2_biasesOfAll at h
  refine r_iconst (v := 0) hc dX2_biasesOfAll_0 rfl ?_
  refine r_istore_n hc [(1, .int 0), (0, kz g 49)] dX2_biasesOfAll_1 (by decide) rfl ?_
  refine r_iconst (v := 0) hc dX2_biasesOfAll_2 rfl ?_
  refine r_istore_n hc [(2, .int 0), (1, .int 0), (0, kz g 49)] dX2_biasesOfAll_3 (by decide) rfl ?_
  refine r_sub [2, 1, 0] rfl ?_
  refine sl_X2_biasesOfAll_4 hc hZ _ _ _ _ h
theorem m_X2_biasesOfAll {l : Launch} {g : kG} {N : Nat} {σ : kS} {Q : Int32 → kS → Prop} (h : w_X2_biasesOfAll N σ Q) : kMi l g yX2_biasesOfAll cX2_biasesOfAll 3 (some .int) 3 [kz g 49] σ Q :=
  k_met_i (by decide +kernel) rfl (Nat.le_of_ble_eq_true rfl) (fun X hl hc hZ => s_X2_biasesOfAll hc hZ h)
def j_X2_nightsByDraws_76 (N : Nat) (Q : Int32 → kS → Prop) (x1 : Int32) (x3 : Int32) (x4 : Int64) (x6 : Int32) (x7 : Int32) (x8 : Int32) (x9 : Int32) (K : Int64 → Int32 → Int32 → Int32 → kS → Prop) (σ : kS) : Prop :=
  w_X3_around N σ 33 (x6 + (σ 33 6)) (fun (r_13 : Int32) (σ_12 : kS) => ∀ x8_14 : Int32, x8_14 = x8 + ((x7 >>> (r_13 &&& 31)) &&& 1) → (∀ x9_15 : Int32, x9_15 = x9 + 1 → (K x4 r_13 x8_14 x9_15 σ_12)))
set_option maxHeartbeats 4000000 in
set_option maxRecDepth 100000 in
theorem sj_X2_nightsByDraws_76 {X : kX} {g : kG} {N : Nat} {Q : Int32 → kS → Prop} (hc : kOk X g RX2 cX2_nightsByDraws 10 (some .int) 4) (hZ : kRi X g cX2_nightsByDraws Q) {x1 : Int32} {x3 : Int32} {x4 : Int64} {x6 : Int32} {x7 : Int32} {x8 : Int32} {x9 : Int32} {K : Int64 → Int32 → Int32 → Int32 → kS → Prop} (hK : ∀ (x4 : Int64) (x6 : Int32) (x8 : Int32) (x9 : Int32) (τ : kS), K x4 x6 x8 x9 τ → kP X g 10 25 [(0, kz g 49), (1, .int x1), (3, .int x3), (4, .long x4), (6, .int x6), (7, .int x7), (8, .int x8), (9, .int x9)] [] τ) {σ : kS} (h : j_X2_nightsByDraws_76 N Q x1 x3 x4 x6 x7 x8 x9 K σ) : kP X g 10 76 [(0, kz g 49), (1, .int x1), (3, .int x3), (4, .long x4), (6, .int x6), (7, .int x7), (8, .int x8), (9, .int x9)] [] σ := by
  unfold j_X2_nightsByDraws_76 at h
  refine r_aload_n hc 0 dX2_nightsByDraws_76 rfl ?_
  refine gf_X2_0 hc lf_X2_23 dX2_nightsByDraws_77 ?_
  refine r_iload hc 4 dX2_nightsByDraws_80 rfl ?_
  refine r_aload_n hc 0 dX2_nightsByDraws_82 rfl ?_
  refine gf_X2_0 hc lf_X2_23 dX2_nightsByDraws_83 ?_
  refine gf_X3_6 hc kH_33 lf_X2_96 dX2_nightsByDraws_86 ?_
  refine r_iadd hc dX2_nightsByDraws_89 ?_
  refine r_callVi (d := 0) hc (m_X3_around kH_33 h) cw_X3_around wi_X3_around ws_X3_around lm_X2_40 (by decide) (by decide) (rv_X3 kH_33) rfl rfl (Nat.le_of_ble_eq_true rfl) dX2_nightsByDraws_90 (fun r_13 σ_12 h => ?_)
  refine r_istore hc [(6, .int r_13), (0, kz g 49), (1, .int x1), (3, .int x3), (4, .long x4), (7, .int x7), (8, .int x8), (9, .int x9)] dX2_nightsByDraws_93 (by decide) rfl ?_
  refine r_iload hc 6 dX2_nightsByDraws_95 rfl ?_
  refine r_iload hc 5 dX2_nightsByDraws_97 rfl ?_
  refine r_iload hc 0 dX2_nightsByDraws_99 rfl ?_
  refine r_ishr hc dX2_nightsByDraws_101 ?_
  refine r_iconst (v := 1) hc dX2_nightsByDraws_102 rfl ?_
  refine r_iand hc dX2_nightsByDraws_103 ?_
  refine r_iadd hc dX2_nightsByDraws_104 ?_
  refine r_nmI (fun x8_14 ex8_14 => ?_)
  have h := h x8_14 ex8_14
  refine r_istore hc [(8, .int x8_14), (6, .int r_13), (0, kz g 49), (1, .int x1), (3, .int x3), (4, .long x4), (7, .int x7), (9, .int x9)] dX2_nightsByDraws_105 (by decide) rfl ?_
  obtain ⟨x9_15, ex9_15⟩ : ∃ v : Int32, v = x9 + 1 := ⟨_, rfl⟩
  have h := h x9_15 ex9_15
  refine r_iinc (v := x9_15) hc 7 [(9, .int x9_15), (8, .int x8_14), (6, .int r_13), (0, kz g 49), (1, .int x1), (3, .int x3), (4, .long x4), (7, .int x7)] dX2_nightsByDraws_107 rfl (by rw [ex9_15]; rfl) (by decide) rfl ?_
  refine r_goto hc 25 dX2_nightsByDraws_110 (by decide) ?_
  refine r_sub [3, 4, 5, 6, 2, 7, 1, 0] rfl ?_
  exact hK _ _ _ _ _ h
def b_X2_nightsByDraws_25 (N : Nat) (Q : Int32 → kS → Prop) (x1 : Int32) (x3 : Int32) (x7 : Int32) (E113 : Int32 → Int32 → kS → Prop) (K : Int64 → Int32 → Int32 → Int32 → kS → Prop) (x4 : Int64) (x6 : Int32) (x8 : Int32) (x9 : Int32) (σ : kS) : Prop :=
  if x1 ≤ x9 then (E113 x6 x8 σ) else (¬ (2147483647 : Int64) = 0 ∧ (∀ x4_6 : Int64, x4_6 = kremL (x4 * 16807) 2147483647 → (¬ (5 : Int64) = 0 ∧ (if (lg_cmp (kremL x4_6 5) 0) = 0 then (w_X3_around N σ 33 (x4_6.toInt32) (fun (r_9 : Int32) (σ_8 : kS) => w_X3_around N σ_8 33 (x6 + r_9) (fun (r_11 : Int32) (σ_10 : kS) => j_X2_nightsByDraws_76 N Q x1 x3 x4_6 r_11 x7 x8 x9 K σ_10))) else (j_X2_nightsByDraws_76 N Q x1 x3 x4_6 x6 x7 x8 x9 K σ)))))
def l_X2_nightsByDraws_25 (N : Nat) (Q : Int32 → kS → Prop) (x1 : Int32) (x3 : Int32) (x7 : Int32) (E113 : Int32 → Int32 → kS → Prop) : Nat → Int64 → Int32 → Int32 → Int32 → kS → Prop
  | 0 => fun _ _ _ _ _ => False
  | n + 1 => b_X2_nightsByDraws_25 N Q x1 x3 x7 E113 (l_X2_nightsByDraws_25 N Q x1 x3 x7 E113 n)
set_option maxHeartbeats 4000000 in
set_option maxRecDepth 100000 in
theorem sb_X2_nightsByDraws_25 {X : kX} {g : kG} {N : Nat} {Q : Int32 → kS → Prop} (hc : kOk X g RX2 cX2_nightsByDraws 10 (some .int) 4) (hZ : kRi X g cX2_nightsByDraws Q) {x1 : Int32} {x3 : Int32} {x7 : Int32} {E113 : Int32 → Int32 → kS → Prop} (hE113 : ∀ (x6 : Int32) (x8 : Int32) (τ : kS), E113 x6 x8 τ → kP X g 10 113 [(3, .int x3), (6, .int x6), (8, .int x8)] [] τ) {K : Int64 → Int32 → Int32 → Int32 → kS → Prop} (hK : ∀ (x4 : Int64) (x6 : Int32) (x8 : Int32) (x9 : Int32) (τ : kS), K x4 x6 x8 x9 τ → kP X g 10 25 [(0, kz g 49), (1, .int x1), (3, .int x3), (4, .long x4), (6, .int x6), (7, .int x7), (8, .int x8), (9, .int x9)] [] τ) {x4 : Int64} {x6 : Int32} {x8 : Int32} {x9 : Int32} {σ : kS} (h : b_X2_nightsByDraws_25 N Q x1 x3 x7 E113 K x4 x6 x8 x9 σ) : kP X g 10 25 [(0, kz g 49), (1, .int x1), (3, .int x3), (4, .long x4), (6, .int x6), (7, .int x7), (8, .int x8), (9, .int x9)] [] σ := by
  unfold b_X2_nightsByDraws_25 at h
  refine r_iload hc 7 dX2_nightsByDraws_25 rfl ?_
  refine r_iload_n hc 1 dX2_nightsByDraws_27 rfl ?_
  refine r_ic_ge hc 113 dX2_nightsByDraws_28 (by decide) (fun q => ?_) (fun q => ?_)
  · have h := kif_t h q
    refine r_sub [2, 4, 6] rfl ?_
    exact hE113 _ _ _ h
  · have h := kif_f h q
    refine r_lload hc 3 dX2_nightsByDraws_31 rfl ?_
    refine r_ldc2_w hc lK_X2_129 dX2_nightsByDraws_33 ?_
    refine r_lmul hc dX2_nightsByDraws_36 ?_
    refine r_ldc2_w hc lK_X2_131 dX2_nightsByDraws_37 ?_
    obtain ⟨hn_5, h⟩ := h
    refine r_lrem hc dX2_nightsByDraws_40 hn_5 ?_
    refine r_nmJ (fun x4_6 ex4_6 => ?_)
    have h := h x4_6 ex4_6
    refine r_lstore hc [(4, .long x4_6), (0, kz g 49), (1, .int x1), (3, .int x3), (6, .int x6), (7, .int x7), (8, .int x8), (9, .int x9)] dX2_nightsByDraws_41 (by decide) rfl ?_
    refine r_lload hc 0 dX2_nightsByDraws_43 rfl ?_
    refine r_ldc2_w hc lK_X2_133 dX2_nightsByDraws_45 ?_
    obtain ⟨hn_7, h⟩ := h
    refine r_lrem hc dX2_nightsByDraws_48 hn_7 ?_
    refine r_lconst (v := 0) hc dX2_nightsByDraws_49 rfl ?_
    refine r_lcmp hc dX2_nightsByDraws_50 ?_
    refine r_if_ne hc 76 dX2_nightsByDraws_51 (by decide) (fun q => ?_) (fun q => ?_)
    · have h := kif_t h q
      refine r_aload_n hc 1 dX2_nightsByDraws_54 rfl ?_
      refine gf_X2_0 hc lf_X2_23 dX2_nightsByDraws_55 ?_
      refine r_iload hc 4 dX2_nightsByDraws_58 rfl ?_
      refine r_aload_n hc 1 dX2_nightsByDraws_60 rfl ?_
      refine gf_X2_0 hc lf_X2_23 dX2_nightsByDraws_61 ?_
      refine r_lload hc 0 dX2_nightsByDraws_64 rfl ?_
      refine r_l2i hc dX2_nightsByDraws_66 ?_
      refine r_callVi (d := 0) hc (m_X3_around kH_33 h) cw_X3_around wi_X3_around ws_X3_around lm_X2_40 (by decide) (by decide) (rv_X3 kH_33) rfl rfl (Nat.le_of_ble_eq_true rfl) dX2_nightsByDraws_67 (fun r_9 σ_8 h => ?_)
      refine r_iadd hc dX2_nightsByDraws_70 ?_
      refine r_callVi (d := 0) hc (m_X3_around kH_33 h) cw_X3_around wi_X3_around ws_X3_around lm_X2_40 (by decide) (by decide) (rv_X3 kH_33) rfl rfl (Nat.le_of_ble_eq_true rfl) dX2_nightsByDraws_71 (fun r_11 σ_10 h => ?_)
      refine r_istore hc [(6, .int r_11), (4, .long x4_6), (0, kz g 49), (1, .int x1), (3, .int x3), (7, .int x7), (8, .int x8), (9, .int x9)] dX2_nightsByDraws_74 (by decide) rfl ?_
      refine r_sub [2, 3, 4, 1, 0, 5, 6, 7] rfl ?_
      exact sj_X2_nightsByDraws_76 hc hZ hK h
    · have h := kif_f h q
      refine r_sub [1, 2, 3, 0, 4, 5, 6, 7] rfl ?_
      exact sj_X2_nightsByDraws_76 hc hZ hK h
theorem sl_X2_nightsByDraws_25 {X : kX} {g : kG} {N : Nat} {Q : Int32 → kS → Prop} (hc : kOk X g RX2 cX2_nightsByDraws 10 (some .int) 4) (hZ : kRi X g cX2_nightsByDraws Q) {x1 : Int32} {x3 : Int32} {x7 : Int32} {E113 : Int32 → Int32 → kS → Prop} (hE113 : ∀ (x6 : Int32) (x8 : Int32) (τ : kS), E113 x6 x8 τ → kP X g 10 113 [(3, .int x3), (6, .int x6), (8, .int x8)] [] τ) : ∀ (n : Nat) (x4 : Int64) (x6 : Int32) (x8 : Int32) (x9 : Int32) (σ : kS), l_X2_nightsByDraws_25 N Q x1 x3 x7 E113 n x4 x6 x8 x9 σ → kP X g 10 25 [(0, kz g 49), (1, .int x1), (3, .int x3), (4, .long x4), (6, .int x6), (7, .int x7), (8, .int x8), (9, .int x9)] [] σ := by
  intro n
  induction n with
  | zero => intro x4 x6 x8 x9 σ h; exact h.elim
  | succ n ih => intro x4 x6 x8 x9 σ h; exact sb_X2_nightsByDraws_25 hc hZ hE113 ih h
def w_X2_nightsByDraws (N : Nat) (σ : kS) (x1 : Int32) (x2 : Int32) (x3 : Int32) (Q : Int32 → kS → Prop) : Prop :=
  ∀ x4_1 : Int64, x4_1 = x2.toInt64 → (∀ x6_2 : Int32, x6_2 = σ 33 7 → (w_X2_biasesOfAll N σ (fun (r_4 : Int32) (σ_3 : kS) => l_X2_nightsByDraws_25 N Q x1 x3 r_4 (fun (x6_16 : Int32) (x8_17 : Int32) (σ_18 : kS) => if x3 = 0 then (Q x6_16 σ_18) else (Q x8_17 σ_18)) N x4_1 x6_2 0 0 σ_3)))
set_option maxHeartbeats 4000000 in
set_option maxRecDepth 100000 in
theorem s_X2_nightsByDraws {X : kX} {g : kG} {N : Nat} {Q : Int32 → kS → Prop} (hc : kOk X g RX2 cX2_nightsByDraws 10 (some .int) 4) (hZ : kRi X g cX2_nightsByDraws Q) {σ : kS} {x1 : Int32} {x2 : Int32} {x3 : Int32} (h : w_X2_nightsByDraws N σ x1 x2 x3 Q) : kP X g 10 0 [(0, kz g 49), (1, .int x1), (2, .int x2), (3, .int x3)] [] σ := by
  unfold w_X2_nightsByDraws at h
  refine r_iload_n hc 2 dX2_nightsByDraws_0 rfl ?_
  refine r_i2l hc dX2_nightsByDraws_1 ?_
  refine r_nmJ (fun x4_1 ex4_1 => ?_)
  have h := h x4_1 ex4_1
  refine r_lstore hc [(4, .long x4_1), (0, kz g 49), (1, .int x1), (2, .int x2), (3, .int x3)] dX2_nightsByDraws_2 (by decide) rfl ?_
  refine r_aload_n hc 1 dX2_nightsByDraws_4 rfl ?_
  refine gf_X2_0 hc lf_X2_23 dX2_nightsByDraws_5 ?_
  refine gf_X3_7 hc kH_33 lf_X2_49 dX2_nightsByDraws_8 ?_
  refine r_nmI (fun x6_2 ex6_2 => ?_)
  have h := h x6_2 ex6_2
  refine r_istore hc [(6, .int x6_2), (4, .long x4_1), (0, kz g 49), (1, .int x1), (2, .int x2), (3, .int x3)] dX2_nightsByDraws_11 (by decide) rfl ?_
  refine r_aload_n hc 2 dX2_nightsByDraws_13 rfl ?_
  refine r_callVi (d := 3) hc (m_X2_biasesOfAll h) cw_X2_biasesOfAll wi_X2_biasesOfAll ws_X2_biasesOfAll lm_X2_126 (by decide) (by decide) rv_X2 rfl rfl (Nat.le_of_ble_eq_true rfl) dX2_nightsByDraws_14 (fun r_4 σ_3 h => ?_)
  refine r_istore hc [(7, .int r_4), (6, .int x6_2), (4, .long x4_1), (0, kz g 49), (1, .int x1), (2, .int x2), (3, .int x3)] dX2_nightsByDraws_17 (by decide) rfl ?_
  refine r_iconst (v := 0) hc dX2_nightsByDraws_19 rfl ?_
  refine r_istore hc [(8, .int 0), (7, .int r_4), (6, .int x6_2), (4, .long x4_1), (0, kz g 49), (1, .int x1), (2, .int x2), (3, .int x3)] dX2_nightsByDraws_20 (by decide) rfl ?_
  refine r_iconst (v := 0) hc dX2_nightsByDraws_22 rfl ?_
  refine r_istore hc [(9, .int 0), (8, .int 0), (7, .int r_4), (6, .int x6_2), (4, .long x4_1), (0, kz g 49), (1, .int x1), (2, .int x2), (3, .int x3)] dX2_nightsByDraws_23 (by decide) rfl ?_
  refine r_sub [5, 6, 8, 4, 3, 2, 1, 0] rfl ?_
  refine sl_X2_nightsByDraws_25 hc hZ (fun x6_16 x8_17 σ_18 h => ?_) _ _ _ _ _ _ h
  refine r_iload_n hc 0 dX2_nightsByDraws_113 rfl ?_
  refine r_if_eq hc 122 dX2_nightsByDraws_114 (by decide) (fun q => ?_) (fun q => ?_)
  · have h := kif_t h q
    refine r_iload hc 1 dX2_nightsByDraws_122 rfl ?_
    exact r_iret (ls0 := []) hZ dX2_nightsByDraws_124 h
  · have h := kif_f h q
    refine r_iload hc 2 dX2_nightsByDraws_117 rfl ?_
    refine r_goto hc 124 dX2_nightsByDraws_119 (by decide) ?_
    exact r_iret (ls0 := []) hZ dX2_nightsByDraws_124 h
theorem m_X2_nightsByDraws {l : Launch} {g : kG} {N : Nat} {σ : kS} {x1 : Int32} {x2 : Int32} {x3 : Int32} {Q : Int32 → kS → Prop} (h : w_X2_nightsByDraws N σ x1 x2 x3 Q) : kMi l g yX2_nightsByDraws cX2_nightsByDraws 10 (some .int) 4 [kz g 49, .int x1, .int x2, .int x3] σ Q :=
  k_met_i (by decide +kernel) rfl (Nat.le_of_ble_eq_true rfl) (fun X hl hc hZ => s_X2_nightsByDraws hc hZ h)
