/-! ===== calls that change nothing, the first lot ===== -/
section R1
variable {N : Nat} {σ : kS} {H : Nat → Nat} {Q : Int32 → kS → Prop} {G : Int32 → Int32 → kS → Prop}
theorem P_kind (hI : Inv σ) (x1 : Int32) (hG : ∀ r τ, Inv τ → G r r τ) : w_X6_kind N σ x1 (fun r1 τ => w_X7_kind N τ x1 (fun r2 υ => G r1 r2 υ)) := by
  obtain ⟨H, ⟨hE, hC, hM, h4⟩, -⟩ := id hI
  have hl := hE.le
  simp only [w_X6_kind, w_X7_kind, t_hasPupil hC hE, t_isPupil hM hE]
  by_cases h : 0 ≤ x1.toInt ∧ x1.toInt < H 4
  · obtain ⟨q, hq, rfl⟩ := arg_in h
    simp (disch := omega) only [h, lit_0, lit_1, lit_2, lit_3, lit_4, lit_5, lit_6, lit_7, lit_8, lit_9, lit_10, lit_11, lit_12, lit_13, lit_14, lit_15, lit_16, lit_19, lit_23, lit_24, lit_25, lit_32, lit_33, lit_39, lit_40, lit_42, lit_44, lit_45, lit_46, lit_47, lit_48, lit_52, lit_56, lit_57, lit_59, lit_60, lit_61, lit_97, lit_99, lit_100, lit_107, lit_109, lit_112, lit_115, lit_116, lit_118, lit_119, lit_120, lit_122, lit_255, lit_320, lit_999, z_clI, z_vp, nI_add, pk_mul, z_le, z_lt, z_eq, true_and, and_true, forall_eq, if_true, if_false, ite_true, ite_false, (hC.2.2.2.2.2.2.2.2 q hq).1, hM _]
    simp (disch := omega) [hM _, hG _ _ hI, lit_0, lit_1, lit_2, lit_3, lit_4, lit_5, lit_6, lit_7, lit_8, lit_9, lit_10, lit_11, lit_12, lit_13, lit_14, lit_15, lit_16, lit_19, lit_23, lit_24, lit_25, lit_32, lit_33, lit_39, lit_40, lit_42, lit_44, lit_45, lit_46, lit_47, lit_48, lit_52, lit_56, lit_57, lit_59, lit_60, lit_61, lit_97, lit_99, lit_100, lit_107, lit_109, lit_112, lit_115, lit_116, lit_118, lit_119, lit_120, lit_122, lit_255, lit_320, lit_999, z_clI, z_vp, nI_add, pk_mul, z_le, z_lt, z_eq, (hC.2.2.2.2.2.2.2.2 q hq).1]
  · simp [h, hG _ _ hI]
theorem P_pupil (hI : Inv σ) (x1 x2 : Int32) (hG : ∀ r τ, Inv τ → G r r τ) : w_X6_pupil N σ x1 x2 (fun r1 τ => w_X7_pupil N τ x1 x2 (fun r2 υ => G r1 r2 υ)) := by
  obtain ⟨H, ⟨hE, hC, hM, h4⟩, -⟩ := id hI
  have hl := hE.le
  simp only [w_X6_pupil, w_X7_pupil, t_hasPupil hC hE, t_isPupil hM hE]
  by_cases h : 0 ≤ x1.toInt ∧ x1.toInt < H 4
  · obtain ⟨q, hq, rfl⟩ := arg_in h
    have hV := hE.v4 hq
    obtain ⟨c1, c2, c3⟩ := hC.2.2.2.2.2.2.2.2 q hq
    simp only [h, and_self, if_true, z10, if_false]
    by_cases a0 : x2 = 0
    · simp (disch := omega) [a0, lit_0, lit_1, lit_2, lit_3, lit_4, lit_5, lit_6, lit_7, lit_8, lit_9, lit_10, lit_11, lit_12, lit_13, lit_14, lit_15, lit_16, lit_19, lit_23, lit_24, lit_25, lit_32, lit_33, lit_39, lit_40, lit_42, lit_44, lit_45, lit_46, lit_47, lit_48, lit_52, lit_56, lit_57, lit_59, lit_60, lit_61, lit_97, lit_99, lit_100, lit_107, lit_109, lit_112, lit_115, lit_116, lit_118, lit_119, lit_120, lit_122, lit_255, lit_320, lit_999, z_clI, z_vp, nI_add, pk_mul, z_le, z_lt, z_eq, c2, hM _, hG _ _ hI, t_isPupil hM hE, h]
    · by_cases a1 : x2 = 1
      · simp (disch := omega) [a1, lit_0, lit_1, lit_2, lit_3, lit_4, lit_5, lit_6, lit_7, lit_8, lit_9, lit_10, lit_11, lit_12, lit_13, lit_14, lit_15, lit_16, lit_19, lit_23, lit_24, lit_25, lit_32, lit_33, lit_39, lit_40, lit_42, lit_44, lit_45, lit_46, lit_47, lit_48, lit_52, lit_56, lit_57, lit_59, lit_60, lit_61, lit_97, lit_99, lit_100, lit_107, lit_109, lit_112, lit_115, lit_116, lit_118, lit_119, lit_120, lit_122, lit_255, lit_320, lit_999, z_clI, z_vp, nI_add, pk_mul, z_le, z_lt, z_eq, c3, hM _, hG _ _ hI, t_isPupil hM hE, h]
      · by_cases a2 : x2 = 2
        · subst a2
          simp (disch := omega) [lit_0, lit_1, lit_2, lit_3, lit_4, lit_5, lit_6, lit_7, lit_8, lit_9, lit_10, lit_11, lit_12, lit_13, lit_14, lit_15, lit_16, lit_19, lit_23, lit_24, lit_25, lit_32, lit_33, lit_39, lit_40, lit_42, lit_44, lit_45, lit_46, lit_47, lit_48, lit_52, lit_56, lit_57, lit_59, lit_60, lit_61, lit_97, lit_99, lit_100, lit_107, lit_109, lit_112, lit_115, lit_116, lit_118, lit_119, lit_120, lit_122, lit_255, lit_320, lit_999, z_clI, z_vp, nI_add, pk_mul, z_le, z_lt, z_eq, t_biasOf hC hV hq, t_biasOfM hM hV hq, hG _ _ hI]
          simp (disch := omega) [lit_0, lit_1, lit_2, lit_3, lit_4, lit_5, lit_6, lit_7, lit_8, lit_9, lit_10, lit_11, lit_12, lit_13, lit_14, lit_15, lit_16, lit_19, lit_23, lit_24, lit_25, lit_32, lit_33, lit_39, lit_40, lit_42, lit_44, lit_45, lit_46, lit_47, lit_48, lit_52, lit_56, lit_57, lit_59, lit_60, lit_61, lit_97, lit_99, lit_100, lit_107, lit_109, lit_112, lit_115, lit_116, lit_118, lit_119, lit_120, lit_122, lit_255, lit_320, lit_999, z_clI, z_vp, nI_add, pk_mul, z_le, z_lt, z_eq, t_isPupil hM hE, h, t_biasOfM hM hV hq, hG _ _ hI]
        · by_cases a3 : x2 = 3
          · subst a3
            simp (disch := omega) [lit_0, lit_1, lit_2, lit_3, lit_4, lit_5, lit_6, lit_7, lit_8, lit_9, lit_10, lit_11, lit_12, lit_13, lit_14, lit_15, lit_16, lit_19, lit_23, lit_24, lit_25, lit_32, lit_33, lit_39, lit_40, lit_42, lit_44, lit_45, lit_46, lit_47, lit_48, lit_52, lit_56, lit_57, lit_59, lit_60, lit_61, lit_97, lit_99, lit_100, lit_107, lit_109, lit_112, lit_115, lit_116, lit_118, lit_119, lit_120, lit_122, lit_255, lit_320, lit_999, z_clI, z_vp, nI_add, pk_mul, z_le, z_lt, z_eq, t_biasOf hC hV hq, hC.2.2.1, hM _]
            by_cases b : nI (bi H q) = nI (H 2) <;> simp [b] <;> simp (disch := omega) [lit_0, lit_1, lit_2, lit_3, lit_4, lit_5, lit_6, lit_7, lit_8, lit_9, lit_10, lit_11, lit_12, lit_13, lit_14, lit_15, lit_16, lit_19, lit_23, lit_24, lit_25, lit_32, lit_33, lit_39, lit_40, lit_42, lit_44, lit_45, lit_46, lit_47, lit_48, lit_52, lit_56, lit_57, lit_59, lit_60, lit_61, lit_97, lit_99, lit_100, lit_107, lit_109, lit_112, lit_115, lit_116, lit_118, lit_119, lit_120, lit_122, lit_255, lit_320, lit_999, z_clI, z_vp, nI_add, pk_mul, z_le, z_lt, z_eq, t_isPupil hM hE, h, t_biasOfM hM hV hq, hG _ _ hI, hM _, b]
          · simp [a0, a1, a2, a3, hG _ _ hI, t_isPupil hM hE, h]
  · simp [h, hG _ _ hI, t_isPupil hM hE]
/-! soon -/
def soonR (H : Nat → Nat) (a : Nat) (e : Int32) : Nat → Nat → Int32
  | 0, _ => e
  | r + 1, k => if sft H k = a then nI k else soonR H a e r (k + 1)
theorem l_first {a : Nat} (hC : CH σ 33 H) (hV : HV H) (ha : a < H 0) : ∀ (r n k : Nat), k + r = 61 → r < n → l_X2_firstNightAt_2 N Q (nI a) n (nI k) σ = Q (soonR H a (-1000000) r k) σ := by
  have h0 := hV.1
  intro r
  induction r with
  | zero =>
    intro n k hk hn
    obtain ⟨n, rfl⟩ : ∃ j, n = j + 1 := ⟨n - 1, by omega⟩
    show b_X2_firstNightAt_2 N Q (nI a) _ (nI k) σ = _
    unfold b_X2_firstNightAt_2
    simp (disch := omega) only [lit_0, lit_1, lit_2, lit_3, lit_4, lit_5, lit_6, lit_7, lit_8, lit_9, lit_10, lit_11, lit_12, lit_13, lit_14, lit_15, lit_16, lit_19, lit_23, lit_24, lit_25, lit_32, lit_33, lit_39, lit_40, lit_42, lit_44, lit_45, lit_46, lit_47, lit_48, lit_52, lit_56, lit_57, lit_59, lit_60, lit_61, lit_97, lit_99, lit_100, lit_107, lit_109, lit_112, lit_115, lit_116, lit_118, lit_119, lit_120, lit_122, lit_255, lit_320, lit_999, z_clI, z_vp, nI_add, pk_mul, z_le, z_lt, z_eq]
    rw [if_pos (by omega)]
    rfl
  | succ r ih =>
    intro n k hk hn
    obtain ⟨n, rfl⟩ : ∃ j, n = j + 1 := ⟨n - 1, by omega⟩
    show b_X2_firstNightAt_2 N Q (nI a) _ (nI k) σ = _
    unfold b_X2_firstNightAt_2
    have := sft_lt hV k
    simp (disch := omega) only [lit_0, lit_1, lit_2, lit_3, lit_4, lit_5, lit_6, lit_7, lit_8, lit_9, lit_10, lit_11, lit_12, lit_13, lit_14, lit_15, lit_16, lit_19, lit_23, lit_24, lit_25, lit_32, lit_33, lit_39, lit_40, lit_42, lit_44, lit_45, lit_46, lit_47, lit_48, lit_52, lit_56, lit_57, lit_59, lit_60, lit_61, lit_97, lit_99, lit_100, lit_107, lit_109, lit_112, lit_115, lit_116, lit_118, lit_119, lit_120, lit_122, lit_255, lit_320, lit_999, z_clI, z_vp, nI_add, pk_mul, z_le, z_lt, z_eq]
    rw [if_neg (by omega)]
    simp (disch := omega) only [t_shiftBehind hC hV, lit_0, lit_1, lit_2, lit_3, lit_4, lit_5, lit_6, lit_7, lit_8, lit_9, lit_10, lit_11, lit_12, lit_13, lit_14, lit_15, lit_16, lit_19, lit_23, lit_24, lit_25, lit_32, lit_33, lit_39, lit_40, lit_42, lit_44, lit_45, lit_46, lit_47, lit_48, lit_52, lit_56, lit_57, lit_59, lit_60, lit_61, lit_97, lit_99, lit_100, lit_107, lit_109, lit_112, lit_115, lit_116, lit_118, lit_119, lit_120, lit_122, lit_255, lit_320, lit_999, z_clI, z_vp, nI_add, pk_mul, z_le, z_lt, z_eq, true_and, and_true, forall_eq, if_true, if_false, ite_true, ite_false]
    rw [ih n (k + 1) (by omega) (by omega)]
    show _ = Q (if sft H k = a then nI k else soonR H a (-1000000) r (k + 1)) σ
    by_cases h : sft H k = a
    · rw [if_pos h, if_pos h]
    · rw [if_neg h, if_neg h]
theorem t_first {a : Nat} (hN : 5000 ≤ N) (hC : CH σ 33 H) (hV : HV H) (ha : a < H 0) : w_X2_firstNightAt N σ (nI a) Q = Q (soonR H a (-1000000) 61 0) σ := by
  unfold w_X2_firstNightAt
  exact l_first hC hV ha 61 N 0 (by omega) (by omega)
theorem l_soonBy {a b : Nat} (hM : MH σ H) (hV : HV H) (ha : a < H 0) (hb : b < H 0) : ∀ (r n k : Nat), k + r = 61 → r < n → l_X7_soonBy_2 N Q (nI a) (nI b) n (nI k) σ = Q (if a = b then soonR H a (-1000000) r k else -1000000) σ := by
  have h0 := hV.1
  intro r
  induction r with
  | zero =>
    intro n k hk hn
    obtain ⟨n, rfl⟩ : ∃ j, n = j + 1 := ⟨n - 1, by omega⟩
    show b_X7_soonBy_2 N Q (nI a) (nI b) _ (nI k) σ = _
    unfold b_X7_soonBy_2
    simp (disch := omega) only [lit_0, lit_1, lit_2, lit_3, lit_4, lit_5, lit_6, lit_7, lit_8, lit_9, lit_10, lit_11, lit_12, lit_13, lit_14, lit_15, lit_16, lit_19, lit_23, lit_24, lit_25, lit_32, lit_33, lit_39, lit_40, lit_42, lit_44, lit_45, lit_46, lit_47, lit_48, lit_52, lit_56, lit_57, lit_59, lit_60, lit_61, lit_97, lit_99, lit_100, lit_107, lit_109, lit_112, lit_115, lit_116, lit_118, lit_119, lit_120, lit_122, lit_255, lit_320, lit_999, z_clI, z_vp, nI_add, pk_mul, z_le, z_lt, z_eq]
    rw [if_pos (by omega)]
    unfold soonR
    simp
  | succ r ih =>
    intro n k hk hn
    obtain ⟨n, rfl⟩ : ∃ j, n = j + 1 := ⟨n - 1, by omega⟩
    show b_X7_soonBy_2 N Q (nI a) (nI b) _ (nI k) σ = _
    unfold b_X7_soonBy_2
    have := sft_lt hV k
    simp (disch := omega) only [lit_0, lit_1, lit_2, lit_3, lit_4, lit_5, lit_6, lit_7, lit_8, lit_9, lit_10, lit_11, lit_12, lit_13, lit_14, lit_15, lit_16, lit_19, lit_23, lit_24, lit_25, lit_32, lit_33, lit_39, lit_40, lit_42, lit_44, lit_45, lit_46, lit_47, lit_48, lit_52, lit_56, lit_57, lit_59, lit_60, lit_61, lit_97, lit_99, lit_100, lit_107, lit_109, lit_112, lit_115, lit_116, lit_118, lit_119, lit_120, lit_122, lit_255, lit_320, lit_999, z_clI, z_vp, nI_add, pk_mul, z_le, z_lt, z_eq]
    rw [if_neg (by omega)]
    simp (disch := omega) only [t_shiftIn hM hV, lit_0, lit_1, lit_2, lit_3, lit_4, lit_5, lit_6, lit_7, lit_8, lit_9, lit_10, lit_11, lit_12, lit_13, lit_14, lit_15, lit_16, lit_19, lit_23, lit_24, lit_25, lit_32, lit_33, lit_39, lit_40, lit_42, lit_44, lit_45, lit_46, lit_47, lit_48, lit_52, lit_56, lit_57, lit_59, lit_60, lit_61, lit_97, lit_99, lit_100, lit_107, lit_109, lit_112, lit_115, lit_116, lit_118, lit_119, lit_120, lit_122, lit_255, lit_320, lit_999, z_clI, z_vp, nI_add, pk_mul, z_le, z_lt, z_eq, true_and, and_true, forall_eq, if_true, if_false, ite_true, ite_false]
    rw [ih n (k + 1) (by omega) (by omega)]
    show _ = Q (if a = b then (if sft H k = a then nI k else soonR H a (-1000000) r (k + 1)) else -1000000) σ
    by_cases h : sft H k = a
    · by_cases g : a = b
      · subst g; simp [h]
      · simp [h, g]
    · by_cases g : a = b
      · subst g; simp [h]
      · simp [h, g]
theorem t_soonBy {a b : Nat} (hN : 5000 ≤ N) (hM : MH σ H) (hV : HV H) (ha : a < H 0) (hb : b < H 0) : w_X7_soonBy N σ (nI a) (nI b) Q = Q (if a = b then soonR H a (-1000000) 61 0 else -1000000) σ := by
  unfold w_X7_soonBy
  exact l_soonBy hM hV ha hb 61 N 0 (by omega) (by omega)
theorem P_soon (hN : 5000 ≤ N) (hI : Inv σ) (x1 : Int32) (hG : ∀ r τ, Inv τ → G r r τ) : w_X6_soon N σ x1 (fun r1 τ => w_X7_soon N τ x1 (fun r2 υ => G r1 r2 υ)) := by
  obtain ⟨H, ⟨hE, hC, hM, h4⟩, -⟩ := id hI
  simp only [w_X6_soon, w_X7_soon, t_hasPupil hC hE]
  by_cases h : 0 ≤ x1.toInt ∧ x1.toInt < H 4
  · obtain ⟨q, hq, rfl⟩ := arg_in h
    have hV := hE.v4 hq
    simp only [h, and_self, if_true, z10, if_false, t_biasOf hC hV hq, t_first hN hC hV (bi_lt hV q)]
    simp only [t_isPupil hM hE, h, and_self, if_true, z10, if_false, t_biasOfM hM hV hq, t_soonBy hN hM hV (bi_lt hV q) (bi_lt hV q), hG _ _ hI]
  · simp [h, hG _ _ hI, t_isPupil hM hE]
theorem P_together (hN : 5000 ≤ N) (hI : Inv σ) (x1 x2 : Int32) (hG : ∀ r τ, Inv τ → G r r τ) : w_X6_together N σ x1 x2 (fun r1 τ => w_X7_together N τ x1 x2 (fun r2 υ => G r1 r2 υ)) := by
  obtain ⟨H, ⟨hE, hC, hM, h4⟩, -⟩ := id hI
  have hl := hE.le
  simp only [w_X6_together, w_X7_together, t_hasPupil hC hE]
  by_cases h : 0 ≤ x1.toInt ∧ x1.toInt < H 4
  · obtain ⟨q, hq, rfl⟩ := arg_in h
    have hV := hE.v4 hq
    have h0 := hV.1
    have b1 := bi_lt hV q
    simp only [h, and_self, if_true, z10, if_false]
    by_cases g : 0 ≤ x2.toInt ∧ x2.toInt < H 4
    · obtain ⟨p, hp, rfl⟩ := arg_in g
      have b2 := bi_lt hV p
      simp only [g, and_self, if_true, z10, if_false]
      by_cases e : nI q = nI p
      · simp only [e, if_true, t_isPupil hM hE, g, and_self, z10, if_false, hG _ _ hI]
      · simp only [e, if_false, t_biasOf hC hV hq, t_biasOf hC hV hp, t_first hN hC hV (bi_lt hV q)]
        simp (disch := omega) only [z_eq]
        by_cases f : bi H q = bi H p
        · simp only [f, if_true]
          rw [← f]
          simp only [t_isPupil hM hE, h, g, and_self, if_true, z10, if_false, t_biasOfM hM hV hq, t_biasOfM hM hV hp, t_soonBy hN hM hV (bi_lt hV q) (bi_lt hV p), t_soonBy hN hM hV (bi_lt hV p) (bi_lt hV p), e, f, hG _ _ hI]
        · simp only [f, if_false, t_isPupil hM hE, h, g, and_self, if_true, z10, t_biasOfM hM hV hq, t_biasOfM hM hV hp, t_soonBy hN hM hV (bi_lt hV q) (bi_lt hV p), e, hG _ _ hI]
    · simp [g, h, hG _ _ hI, t_isPupil hM hE]
  · simp [h, hG _ _ hI, t_isPupil hM hE]
theorem P_itself (hN : 5000 ≤ N) (hI : Inv σ) (hG : ∀ r τ, Inv τ → G r r τ) : w_X6_itself N σ (fun r1 τ => w_X7_itself N τ (fun r2 υ => G r1 r2 υ)) := by
  obtain ⟨H, ⟨hE, hC, hM, h4⟩, -⟩ := id hI
  simp only [w_X6_itself, w_X7_itself, t_isTold hC hE]
  by_cases h : 0 < H 0
  · have hV := hE.v0 h
    have e : ¬ nI 1 = 0 := by decide
    simp only [h, if_true, z10, if_false]
    rw [lit_0, t_first hN hC hV h]
    simp only [h4, show ¬ H 0 = 0 by omega, if_false]
    rw [if_neg (by decide), t_soonBy hN hM hV h h]
    simp only [if_true, hG _ _ hI]
  · simp [show H 0 = 0 by omega, h4, hG _ _ hI, nI_0]
theorem P_fault (hI : Inv σ) (hG : ∀ r τ, Inv τ → G r r τ) : w_X6_fault N σ (fun r1 τ => w_X7_fault N τ (fun r2 υ => G r1 r2 υ)) := by
  obtain ⟨H, -, -, ⟨h, -⟩, -⟩ := id hI
  unfold w_X6_fault w_X7_fault
  show G (σ 31 5) (σ 55 9) σ
  rw [h]
  exact hG _ _ hI
theorem P_status (hI : Inv σ) (hG : ∀ r τ, Inv τ → G r r τ) : w_X6_status N σ (fun r1 τ => w_X7_status N τ (fun r2 υ => G r1 r2 υ)) := by
  obtain ⟨H, -, -, -, -, -, -, h⟩ := id hI
  unfold w_X6_status w_X7_status
  show G (σ 0 8) (σ 55 3) σ
  rw [h]
  exact hG _ _ hI
theorem P_trace (hI : Inv σ) (x1 : Int32) (hG : ∀ r τ, Inv τ → G r r τ) : w_X6_trace N σ x1 (fun r1 τ => w_X7_trace N τ x1 (fun r2 υ => G r1 r2 υ)) := by
  obtain ⟨H, -, -, -, ⟨n, hn, h1, h2, h3⟩, -⟩ := id hI
  simp only [w_X6_trace, h1, rng_cl (x := x1) (n := n) (by omega)]
  by_cases h : 0 ≤ x1.toInt ∧ x1.toInt < n
  · obtain ⟨q, hq, rfl⟩ := arg_in h
    simp (disch := omega) only [h, and_self, if_true, lit_0, lit_1, lit_2, lit_3, lit_4, lit_5, lit_6, lit_7, lit_8, lit_9, lit_10, lit_11, lit_12, lit_13, lit_14, lit_15, lit_16, lit_19, lit_23, lit_24, lit_25, lit_32, lit_33, lit_39, lit_40, lit_42, lit_44, lit_45, lit_46, lit_47, lit_48, lit_52, lit_56, lit_57, lit_59, lit_60, lit_61, lit_97, lit_99, lit_100, lit_107, lit_109, lit_112, lit_115, lit_116, lit_118, lit_119, lit_120, lit_122, lit_255, lit_320, lit_999, z_clI, z_vp, nI_add, pk_mul, z_le, z_lt, z_eq, true_and, and_true, forall_eq, if_true, if_false, ite_true, ite_false, h3 q hq]
    simp (disch := omega) only [w_X7_trace, h2, t_rangeM (n := n) (show n < 1000 by omega), h, and_self, if_true, z10, if_false, z_vp, z_clI, true_and, hG _ _ hI]
  · simp [h, w_X7_trace, h2, t_rangeM (n := n) (show n < 1000 by omega), hG _ _ hI]
end R1
