/-! ===== a hall, as numbers H 0 .. H 56 (the reference's order) ===== -/
def HV (H : Nat → Nat) : Prop := (2 ≤ H 0 ∧ H 0 ≤ 12) ∧ H 1 < H 0 ∧ H 2 < H 0 ∧ H 3 ≤ 4 ∧ H 4 ≤ 5 ∧ H 5 ≤ 999 ∧ (∀ p, p < H 3 → 1 ≤ H (6 + p) ∧ H (6 + p) ≤ 8) ∧ (∀ p k, p < H 3 → k < H (6 + p) → H (10 + 8 * p + k) < H 0) ∧ (∀ q, q < H 4 → (1 ≤ H (42 + q) ∧ H (42 + q) ≤ 5) ∧ H (47 + q) < H 0 ∧ 1 ≤ H (52 + q) ∧ H (52 + q) ≤ 12)
def CH (σ : kS) (c : Nat) (H : Nat → Nat) : Prop := σ c 5 = nI (H 0) ∧ σ c 6 = nI (H 1) ∧ σ c 7 = nI (H 2) ∧ σ c 9 = nI (H 3) ∧ σ c 10 = nI (H 4) ∧ σ c 8 = nI (H 5) ∧ (∀ p, p < H 3 → σ (c + 1) p = nI (H (6 + p))) ∧ (∀ p k, p < H 3 → k < H (6 + p) → σ (c + 2) (8 * p + k) = nI (H (10 + 8 * p + k))) ∧ (∀ q, q < H 4 → σ (c + 3) q = nI (H (42 + q)) ∧ σ (c + 4) q = nI (H (47 + q)) ∧ σ (c + 5) q = nI (H (52 + q)))
def MH (σ : kS) (H : Nat → Nat) : Prop := ∀ i, i < 57 → σ 59 i = nI (H i)
def sft (H : Nat → Nat) (n : Nat) : Nat := (H 2 + n * H 1) % H 0
def bia (H : Nat → Nat) (kd l : Nat) : Nat := (if kd = 2 then l + 2 * H 1 else if kd = 3 then l + H 0 - 2 else if kd = 4 then H 0 - l else if kd = 5 then H 0 + 1 - l else l) % H 0
def bi (H : Nat → Nat) (q : Nat) : Nat := bia H (H (42 + q)) (H (47 + q))
def kyk (H : Nat → Nat) (b s : Nat) : Nat := (s + H 0 - b) % H 0
theorem sft_lt {H : Nat → Nat} (h : HV H) (n : Nat) : sft H n < H 0 := Nat.mod_lt _ (by have := h.1; omega)
theorem bia_lt {H : Nat → Nat} (h : HV H) (kd l : Nat) : bia H kd l < H 0 := Nat.mod_lt _ (by have := h.1; omega)
theorem bi_lt {H : Nat → Nat} (h : HV H) (q : Nat) : bi H q < H 0 := bia_lt h _ _
theorem kyk_lt {H : Nat → Nat} (h : HV H) (b s : Nat) : kyk H b s < H 0 := Nat.mod_lt _ (by have := h.1; omega)
section HL
variable {N : Nat} {σ : kS} {c : Nat} {H : Nat → Nat} {Q : Int32 → kS → Prop}
theorem t_around {K : Nat} {x : Int32} (hk : σ c 5 = nI K) (h0 : 0 < K) (h1 : K < 2 ^ 31) : w_X3_around N σ c x Q = Q (fov K x) σ := by
  unfold w_X3_around
  rw [hk, if_pos (show (0 : Int32) < nI K from (nI_ltI (a := 0) (by omega) h1).mpr h0), ← fov_eq h0 h1]
  simp only [forall_eq, eq_iff_iff]
  constructor
  · rintro ⟨-, h⟩
    split
    · rename_i q; rwa [if_pos q] at h
    · rename_i q; rwa [if_neg q] at h
  · intro h
    refine ⟨nI_ne0 h0 h1, ?_⟩
    split
    · rename_i q; rwa [if_pos q] at h
    · rename_i q; rwa [if_neg q] at h
theorem t_over {K : Nat} {x : Int32} (hk : σ 59 0 = nI K) (h0 : 0 < K) (h1 : K < 2 ^ 31) : w_X7_over N σ x Q = Q (fov K x) σ := by
  unfold w_X7_over
  rw [show (0 : Int32).toNatClampNeg = 0 from rfl, hk, ← fov_eq h0 h1]
  simp only [forall_eq, eq_iff_iff]
  have hv : vp_in 0 57 := vp_in_nI (n := 0) (by decide) (by decide)
  constructor
  · rintro ⟨-, -, h⟩
    split
    · rename_i q; rwa [if_pos q] at h
    · rename_i q; rw [if_neg q] at h; exact h.2
  · intro h
    refine ⟨hv, nI_ne0 h0 h1, ?_⟩
    split
    · rename_i q; rwa [if_pos q] at h
    · rename_i q; rw [if_neg q] at h; exact ⟨hv, h⟩
theorem sft_ar {n : Nat} (hV : HV H) (hn : n < 10000) : fov (H 0) (nI (H 2) + nI n * nI (H 1)) = nI (sft H n) := by
  obtain ⟨h0, h1, h2, -⟩ := hV
  have e : n * H 1 ≤ 10000 * 12 := Nat.mul_le_mul (by omega) (by omega)
  rw [pk_mul, nI_add, fov_nat (by omega)]
  rfl
theorem t_shiftBehind {n : Nat} (hC : CH σ c H) (hV : HV H) (hn : n < 10000) : w_X3_shiftBehind N σ c (nI n) Q = Q (nI (sft H n)) σ := by
  have h0 := hV.1
  unfold w_X3_shiftBehind
  rw [t_around hC.1 (by omega) (by omega), hC.2.1, hC.2.2.1, sft_ar hV hn]
theorem t_shiftIn {n : Nat} (hM : MH σ H) (hV : HV H) (hn : n < 10000) : w_X7_shiftIn N σ (nI n) Q = Q (nI (sft H n)) σ := by
  have h0 := hV.1
  unfold w_X7_shiftIn
  rw [t_over (hM 0 (by decide)) (by omega) (by omega)]
  simp (disch := omega) only [lit_0, lit_1, lit_2, lit_3, lit_4, lit_5, lit_6, lit_7, lit_8, lit_9, lit_10, lit_11, lit_12, lit_13, lit_14, lit_15, lit_16, lit_19, lit_23, lit_24, lit_25, lit_32, lit_33, lit_39, lit_40, lit_42, lit_44, lit_45, lit_46, lit_47, lit_48, lit_52, lit_56, lit_57, lit_59, lit_60, lit_61, lit_97, lit_99, lit_100, lit_107, lit_109, lit_112, lit_115, lit_116, lit_118, lit_119, lit_120, lit_122, lit_255, lit_320, lit_999, z_clI, z_vp, nI_add, pk_mul, z_le, z_lt, z_eq, true_and, and_true, forall_eq, if_true, if_false, ite_true, ite_false, hM _]
  rw [← nI_add, ← pk_mul, sft_ar hV hn]
theorem bia_ar {kd l : Nat} (hV : HV H) (hk : 1 ≤ kd ∧ kd ≤ 5) (hl : l < H 0) : fov (H 0) (if kd = 2 then nI l + 2 * nI (H 1) else if kd = 3 then nI l - 2 else if kd = 4 then -nI l else if kd = 5 then 1 - nI l else nI l) = nI (bia H kd l) := by
  have h0 := hV.1
  have h1 := hV.2.1
  unfold bia
  have e2 : (2 : Int32).toInt = 2 := by decide
  have e1 : (1 : Int32).toInt = 1 := by decide
  have el : (nI l).toInt = l := nI_toInt (by omega)
  have h4 : (nI (H 1)).toInt = H 1 := nI_toInt (by omega)
  by_cases a : kd = 2
  · rw [if_pos a, if_pos a, lit_2, pk_mul, nI_add, fov_nat (by omega)]
  · rw [if_neg a, if_neg a]
    by_cases a : kd = 3
    · rw [if_pos a, if_pos a]
      refine fov_neg ?_
      rw [fb_subI] <;> rw [el, e2] <;> omega
    · rw [if_neg a, if_neg a]
      by_cases a : kd = 4
      · rw [if_pos a, if_pos a]
        refine fov_neg ?_
        rw [fb_negI] <;> rw [el] <;> omega
      · rw [if_neg a, if_neg a]
        by_cases a : kd = 5
        · rw [if_pos a, if_pos a]
          refine fov_neg ?_
          rw [fb_subI] <;> rw [el, e1] <;> omega
        · rw [if_neg a, if_neg a, fov_nat (by omega)]
theorem t_biasAs {kd l : Nat} (hC : CH σ c H) (hV : HV H) (hk : 1 ≤ kd ∧ kd ≤ 5) (hl : l < H 0) : w_X3_biasAs N σ c (nI kd) (nI l) Q = Q (nI (bia H kd l)) σ := by
  have h0 := hV.1
  rw [← bia_ar hV hk hl]
  unfold w_X3_biasAs
  rw [hC.2.1]
  simp (disch := omega) only [lit_0, lit_1, lit_2, lit_3, lit_4, lit_5, lit_6, lit_7, lit_8, lit_9, lit_10, lit_11, lit_12, lit_13, lit_14, lit_15, lit_16, lit_19, lit_23, lit_24, lit_25, lit_32, lit_33, lit_39, lit_40, lit_42, lit_44, lit_45, lit_46, lit_47, lit_48, lit_52, lit_56, lit_57, lit_59, lit_60, lit_61, lit_97, lit_99, lit_100, lit_107, lit_109, lit_112, lit_115, lit_116, lit_118, lit_119, lit_120, lit_122, lit_255, lit_320, lit_999, z_clI, z_vp, nI_add, pk_mul, z_le, z_lt, z_eq, t_around hC.1]
  by_cases a : kd = 2
  · simp [a]
  · by_cases b : kd = 3
    · simp [b]
    · by_cases d : kd = 4
      · simp [d]
      · by_cases e : kd = 5
        · simp [e]
        · simp [a, b, d, e]
theorem t_biasBy {kd l : Nat} (hM : MH σ H) (hV : HV H) (hk : 1 ≤ kd ∧ kd ≤ 5) (hl : l < H 0) : w_X7_biasBy N σ (nI kd) (nI l) Q = Q (nI (bia H kd l)) σ := by
  have h0 := hV.1
  rw [← bia_ar hV hk hl]
  unfold w_X7_biasBy
  have hK := hM 0 (by decide)
  simp (disch := omega) only [lit_0, lit_1, lit_2, lit_3, lit_4, lit_5, lit_6, lit_7, lit_8, lit_9, lit_10, lit_11, lit_12, lit_13, lit_14, lit_15, lit_16, lit_19, lit_23, lit_24, lit_25, lit_32, lit_33, lit_39, lit_40, lit_42, lit_44, lit_45, lit_46, lit_47, lit_48, lit_52, lit_56, lit_57, lit_59, lit_60, lit_61, lit_97, lit_99, lit_100, lit_107, lit_109, lit_112, lit_115, lit_116, lit_118, lit_119, lit_120, lit_122, lit_255, lit_320, lit_999, z_clI, z_vp, nI_add, pk_mul, z_le, z_lt, z_eq, true_and, and_true, forall_eq, if_true, if_false, ite_true, ite_false, t_over hK, hM 1]
  by_cases z : kd = 1
  · simp [z]
  · by_cases a : kd = 2
    · simp [a]
    · by_cases b : kd = 3
      · simp [b]
      · by_cases d : kd = 4
        · simp [d]
        · have e : kd = 5 := by omega
          simp [e]
theorem t_biasOf {q : Nat} (hC : CH σ c H) (hV : HV H) (hq : q < H 4) : w_X3_biasOf N σ c (nI q) Q = Q (nI (bi H q)) σ := by
  have h5 : H 4 ≤ 5 := hV.2.2.2.2.1
  obtain ⟨a, b, -⟩ := hC.2.2.2.2.2.2.2.2 q hq
  obtain ⟨k1, k2, -⟩ := hV.2.2.2.2.2.2.2.2 q hq
  unfold w_X3_biasOf
  simp (disch := omega) only [lit_0, lit_1, lit_2, lit_3, lit_4, lit_5, lit_6, lit_7, lit_8, lit_9, lit_10, lit_11, lit_12, lit_13, lit_14, lit_15, lit_16, lit_19, lit_23, lit_24, lit_25, lit_32, lit_33, lit_39, lit_40, lit_42, lit_44, lit_45, lit_46, lit_47, lit_48, lit_52, lit_56, lit_57, lit_59, lit_60, lit_61, lit_97, lit_99, lit_100, lit_107, lit_109, lit_112, lit_115, lit_116, lit_118, lit_119, lit_120, lit_122, lit_255, lit_320, lit_999, z_clI, z_vp, nI_add, pk_mul, z_le, z_lt, z_eq, true_and, and_true, forall_eq, if_true, if_false, ite_true, ite_false, a, b, t_biasAs hC hV k1 k2]
  rfl
theorem t_biasOfM {q : Nat} (hM : MH σ H) (hV : HV H) (hq : q < H 4) : w_X7_biasOf N σ (nI q) Q = Q (nI (bi H q)) σ := by
  have h5 : H 4 ≤ 5 := hV.2.2.2.2.1
  obtain ⟨k1, k2, -⟩ := hV.2.2.2.2.2.2.2.2 q hq
  unfold w_X7_biasOf
  simp (disch := omega) only [lit_0, lit_1, lit_2, lit_3, lit_4, lit_5, lit_6, lit_7, lit_8, lit_9, lit_10, lit_11, lit_12, lit_13, lit_14, lit_15, lit_16, lit_19, lit_23, lit_24, lit_25, lit_32, lit_33, lit_39, lit_40, lit_42, lit_44, lit_45, lit_46, lit_47, lit_48, lit_52, lit_56, lit_57, lit_59, lit_60, lit_61, lit_97, lit_99, lit_100, lit_107, lit_109, lit_112, lit_115, lit_116, lit_118, lit_119, lit_120, lit_122, lit_255, lit_320, lit_999, z_clI, z_vp, nI_add, pk_mul, z_le, z_lt, z_eq, true_and, and_true, forall_eq, if_true, if_false, ite_true, ite_false, hM _, t_biasBy hM hV k1 k2]
  rfl
theorem t_stringOf {p k : Nat} (hC : CH σ c H) (hV : HV H) (hp : p < H 3) (hk : k < H (6 + p)) : w_X3_stringOf N σ c (nI p) (nI k) Q = Q (nI (H (10 + 8 * p + k))) σ := by
  have h4 : H 3 ≤ 4 := hV.2.2.2.1
  have h8 := (hV.2.2.2.2.2.2.1 p hp).2
  unfold w_X3_stringOf
  simp (disch := omega) only [lit_0, lit_1, lit_2, lit_3, lit_4, lit_5, lit_6, lit_7, lit_8, lit_9, lit_10, lit_11, lit_12, lit_13, lit_14, lit_15, lit_16, lit_19, lit_23, lit_24, lit_25, lit_32, lit_33, lit_39, lit_40, lit_42, lit_44, lit_45, lit_46, lit_47, lit_48, lit_52, lit_56, lit_57, lit_59, lit_60, lit_61, lit_97, lit_99, lit_100, lit_107, lit_109, lit_112, lit_115, lit_116, lit_118, lit_119, lit_120, lit_122, lit_255, lit_320, lit_999, z_clI, z_vp, nI_add, pk_mul, z_le, z_lt, z_eq, true_and, and_true, forall_eq, if_true, if_false, ite_true, ite_false]
  rw [show p * 8 + k = 8 * p + k by omega, hC.2.2.2.2.2.2.2.1 p k hp hk]
theorem kyk_ar {b s : Nat} (hV : HV H) (hb : b < H 0) (hs : s < H 0) : fov (H 0) (nI s - nI b) = nI (kyk H b s) := by
  have h0 := hV.1
  refine fov_neg ?_
  rw [pk_sub_toInt (by omega) (by omega)]
  omega
end HL
