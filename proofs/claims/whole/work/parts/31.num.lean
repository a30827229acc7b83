/-! ===== numbers ===== -/
theorem krem_toInt {x : Int32} {K : Nat} (hK : 0 < K) (hK2 : K < 2 ^ 31) : (krem x (nI K)).toInt = x.toInt.tmod K := by
  unfold krem
  have hd : (x / nI K).toInt = x.toInt.tdiv K := by
    rw [Int32.toInt_div_of_ne_right _ _ (fun h => by
      have := congrArg Int32.toInt h
      rw [nI_toInt hK2] at this
      have e : (-1 : Int32).toInt = -1 := by decide
      omega), nI_toInt hK2]
  have r := fb_rng x
  have hK' : (0 : Int) < K := by omega
  have e1 := Int.tmod_add_tdiv_mul x.toInt K
  have h1 : (x.toInt.tdiv K * K).natAbs ≤ x.toInt.natAbs := by
    rw [Int.natAbs_mul, Int.natAbs_tdiv]
    exact Nat.div_mul_le_self _ _
  have h2 : (x.toInt.tmod K).natAbs ≤ x.toInt.natAbs := by
    rw [Int.natAbs_tmod]
    exact Nat.mod_le _ _
  have hm : (x / nI K * nI K).toInt = x.toInt.tdiv K * K := by
    rw [fb_mulI] <;> rw [hd, nI_toInt hK2] <;> omega
  rw [fb_subI, hm]
  · omega
  · rw [hm]; omega
  · rw [hm]; omega
/-- what is left over, as the class and the reference reckon it -/
def fov (K : Nat) (x : Int32) : Int32 := nI (x.toInt % (K : Int)).toNat
theorem fov_eq {x : Int32} {K : Nat} (hK : 0 < K) (hK2 : K < 2 ^ 31) : (if 0 ≤ krem x (nI K) then krem x (nI K) else krem x (nI K) + nI K) = fov K x := by
  have e := krem_toInt (x := x) hK hK2
  have hK' : (0 : Int) < K := by omega
  have l1 := Int.tmod_lt_of_pos x.toInt hK'
  have l2 := Int.emod_nonneg x.toInt (show (K : Int) ≠ 0 by omega)
  have l3 := Int.emod_lt_of_pos x.toInt hK'
  have l4 := @Int.emod_eq_tmod x.toInt K
  unfold fov
  have hr : (nI (x.toInt % (K : Int)).toNat).toInt = x.toInt % K := by
    rw [nI_toInt (by omega)]; omega
  have l5 : -(K : Int) < x.toInt.tmod K := by
    have := Int.tmod_lt_of_pos (-x.toInt) hK'
    rw [Int.neg_tmod] at this
    omega
  have hcase : (0 ≤ x.toInt.tmod K ∧ x.toInt % K = x.toInt.tmod K) ∨ (x.toInt.tmod K < 0 ∧ x.toInt % K = x.toInt.tmod K + K) := by
    by_cases h : 0 ≤ x.toInt.tmod K
    · left
      refine ⟨h, ?_⟩
      rw [l4]
      split
      · omega
      · rename_i hh
        exfalso
        rw [l4, if_neg hh] at l3
        omega
    · right
      refine ⟨by omega, ?_⟩
      rw [l4]
      split
      · rename_i hh
        exfalso
        rw [l4, if_pos hh] at l2
        omega
      · omega
  by_cases h : 0 ≤ krem x (nI K)
  · rw [if_pos h]
    rw [fa_eq, hr, e]
    rw [fa_le, e] at h
    have : (0 : Int32).toInt = 0 := by decide
    omega
  · rw [if_neg h]
    rw [fa_le, e] at h
    have z : (0 : Int32).toInt = 0 := by decide
    rw [fa_eq, hr, fb_addI, e, nI_toInt hK2]
    · omega
    · rw [e, nI_toInt hK2]; omega
    · rw [e, nI_toInt hK2]; omega
theorem fov_nat {K a : Nat} (ha : a < 2 ^ 31) : fov K (nI a) = nI (a % K) := by
  unfold fov
  rw [nI_toInt ha]
  congr 1
theorem fov_int {K a : Nat} {x : Int32} (h : x.toInt = (a : Int)) : fov K x = nI (a % K) := by
  unfold fov
  rw [h]
  congr 1
theorem fov_neg {K a : Nat} {x : Int32} (h : x.toInt + K = (a : Int)) : fov K x = nI (a % K) := by
  unfold fov
  have e : x.toInt % (K : Int) = (a : Int) % K := by
    rw [← h, Int.add_emod_right]
  rw [e]
  congr 1
/-! literals -/
theorem lit_0 : (0 : Int32) = nI 0 := rfl
theorem lit_1 : (1 : Int32) = nI 1 := rfl
theorem lit_2 : (2 : Int32) = nI 2 := rfl
theorem lit_3 : (3 : Int32) = nI 3 := rfl
theorem lit_4 : (4 : Int32) = nI 4 := rfl
theorem lit_5 : (5 : Int32) = nI 5 := rfl
theorem lit_6 : (6 : Int32) = nI 6 := rfl
theorem lit_7 : (7 : Int32) = nI 7 := rfl
theorem lit_8 : (8 : Int32) = nI 8 := rfl
theorem lit_9 : (9 : Int32) = nI 9 := rfl
theorem lit_10 : (10 : Int32) = nI 10 := rfl
theorem lit_11 : (11 : Int32) = nI 11 := rfl
theorem lit_12 : (12 : Int32) = nI 12 := rfl
theorem lit_13 : (13 : Int32) = nI 13 := rfl
theorem lit_14 : (14 : Int32) = nI 14 := rfl
theorem lit_15 : (15 : Int32) = nI 15 := rfl
theorem lit_16 : (16 : Int32) = nI 16 := rfl
theorem lit_19 : (19 : Int32) = nI 19 := rfl
theorem lit_23 : (23 : Int32) = nI 23 := rfl
theorem lit_24 : (24 : Int32) = nI 24 := rfl
theorem lit_25 : (25 : Int32) = nI 25 := rfl
theorem lit_32 : (32 : Int32) = nI 32 := rfl
theorem lit_33 : (33 : Int32) = nI 33 := rfl
theorem lit_39 : (39 : Int32) = nI 39 := rfl
theorem lit_40 : (40 : Int32) = nI 40 := rfl
theorem lit_42 : (42 : Int32) = nI 42 := rfl
theorem lit_44 : (44 : Int32) = nI 44 := rfl
theorem lit_45 : (45 : Int32) = nI 45 := rfl
theorem lit_46 : (46 : Int32) = nI 46 := rfl
theorem lit_47 : (47 : Int32) = nI 47 := rfl
theorem lit_48 : (48 : Int32) = nI 48 := rfl
theorem lit_52 : (52 : Int32) = nI 52 := rfl
theorem lit_56 : (56 : Int32) = nI 56 := rfl
theorem lit_57 : (57 : Int32) = nI 57 := rfl
theorem lit_59 : (59 : Int32) = nI 59 := rfl
theorem lit_60 : (60 : Int32) = nI 60 := rfl
theorem lit_61 : (61 : Int32) = nI 61 := rfl
theorem lit_97 : (97 : Int32) = nI 97 := rfl
theorem lit_99 : (99 : Int32) = nI 99 := rfl
theorem lit_100 : (100 : Int32) = nI 100 := rfl
theorem lit_107 : (107 : Int32) = nI 107 := rfl
theorem lit_109 : (109 : Int32) = nI 109 := rfl
theorem lit_112 : (112 : Int32) = nI 112 := rfl
theorem lit_115 : (115 : Int32) = nI 115 := rfl
theorem lit_116 : (116 : Int32) = nI 116 := rfl
theorem lit_118 : (118 : Int32) = nI 118 := rfl
theorem lit_119 : (119 : Int32) = nI 119 := rfl
theorem lit_120 : (120 : Int32) = nI 120 := rfl
theorem lit_122 : (122 : Int32) = nI 122 := rfl
theorem lit_255 : (255 : Int32) = nI 255 := rfl
theorem lit_320 : (320 : Int32) = nI 320 := rfl
theorem lit_999 : (999 : Int32) = nI 999 := rfl
theorem z_clI {n : Nat} (h : n < 2 ^ 31) : (nI n).toNatClampNeg = n := nI_clamp h
theorem z_vp {n N : Nat} (h : n < N) (hN : N < 2 ^ 31) : vp_in (nI n) N ↔ True := iff_true_intro (vp_in_nI h hN)
theorem z_le {a b : Nat} (ha : a < 2 ^ 31) (hb : b < 2 ^ 31) : nI a ≤ nI b ↔ a ≤ b := nI_leI ha hb
theorem z_lt {a b : Nat} (ha : a < 2 ^ 31) (hb : b < 2 ^ 31) : nI a < nI b ↔ a < b := nI_ltI ha hb
theorem z_eq {a b : Nat} (ha : a < 2 ^ 31) (hb : b < 2 ^ 31) : nI a = nI b ↔ a = b := nI_eq ha hb
/-! the reference's test of a range -/
theorem lgc_lt (x y : Int64) : lg_cmp x y < 0 ↔ x < y := by
  have h := lg_cmp_ge x y
  rw [fa_lt64]
  rw [fa_le64] at h
  have e1 : lg_cmp x y < 0 ↔ ¬ (0 ≤ lg_cmp x y) := by rw [fa_lt, fa_le]; omega
  rw [e1, h]
  omega
theorem lgc_gt (x y : Int64) : 0 < lg_cmp x y ↔ y < x := by
  unfold lg_cmp
  split
  · rename_i h
    exact ⟨fun _ => h, fun _ => by decide⟩
  · rename_i h
    split
    · exact ⟨fun q => absurd q (by decide), fun q => absurd q h⟩
    · exact ⟨fun q => absurd q (by decide), fun q => absurd q h⟩
theorem t_in {N : Nat} {σ : kS} {v lo hi : Int64} {Q : Int32 → kS → Prop} : w_X7_in N σ v lo hi Q = if lo ≤ v ∧ v ≤ hi then Q 1 σ else Q 0 σ := by
  unfold w_X7_in
  simp only [lgc_lt, lgc_gt]
  by_cases h1 : v < lo
  · rw [if_pos h1, if_neg]
    rw [fa_lt64] at h1
    rw [fa_le64]
    omega
  · rw [if_neg h1]
    rw [fa_lt64] at h1
    by_cases h2 : hi < v
    · rw [if_pos h2, if_neg]
      rw [fa_lt64] at h2
      rw [fa_le64 v hi]
      omega
    · rw [if_neg h2, if_pos]
      rw [fa_lt64] at h2
      rw [fa_le64, fa_le64]
      omega
/-- a range between two numbers -/
theorem t_in32 {N : Nat} {σ : kS} {x : Int32} {lo hi : Int64} {Q : Int32 → kS → Prop} (a b : Int) (ha : lo.toInt = a) (hb : hi.toInt = b) : w_X7_in N σ x.toInt64 lo hi Q = if a ≤ x.toInt ∧ x.toInt ≤ b then Q 1 σ else Q 0 σ := by
  rw [t_in]
  simp only [fa_le64, ha, hb, Int32.toInt_toInt64]
theorem nI_inv {x : Int32} (h : 0 ≤ x.toInt) : ∃ n : Nat, n < 2 ^ 31 ∧ x = nI n ∧ x.toInt = n := by
  have r := fb_rng x
  refine ⟨x.toInt.toNat, by omega, ?_, by omega⟩
  rw [fa_eq, nI_toInt (by omega)]
  omega
