/-! ===== counts, bytes fed, kinds, questions ===== -/
section SM
variable {N : Nat} {σ : kS} {H : Nat → Nat} {Q : Int32 → kS → Prop} {G : Int32 → Int32 → kS → Prop}
def rcn (σ : kS) : Nat → Nat → Nat → Nat
  | 0, _, v => v
  | r + 1, k, v => rcn σ r (k + 1) (if σ 57 k < 0 then v else v + 1)
theorem l_rowsThere (hR : RW σ) : ∀ (r n k v : Nat), k + r = 8 → r < n → l_X6_rowsThere_4 N Q n (nI v) (nI k) σ = Q (nI (rcn σ r k v)) σ := by
  intro r
  induction r with
  | zero =>
    intro n k v hk hn
    obtain ⟨n, rfl⟩ : ∃ j, n = j + 1 := ⟨n - 1, by omega⟩
    show b_X6_rowsThere_4 N Q _ (nI v) (nI k) σ = _
    unfold b_X6_rowsThere_4
    simp (disch := omega) only [lit_0, lit_1, lit_2, lit_3, lit_4, lit_5, lit_6, lit_7, lit_8, lit_9, lit_10, lit_11, lit_12, lit_13, lit_14, lit_15, lit_16, lit_19, lit_23, lit_24, lit_25, lit_32, lit_33, lit_39, lit_40, lit_42, lit_44, lit_45, lit_46, lit_47, lit_48, lit_52, lit_56, lit_57, lit_59, lit_60, lit_61, lit_97, lit_99, lit_100, lit_107, lit_109, lit_112, lit_115, lit_116, lit_118, lit_119, lit_120, lit_122, lit_255, lit_320, lit_999, z_clI, z_vp, nI_add, pk_mul, z_le, z_lt, z_eq]
    rw [if_pos (by omega)]
    rfl
  | succ r ih =>
    intro n k v hk hn
    obtain ⟨n, rfl⟩ : ∃ j, n = j + 1 := ⟨n - 1, by omega⟩
    show b_X6_rowsThere_4 N Q _ (nI v) (nI k) σ = _
    unfold b_X6_rowsThere_4
    simp (disch := omega) only [lit_8, lit_1, z_clI, z_vp, nI_add, z_le]
    rw [if_neg (by omega)]
    simp only [true_and, and_true, forall_eq, if_true, if_false, ite_true, ite_false, t_miss]
    show _ = Q (nI (rcn σ r (k + 1) (if σ 57 k < 0 then v else v + 1))) σ
    rcases hR k (by omega) with ⟨m1, m2⟩ | ⟨l, m, h1, h2, h3, h4, h5, h6, h7⟩
    · rw [if_pos m1, if_neg (by decide), if_pos (by rw [m2]; exact m1_lt), ih n (k + 1) v (by omega) (by omega)]
    · rw [if_neg (by rw [h3]; exact nIm1 (by omega)), if_neg (by rw [h6]; exact nI_ngq (by omega)), ih n (k + 1) (v + 1) (by omega) (by omega)]
theorem l_count4 {x1 : Int32} {E : Int32 → kS → Prop} : ∀ (r n k v : Nat), k + r = 8 → r < n → l_X7_count_4 N Q x1 E n (nI v) (nI k) σ = E (nI (rcn σ r k v)) σ := by
  intro r
  induction r with
  | zero =>
    intro n k v hk hn
    obtain ⟨n, rfl⟩ : ∃ j, n = j + 1 := ⟨n - 1, by omega⟩
    show b_X7_count_4 N Q x1 E _ (nI v) (nI k) σ = _
    unfold b_X7_count_4
    simp (disch := omega) only [lit_0, lit_1, lit_2, lit_3, lit_4, lit_5, lit_6, lit_7, lit_8, lit_9, lit_10, lit_11, lit_12, lit_13, lit_14, lit_15, lit_16, lit_19, lit_23, lit_24, lit_25, lit_32, lit_33, lit_39, lit_40, lit_42, lit_44, lit_45, lit_46, lit_47, lit_48, lit_52, lit_56, lit_57, lit_59, lit_60, lit_61, lit_97, lit_99, lit_100, lit_107, lit_109, lit_112, lit_115, lit_116, lit_118, lit_119, lit_120, lit_122, lit_255, lit_320, lit_999, z_clI, z_vp, nI_add, pk_mul, z_le, z_lt, z_eq]
    rw [if_pos (by omega)]
    rfl
  | succ r ih =>
    intro n k v hk hn
    obtain ⟨n, rfl⟩ : ∃ j, n = j + 1 := ⟨n - 1, by omega⟩
    show b_X7_count_4 N Q x1 E _ (nI v) (nI k) σ = _
    unfold b_X7_count_4
    simp (disch := omega) only [lit_8, lit_1, z_clI, z_vp, nI_add, z_le, Int32.add_zero]
    rw [if_neg (by omega)]
    simp only [true_and, and_true, forall_eq, if_true, if_false, ite_true, ite_false]
    show _ = E (nI (rcn σ r (k + 1) (if σ 57 k < 0 then v else v + 1))) σ
    by_cases q : σ 57 k < 0
    · rw [if_pos q, if_pos q, ih n (k + 1) v (by omega) (by omega)]
    · rw [if_neg q, if_neg q, ih n (k + 1) (v + 1) (by omega) (by omega)]
theorem P_count (hN : 5000 ≤ N) (hI : Inv σ) (x1 : Int32) (hG : ∀ r τ, Inv τ → G r r τ) : w_X6_count N σ x1 (fun r1 τ => w_X7_count N τ x1 (fun r2 υ => G r1 r2 υ)) := by
  obtain ⟨H, ⟨hE, hC, hM, h4⟩, hR, hT, hTr, hIM, hA, hs⟩ := hI
  have hI : Inv σ := ⟨H, ⟨hE, hC, hM, h4⟩, hR, hT, hTr, hIM, hA, hs⟩
  have e : ∀ (Q : Int32 → kS → Prop), w_X7_count N σ x1 Q = _ := fun Q => l_count4 (N := N) (Q := Q) (x1 := x1) 8 N 0 0 (by omega) (by omega)
  have ea : ∀ (Q : Int32 → kS → Prop), w_X6_rowsThere N σ Q = _ := fun Q => l_rowsThere (N := N) (Q := Q) hR 8 N 0 0 (by omega) (by omega)
  obtain ⟨m, nx, V, -, -, a1, a2, -⟩ := hA
  obtain ⟨-, n, -, b1, b2, -⟩ := hT
  obtain ⟨c0, c1, c2, c3, c4, c5, -⟩ := hC
  unfold w_X6_count
  by_cases h0 : x1 = 0
  · rw [if_pos h0, ea]
    show w_X7_count N σ x1 _
    rw [e, if_pos h0]
    exact hG _ _ hI
  · rw [if_neg h0]
    simp only [e, h0, cl0, vq0, cl1, vq1, cl2, vq2, cl3, vq3, cl4, vq4, cl5, vq5, and_self, if_true, z10, if_false, true_and, hM 0 (by decide), hM 1 (by decide), hM 2 (by decide), hM 3 (by decide), hM 4 (by decide), hM 5 (by decide), c0, c1, c2, c3, c4, c5, a1, a2, b1, b2]
    by_cases h1 : x1 = 1
    · simp only [h1, and_self, if_true, z10, if_false, true_and, hG _ _ hI]
    · simp only [h1, if_false]
      by_cases h2 : x1 = 2
      · simp only [h2, and_self, if_true, z10, if_false, true_and, hG _ _ hI]
      · simp only [h2, if_false]
        by_cases h3 : x1 = 3
        · simp only [h3, and_self, if_true, z10, if_false, true_and, hG _ _ hI]
        · simp only [h3, if_false]
          by_cases h4 : x1 = 4
          · simp only [h4, and_self, if_true, z10, if_false, true_and, hG _ _ hI]
          · simp only [h4, if_false]
            by_cases h5 : x1 = 5
            · simp only [h5, and_self, if_true, z10, if_false, true_and, hG _ _ hI]
            · simp only [h5, if_false]
              by_cases h6 : x1 = 6
              · simp only [h6, and_self, if_true, z10, if_false, true_and, hG _ _ hI]
              · simp only [h6, if_false]
                by_cases h7 : x1 = 7
                · simp only [h7, and_self, if_true, z10, if_false, true_and, hG _ _ hI]
                · simp only [h7, if_false]
                  by_cases h8 : x1 = 8
                  · simp only [h8, and_self, if_true, z10, if_false, true_and, hG _ _ hI]
                  · simp only [h8, if_false, hG _ _ hI]
theorem Inv_tape {σ τ : kS} (hI : Inv σ) (h : ∀ c k, ¬ ((c = 31 ∧ k = 3) ∨ c = 32 ∨ c = 61 ∨ (c = 31 ∧ k = 5) ∨ (c = 55 ∧ (k = 8 ∨ k = 9))) → τ c k = σ c k) (hT : TP τ) : Inv τ := by
  obtain ⟨H, a, b, c, d, e, f, g⟩ := hI
  exact ⟨H, I0_cong (fun c k q => h c k (by omega)) a, RW_cong (fun c k q => h c k (by omega)) b, hT, TR_cong (fun c k q => h c k (by omega)) d, IM_cong (fun c k q => h c k (by omega)) e, AC_cong (fun c k q => h c k (by omega)) f, by rw [h _ _ (by omega), h _ _ (by omega), g]⟩
theorem P_feed (hI : Inv σ) (x1 : Int32) (hG : ∀ r τ, Inv τ → G r r τ) : w_X6_feed N σ x1 (fun r1 τ => w_X7_feed N τ x1 (fun r2 υ => G r1 r2 υ)) := by
  unfold w_X6_feed
  rw [rngA (x := x1) (lo := 0) (hi := 255) 0 255 rfl rfl]
  obtain ⟨t0, n, n1, t1, t2, t3⟩ := hI.choose_spec.2.2.1
  by_cases h : 0 ≤ x1.toInt ∧ x1.toInt ≤ 255
  · rw [if_pos h]
    obtain ⟨v, -, v1, rfl⟩ := arg_in2 (a := 0) (b := 255) h
    unfold w_X5_isFull
    simp only [t1, lit_120, z_lt (show n < 2 ^ 31 by omega) (show 120 < 2 ^ 31 by omega)]
    by_cases g : n < 120
    · have hv : vp_in (nI n) 120 := vp_in_nI g (by decide)
      have cn : (nI n).toNatClampNeg = n := nI_clamp (by omega)
      have e0 : st2 σ 32 n (nI v) 31 3 = nI n := by rw [st_ne (by omega), t1]
      have e8 : st2 (st2 σ 32 n (nI v)) 31 3 (nI n + 1) 55 8 = nI n := by rw [st_ne (by omega), st_ne (by omega), t2]
      simp only [g, if_true, w_X5_append, t1, hv, cn, forall_eq, true_and, e0, st_eq, w_X7_feed, t_in32 0 255 (show (0 : Int64).toInt = 0 by decide) (show (255 : Int64).toInt = 255 by decide), h, and_self, if_true, z10, if_false, true_and, e8]
      have nf : ¬ nI n = 120 := by rw [lit_120, z_eq (by omega) (by omega)]; omega
      have e9 : st2 (st2 (st2 σ 32 n (nI v)) 31 3 (nI n + 1)) 61 n (nI v) 55 8 = nI n := by rw [st_ne (by omega), e8]
      simp only [nf, if_false, e9, st_eq]
      have en : nI n + 1 = nI (n + 1) := by rw [lit_1, nI_add]
      rw [en]
      refine hG _ _ (Inv_tape hI (fun c k q => ?_) ⟨?_, n + 1, by omega, ?_, ?_, fun i hi => ?_⟩)
      · repeat (first | rw [st_ne (by omega)] | rw [blk_out (by omega)])
      · repeat (first | rw [st_ne (by omega)] | rw [blk_out (by omega)])
        exact t0
      · repeat (first | rw [st_ne (by omega)] | rw [blk_out (by omega)])
        rw [st_eq]
      · rw [st_eq]
      · by_cases e : i = n
        · subst e
          refine ⟨v, by omega, ?_, ?_⟩
          · repeat (first | rw [st_ne (by omega)] | rw [blk_out (by omega)])
            rw [st_eq]
          · repeat (first | rw [st_ne (by omega)] | rw [blk_out (by omega)])
            rw [st_eq]
        · obtain ⟨b, hb, b1, b2⟩ := t3 i (by omega)
          refine ⟨b, hb, ?_, ?_⟩
          · repeat (first | rw [st_ne (by omega)] | rw [blk_out (by omega)])
            exact b1
          · repeat (first | rw [st_ne (by omega)] | rw [blk_out (by omega)])
            exact b2
    · have en : n = 120 := by omega
      subst en
      simp only [g, if_false, z10, w_X7_feed, t_in32 0 255 (show (0 : Int64).toInt = 0 by decide) (show (255 : Int64).toInt = 255 by decide), h, and_self, if_true, z10, if_false, true_and, t2, ← lit_120, hG _ _ hI]
  · simp only [h, and_self, if_true, z10, if_false, true_and, w_X7_feed, t_in32 0 255 (show (0 : Int64).toInt = 0 by decide) (show (255 : Int64).toInt = 255 by decide), hG _ _ hI]
theorem t_kind {kd m : Nat} (h1 : 1 ≤ kd) (h2 : kd ≤ 5) (hm : m ≤ 5) : ∃ b : Bool, (∀ (τ : kS) (Q : Int32 → kS → Prop), w_X1_isOfKind N τ (nI kd) (nI m) Q = Q (if b then 1 else 0) τ) ∧ ∀ (τ : kS) (Q : Int32 → kS → Prop), w_X7_isKind N τ (nI kd) (nI m) Q = Q (if b then 1 else 0) τ := by
  have hk' : kd = 1 ∨ kd = 2 ∨ kd = 3 ∨ kd = 4 ∨ kd = 5 := by omega
  have hm' : m = 0 ∨ m = 1 ∨ m = 2 ∨ m = 3 ∨ m = 4 ∨ m = 5 := by omega
  clear h1 h2 hm
  have k0 : kabv 0 = nI 0 := rfl
  have k1 : kabv 1 = nI 0 := rfl
  have k2 : kabv 2 = nI 1 := rfl
  have k3 : kabv 3 = nI 1 := rfl
  have k4 : kabv 4 = nI 0 := rfl
  have k5 : kabv 5 = nI 4 := rfl
  refine ⟨decide (m = 0 ∨ m = kd ∨ (m = 1 ∧ kd < 4) ∨ (m = 4 ∧ kd = 5)), fun τ Q => ?_, fun τ Q => ?_⟩
  · unfold w_X1_isOfKind
    rcases hk' with rfl | rfl | rfl | rfl | rfl <;> rcases hm' with rfl | rfl | rfl | rfl | rfl | rfl <;> simp (disch := omega) [lit_0, lit_1, lit_2, lit_3, lit_4, lit_5, z_clI, z_vp, z_eq, z_lt, k0, k1, k2, k3, k4, k5]
  · unfold w_X7_isKind j_X7_isKind_19
    rcases hk' with rfl | rfl | rfl | rfl | rfl <;> rcases hm' with rfl | rfl | rfl | rfl | rfl | rfl <;> simp (disch := omega) [lit_0, lit_1, lit_2, lit_3, lit_4, lit_5, z_clI, z_vp, z_eq, z_lt, k0, k1, k2, k3, k4, k5]
theorem t_k4 {kd : Nat} {τ : kS} (h1 : 1 ≤ kd) (h2 : kd ≤ 5) : w_X1_isOfKind N τ (nI kd) 4 Q = Q (if 4 ≤ kd then 1 else 0) τ := by
  have hk' : kd = 1 ∨ kd = 2 ∨ kd = 3 ∨ kd = 4 ∨ kd = 5 := by omega
  clear h1 h2
  have k0 : kabv 0 = nI 0 := rfl
  have k1 : kabv 1 = nI 0 := rfl
  have k2 : kabv 2 = nI 1 := rfl
  have k3 : kabv 3 = nI 1 := rfl
  have k4 : kabv 4 = nI 0 := rfl
  have k5 : kabv 5 = nI 4 := rfl
  unfold w_X1_isOfKind
  rcases hk' with rfl | rfl | rfl | rfl | rfl <;> simp (disch := omega) [lit_0, lit_1, lit_2, lit_3, lit_4, lit_5, z_clI, z_vp, z_eq, z_lt, k0, k1, k2, k3, k4, k5]
theorem P_as (hI : Inv σ) (x1 x2 : Int32) (hG : ∀ r τ, Inv τ → G r r τ) : w_X6_as N σ x1 x2 (fun r1 τ => w_X7_as N τ x1 x2 (fun r2 υ => G r1 r2 υ)) := by
  obtain ⟨H, ⟨hE, hC, hM, h4⟩, hR, hT, hTr, hIM, hA, hs⟩ := hI
  have hI : Inv σ := ⟨H, ⟨hE, hC, hM, h4⟩, hR, hT, hTr, hIM, hA, hs⟩
  simp only [w_X6_as, t_hasPupil hC hE, rngA (x := x2) (lo := 0) (hi := 5) 0 5 rfl rfl]
  by_cases h : 0 ≤ x1.toInt ∧ x1.toInt < H 4
  · obtain ⟨q, hq, rfl⟩ := arg_in h
    have hV := hE.v4 (by omega)
    have h5 := hV.2.2.2.2.1
    by_cases g : 0 ≤ x2.toInt ∧ x2.toInt ≤ 5
    · obtain ⟨m, -, m1, rfl⟩ := arg_in2 (a := 0) (b := 5) g
      obtain ⟨⟨k1, k2⟩, -⟩ := hV.2.2.2.2.2.2.2.2 q hq
      have hvq : vp_in (nI q) 5 := vp_in_nI (by omega) (by decide)
      have cq : (nI q).toNatClampNeg = q := nI_clamp (by omega)
      have e42 : (42 : Int32) + nI q = nI (42 + q) := by rw [lit_42, nI_add]
      have hv42 : vp_in (nI (42 + q)) 57 := vp_in_nI (by omega) (by decide)
      have c42 : (nI (42 + q)).toNatClampNeg = 42 + q := nI_clamp (by omega)
      obtain ⟨b, b1, b2⟩ := t_kind (N := N) k1 k2 m1
      simp only [h, g, and_self, if_true, z10, if_false, true_and, hvq, cq, (hC.2.2.2.2.2.2.2.2 q hq).1, b1]
      have hMf : ∀ v, MH (st2 σ 0 8 v) H := fun v i hi => by rw [st_ne (by omega), hM i hi]
      cases b
      · simp only [Bool.false_eq_true, and_self, if_true, z10, if_false, true_and, t_found, w_X7_as, t_isPupil (hMf _) hE, t_in32 0 5 (show (0 : Int64).toInt = 0 by decide) (show (5 : Int64).toInt = 5 by decide), h, g, e42, hv42, c42, hMf _ (42 + q) (by omega), b2, t_find]
        exact hG _ _ (Inv_stat hI 3)
      · simp only [and_self, if_true, z10, if_false, true_and, t_fine, w_X7_as, t_isPupil (hMf _) hE, t_in32 0 5 (show (0 : Int64).toInt = 0 by decide) (show (5 : Int64).toInt = 5 by decide), h, g, e42, hv42, c42, hMf _ (42 + q) (by omega), b2, t_well]
        exact hG _ _ (Inv_stat hI 0)
    · simp only [h, g, and_self, if_true, z10, if_false, true_and, w_X7_as, t_isPupil hM hE, t_in32 0 5 (show (0 : Int64).toInt = 0 by decide) (show (5 : Int64).toInt = 5 by decide), hG _ _ hI]
  · simp only [h, and_self, if_true, z10, if_false, true_and, w_X7_as, t_isPupil hM hE, hG _ _ hI]
/-! what a question leaves -/
def tcs (σ : kS) : List Int32 → kS
  | [] => st2 σ 53 1 0
  | v :: L => st2 (st2 (tcs σ L) 54 L.length v) 53 1 (nI (L.length + 1))
def mts (σ : kS) : List Int32 → kS
  | [] => st2 σ 55 25 0
  | v :: L => st2 (st2 (mts σ L) 68 L.length v) 55 25 (nI (L.length + 1))
theorem tcs_n (L : List Int32) : tcs σ L 53 1 = nI L.length := by
  cases L with
  | nil => exact st_eq
  | cons v L => exact st_eq
theorem mts_n (L : List Int32) : mts σ L 55 25 = nI L.length := by
  cases L with
  | nil => exact st_eq
  | cons v L => exact st_eq
theorem tcs_o (L : List Int32) {c k : Nat} (h : ¬ (c = 53 ∧ k = 1)) (h' : c ≠ 54) : tcs σ L c k = σ c k := by
  induction L with
  | nil => exact st_ne h
  | cons v L ih => exact (st_ne h).trans ((st_ne (by omega)).trans ih)
theorem mts_o (L : List Int32) {c k : Nat} (h : ¬ (c = 55 ∧ k = 25)) (h' : c ≠ 68) : mts σ L c k = σ c k := by
  induction L with
  | nil => exact st_ne h
  | cons v L ih => exact (st_ne h).trans ((st_ne (by omega)).trans ih)
theorem tcm {τ : kS} (L : List Int32) : ∀ i, i < L.length → tcs σ L 54 i = mts τ L 68 i := by
  induction L with
  | nil => intro i hi; exact absurd hi (by simp)
  | cons v L ih =>
    intro i hi
    rw [List.length_cons] at hi
    show st2 (st2 (tcs σ L) 54 L.length v) 53 1 _ 54 i = st2 (st2 (mts τ L) 68 L.length v) 55 25 _ 68 i
    rw [st_ne (by omega), st_ne (c := 55) (by omega)]
    by_cases e : i = L.length
    · subst e
      rw [st_eq, st_eq]
    · rw [st_ne (by omega), st_ne (by omega), ih i (by omega)]
theorem t_leave {L : List Int32} {v : Int32} {Q : kS → Prop} (h : L.length < 16) : w_X1_leave N (tcs σ L) v Q = Q (tcs σ (v :: L)) := by
  unfold w_X1_leave
  rw [tcs_n, lit_16]
  simp (disch := omega) only [z_le, z_vp, z_clI, st_ne, tcs_n, lit_1, nI_add, forall_eq]
  rw [if_neg (by omega)]
  simp only [h, true_and]
  rfl
theorem t_mbegin {L : List Int32} {v : Int32} {Q : kS → Prop} (h : L.length < 16) : w_X7_begin N (mts σ L) v Q = Q (mts σ (v :: L)) := by
  unfold w_X7_begin
  rw [mts_n, lit_16]
  simp (disch := omega) only [z_le, z_vp, z_clI, st_ne, mts_n, lit_1, nI_add, forall_eq]
  rw [if_neg (by omega)]
  simp only [h, true_and]
  rfl
theorem Inv_trace {s : kS} (L : List Int32) (hL : L.length ≤ 16) (hI : Inv σ) (h : ∀ c k, c ≠ 53 → s c k = σ c k) : Inv (mts (tcs s L) L) := by
  have hh : ∀ c k, ¬ (c = 53 ∨ c = 54 ∨ (c = 55 ∧ k = 25) ∨ c = 68) → mts (tcs s L) L c k = σ c k := fun c k q => by
    rw [mts_o _ (by omega) (by omega), tcs_o _ (by omega) (by omega), h _ _ (by omega)]
  obtain ⟨H, a, b, c, d, e, f, g⟩ := hI
  refine ⟨H, I0_cong (fun c k q => hh c k (by omega)) a, RW_cong (fun c k q => hh c k (by omega)) b, TP_cong (fun c k q => hh c k (by omega)) c, ⟨L.length, hL, ?_, mts_n L, fun i hi => ?_⟩, IM_cong (fun c k q => hh c k (by omega)) e, AC_cong (fun c k q => hh c k (by omega)) f, by rw [hh _ _ (by omega), hh _ _ (by omega), g]⟩
  · rw [mts_o _ (by omega) (by omega), tcs_n]
  · rw [mts_o _ (by omega) (by omega)]
    exact tcm L i hi
theorem P_ask (hI : Inv σ) (x1 x2 : Int32) (hG : ∀ r τ, Inv τ → G r r τ) : w_X6_ask N σ x1 x2 (fun r1 τ => w_X7_ask N τ x1 x2 (fun r2 υ => G r1 r2 υ)) := by
  obtain ⟨H, ⟨hE, hC, hM, h4⟩, hR, hT, hTr, hIM, hA, hs⟩ := hI
  have hI : Inv σ := ⟨H, ⟨hE, hC, hM, h4⟩, hR, hT, hTr, hIM, hA, hs⟩
  simp only [w_X6_ask, t_hasPupil hC hE, rngA (x := x2) (lo := 0) (hi := 1) 0 1 rfl rfl]
  by_cases h : 0 ≤ x1.toInt ∧ x1.toInt < H 4
  · obtain ⟨q, hq, rfl⟩ := arg_in h
    have hV := hE.v4 (by omega)
    have h5 := hV.2.2.2.2.1
    by_cases g : 0 ≤ x2.toInt ∧ x2.toInt ≤ 1
    · obtain ⟨m, -, m1, rfl⟩ := arg_in2 (a := 0) (b := 1) g
      obtain ⟨⟨k1, k2⟩, -⟩ := hV.2.2.2.2.2.2.2.2 q hq
      obtain ⟨d1, d2, d3⟩ := hC.2.2.2.2.2.2.2.2 q hq
      have hvq : vp_in (nI q) 5 := vp_in_nI (by omega) (by decide)
      have cq : (nI q).toNatClampNeg = q := nI_clamp (by omega)
      have e42 : (42 : Int32) + nI q = nI (42 + q) := by rw [lit_42, nI_add]
      have hv42 : vp_in (nI (42 + q)) 57 := vp_in_nI (by omega) (by decide)
      have c42 : (nI (42 + q)).toNatClampNeg = 42 + q := nI_clamp (by omega)
      have e47 : (47 : Int32) + nI q = nI (47 + q) := by rw [lit_47, nI_add]
      have hv47 : vp_in (nI (47 + q)) 57 := vp_in_nI (by omega) (by decide)
      have c47 : (nI (47 + q)).toNatClampNeg = 47 + q := nI_clamp (by omega)
      have e52 : (52 : Int32) + nI q = nI (52 + q) := by rw [lit_52, nI_add]
      have hv52 : vp_in (nI (52 + q)) 57 := vp_in_nI (by omega) (by decide)
      have c52 : (nI (52 + q)).toNatClampNeg = 52 + q := nI_clamp (by omega)
      simp only [h, g, and_self, if_true, z10, if_false, true_and, hvq, cq, w_X1_begin, forall_eq, d1, d2, d3]
      obtain ⟨s, hs⟩ : ∃ s, s = st2 (st2 (st2 (st2 σ 53 2 (nI q)) 53 3 (nI (H (42 + q)))) 53 4 (nI (H (47 + q)))) 53 5 (nI (H (52 + q))) := ⟨_, rfl⟩
      have s0 : ∀ c k, c ≠ 53 → s c k = σ c k := fun c k q => by
        rw [hs]
        repeat (first | rw [st_ne (by omega)] | rw [blk_out (by omega)])
      have s2 : s 53 2 = nI q := by
        rw [hs]
        repeat (first | rw [st_ne (by omega)] | rw [blk_out (by omega)])
        rw [st_eq]
      have s3 : s 53 3 = nI (H (42 + q)) := by
        rw [hs]
        repeat (first | rw [st_ne (by omega)] | rw [blk_out (by omega)])
        rw [st_eq]
      have s4 : s 53 4 = nI (H (47 + q)) := by
        rw [hs]
        repeat (first | rw [st_ne (by omega)] | rw [blk_out (by omega)])
        rw [st_eq]
      have s5 : s 53 5 = nI (H (52 + q)) := by
        rw [hs, st_eq]
      rw [← hs, show st2 s 53 1 0 = tcs s [] from rfl]
      have r2 : ∀ L, tcs s L 53 2 = nI q := fun L => (tcs_o L (by decide) (by decide)).trans s2
      have r3 : ∀ L, tcs s L 53 3 = nI (H (42 + q)) := fun L => (tcs_o L (by decide) (by decide)).trans s3
      have r4 : ∀ L, tcs s L 53 4 = nI (H (47 + q)) := fun L => (tcs_o L (by decide) (by decide)).trans s4
      have r5 : ∀ L, tcs s L 53 5 = nI (H (52 + q)) := fun L => (tcs_o L (by decide) (by decide)).trans s5
      have hM1 : ∀ L, MH (tcs s L) H := fun L i hi => by rw [tcs_o L (by omega) (by omega), s0 _ _ (by omega), hM i hi]
      have hM2 : ∀ L L', MH (mts (tcs s L) L') H := fun L L' i hi => by rw [mts_o L' (by omega) (by omega), hM1 L i hi]
      have u2 : ∀ L L', mts (tcs s L) L' 59 (42 + q) = nI (H (42 + q)) := fun L L' => hM2 L L' _ (by omega)
      have u4 : ∀ L L', mts (tcs s L) L' 59 (47 + q) = nI (H (47 + q)) := fun L L' => hM2 L L' _ (by omega)
      have u5 : ∀ L L', mts (tcs s L) L' 59 (52 + q) = nI (H (52 + q)) := fun L L' => hM2 L L' _ (by omega)
      have fin : ∀ L, L.length ≤ 16 → ∀ r, G r r (mts (tcs s L) L) := fun L hL r => hG _ _ (Inv_trace L hL hI s0)
      have b0 : ∀ L, st2 (tcs s L) 55 25 0 = mts (tcs s L) [] := fun L => rfl
      have hm' : m = 0 ∨ m = 1 := by omega
      have hk' : H (42 + q) = 1 ∨ H (42 + q) = 2 ∨ H (42 + q) = 3 ∨ H (42 + q) = 4 ∨ H (42 + q) = 5 := by omega
      clear hs hTr hA hIM hT hR
      have y0 : ((nI 0 : Int32) = 0) = True := eq_true rfl
      have y1 : ¬ (nI 1 : Int32) = 0 := by decide
      have y12 : ¬ (nI 1 : Int32) = 2 := by decide
      have y13 : ¬ (nI 1 : Int32) = 3 := by decide
      have y14 : ¬ (nI 1 : Int32) = 4 := by decide
      have y15 : ¬ (nI 1 : Int32) = 5 := by decide
      have y22 : ((nI 2 : Int32) = 2) = True := eq_true (by decide)
      have y32 : ¬ (nI 3 : Int32) = 2 := by decide
      have y33 : ((nI 3 : Int32) = 3) = True := eq_true (by decide)
      have y42 : ¬ (nI 4 : Int32) = 2 := by decide
      have y43 : ¬ (nI 4 : Int32) = 3 := by decide
      have y44 : ((nI 4 : Int32) = 4) = True := eq_true (by decide)
      have y45 : ¬ (nI 4 : Int32) = 5 := by decide
      have y41 : ¬ (nI 4 : Int32) = 1 := by decide
      have y52 : ¬ (nI 5 : Int32) = 2 := by decide
      have y53 : ¬ (nI 5 : Int32) = 3 := by decide
      have y54 : ¬ (nI 5 : Int32) = 4 := by decide
      have y55 : ((nI 5 : Int32) = 5) = True := eq_true (by decide)
      have y51 : ¬ (nI 5 : Int32) = 1 := by decide
      have y11 : ((nI 1 : Int32) = 1) = True := eq_true (by decide)
      have x14 : (nI 1 : Int32) < 4 := by decide
      have x34 : (nI 3 : Int32) < 4 := by decide
      have x44 : ¬ (nI 4 : Int32) < 4 := by decide
      have x54 : ¬ (nI 5 : Int32) < 4 := by decide
      have x20 : ¬ (20 : Int32) = 10 := by decide
      rcases hk' with kk | kk | kk | kk | kk <;> rcases hm' with rfl | rfl
      · simp (disch := decide) only [↓w_X1_sizeOfOne, ↓w_X1_markOfOne, ↓w_X1_markOfPlayer, ↓w_X1_body10, ↓w_X1_body11, ↓w_X1_body13, ↓w_X1_body20, ↓w_X1_body21, ↓w_X1_body23, ↓w_X1_sizeOfCarrier, ↓t_leave, r2, r3, r4, r5, kk, ↓forall_eq, ↓t_k4 (show 1 ≤ 1 by decide) (show 1 ≤ 5 by decide), y0, y1, y12, y13, y14, y15, y22, y32, y33, y42, y43, y44, y45, y41, y52, y53, y54, y55, y51, y11, x14, x34, x44, x54, x20, ↓reduceIte, z10, true_and, Nat.reduceLeDiff]
        simp (disch := decide) only [↓w_X7_ask, ↓t_isPupil (hM1 _) hE, ↓t_in32 0 1 (show (0 : Int64).toInt = 0 by decide) (show (1 : Int64).toInt = 1 by decide), h, g, and_self, ↓forall_eq, b0, ↓reduceIte, z10, y0, y1]
        simp (disch := decide) only [↓forall_eq, and_self, ↓w_X7_sizeOf, ↓w_X7_markOf, ↓w_X7_playerSize, ↓w_X7_playerMark, ↓w_X7_lent, ↓w_X7_carrierSize, ↓w_X7_sizeOfCarrier, ↓t_mbegin, e42, hv42, c42, e47, hv47, c47, e52, hv52, c52, u2, u4, u5, kk, y0, y1, y12, y13, y14, y15, y22, y32, y33, y42, y43, y44, y45, y41, y52, y53, y54, y55, y51, y11, x14, x34, x44, x54, x20, ↓reduceIte, z10, true_and]
        exact fin _ (by decide) _
      · simp (disch := decide) only [↓w_X1_sizeOfOne, ↓w_X1_markOfOne, ↓w_X1_markOfPlayer, ↓w_X1_body10, ↓w_X1_body11, ↓w_X1_body13, ↓w_X1_body20, ↓w_X1_body21, ↓w_X1_body23, ↓w_X1_sizeOfCarrier, ↓t_leave, r2, r3, r4, r5, kk, ↓forall_eq, ↓t_k4 (show 1 ≤ 1 by decide) (show 1 ≤ 5 by decide), y0, y1, y12, y13, y14, y15, y22, y32, y33, y42, y43, y44, y45, y41, y52, y53, y54, y55, y51, y11, x14, x34, x44, x54, x20, ↓reduceIte, z10, true_and, Nat.reduceLeDiff]
        simp (disch := decide) only [↓w_X7_ask, ↓t_isPupil (hM1 _) hE, ↓t_in32 0 1 (show (0 : Int64).toInt = 0 by decide) (show (1 : Int64).toInt = 1 by decide), h, g, and_self, ↓forall_eq, b0, ↓reduceIte, z10, y0, y1]
        simp (disch := decide) only [↓forall_eq, and_self, ↓w_X7_sizeOf, ↓w_X7_markOf, ↓w_X7_playerSize, ↓w_X7_playerMark, ↓w_X7_lent, ↓w_X7_carrierSize, ↓w_X7_sizeOfCarrier, ↓t_mbegin, e42, hv42, c42, e47, hv47, c47, e52, hv52, c52, u2, u4, u5, kk, y0, y1, y12, y13, y14, y15, y22, y32, y33, y42, y43, y44, y45, y41, y52, y53, y54, y55, y51, y11, x14, x34, x44, x54, x20, ↓reduceIte, z10, true_and]
        exact fin _ (by decide) _
      · simp (disch := decide) only [↓w_X1_sizeOfOne, ↓w_X1_markOfOne, ↓w_X1_markOfPlayer, ↓w_X1_body10, ↓w_X1_body11, ↓w_X1_body13, ↓w_X1_body20, ↓w_X1_body21, ↓w_X1_body23, ↓w_X1_sizeOfCarrier, ↓t_leave, r2, r3, r4, r5, kk, ↓forall_eq, ↓t_k4 (show 1 ≤ 2 by decide) (show 2 ≤ 5 by decide), y0, y1, y12, y13, y14, y15, y22, y32, y33, y42, y43, y44, y45, y41, y52, y53, y54, y55, y51, y11, x14, x34, x44, x54, x20, ↓reduceIte, z10, true_and, Nat.reduceLeDiff]
        simp (disch := decide) only [↓w_X7_ask, ↓t_isPupil (hM1 _) hE, ↓t_in32 0 1 (show (0 : Int64).toInt = 0 by decide) (show (1 : Int64).toInt = 1 by decide), h, g, and_self, ↓forall_eq, b0, ↓reduceIte, z10, y0, y1]
        simp (disch := decide) only [↓forall_eq, and_self, ↓w_X7_sizeOf, ↓w_X7_markOf, ↓w_X7_playerSize, ↓w_X7_playerMark, ↓w_X7_lent, ↓w_X7_carrierSize, ↓w_X7_sizeOfCarrier, ↓t_mbegin, e42, hv42, c42, e47, hv47, c47, e52, hv52, c52, u2, u4, u5, kk, y0, y1, y12, y13, y14, y15, y22, y32, y33, y42, y43, y44, y45, y41, y52, y53, y54, y55, y51, y11, x14, x34, x44, x54, x20, ↓reduceIte, z10, true_and]
        exact fin _ (by decide) _
      · simp (disch := decide) only [↓w_X1_sizeOfOne, ↓w_X1_markOfOne, ↓w_X1_markOfPlayer, ↓w_X1_body10, ↓w_X1_body11, ↓w_X1_body13, ↓w_X1_body20, ↓w_X1_body21, ↓w_X1_body23, ↓w_X1_sizeOfCarrier, ↓t_leave, r2, r3, r4, r5, kk, ↓forall_eq, ↓t_k4 (show 1 ≤ 2 by decide) (show 2 ≤ 5 by decide), y0, y1, y12, y13, y14, y15, y22, y32, y33, y42, y43, y44, y45, y41, y52, y53, y54, y55, y51, y11, x14, x34, x44, x54, x20, ↓reduceIte, z10, true_and, Nat.reduceLeDiff]
        simp (disch := decide) only [↓w_X7_ask, ↓t_isPupil (hM1 _) hE, ↓t_in32 0 1 (show (0 : Int64).toInt = 0 by decide) (show (1 : Int64).toInt = 1 by decide), h, g, and_self, ↓forall_eq, b0, ↓reduceIte, z10, y0, y1]
        simp (disch := decide) only [↓forall_eq, and_self, ↓w_X7_sizeOf, ↓w_X7_markOf, ↓w_X7_playerSize, ↓w_X7_playerMark, ↓w_X7_lent, ↓w_X7_carrierSize, ↓w_X7_sizeOfCarrier, ↓t_mbegin, e42, hv42, c42, e47, hv47, c47, e52, hv52, c52, u2, u4, u5, kk, y0, y1, y12, y13, y14, y15, y22, y32, y33, y42, y43, y44, y45, y41, y52, y53, y54, y55, y51, y11, x14, x34, x44, x54, x20, ↓reduceIte, z10, true_and]
        exact fin _ (by decide) _
      · simp (disch := decide) only [↓w_X1_sizeOfOne, ↓w_X1_markOfOne, ↓w_X1_markOfPlayer, ↓w_X1_body10, ↓w_X1_body11, ↓w_X1_body13, ↓w_X1_body20, ↓w_X1_body21, ↓w_X1_body23, ↓w_X1_sizeOfCarrier, ↓t_leave, r2, r3, r4, r5, kk, ↓forall_eq, ↓t_k4 (show 1 ≤ 3 by decide) (show 3 ≤ 5 by decide), y0, y1, y12, y13, y14, y15, y22, y32, y33, y42, y43, y44, y45, y41, y52, y53, y54, y55, y51, y11, x14, x34, x44, x54, x20, ↓reduceIte, z10, true_and, Nat.reduceLeDiff]
        simp (disch := decide) only [↓w_X7_ask, ↓t_isPupil (hM1 _) hE, ↓t_in32 0 1 (show (0 : Int64).toInt = 0 by decide) (show (1 : Int64).toInt = 1 by decide), h, g, and_self, ↓forall_eq, b0, ↓reduceIte, z10, y0, y1]
        simp (disch := decide) only [↓forall_eq, and_self, ↓w_X7_sizeOf, ↓w_X7_markOf, ↓w_X7_playerSize, ↓w_X7_playerMark, ↓w_X7_lent, ↓w_X7_carrierSize, ↓w_X7_sizeOfCarrier, ↓t_mbegin, e42, hv42, c42, e47, hv47, c47, e52, hv52, c52, u2, u4, u5, kk, y0, y1, y12, y13, y14, y15, y22, y32, y33, y42, y43, y44, y45, y41, y52, y53, y54, y55, y51, y11, x14, x34, x44, x54, x20, ↓reduceIte, z10, true_and]
        exact fin _ (by decide) _
      · simp (disch := decide) only [↓w_X1_sizeOfOne, ↓w_X1_markOfOne, ↓w_X1_markOfPlayer, ↓w_X1_body10, ↓w_X1_body11, ↓w_X1_body13, ↓w_X1_body20, ↓w_X1_body21, ↓w_X1_body23, ↓w_X1_sizeOfCarrier, ↓t_leave, r2, r3, r4, r5, kk, ↓forall_eq, ↓t_k4 (show 1 ≤ 3 by decide) (show 3 ≤ 5 by decide), y0, y1, y12, y13, y14, y15, y22, y32, y33, y42, y43, y44, y45, y41, y52, y53, y54, y55, y51, y11, x14, x34, x44, x54, x20, ↓reduceIte, z10, true_and, Nat.reduceLeDiff]
        simp (disch := decide) only [↓w_X7_ask, ↓t_isPupil (hM1 _) hE, ↓t_in32 0 1 (show (0 : Int64).toInt = 0 by decide) (show (1 : Int64).toInt = 1 by decide), h, g, and_self, ↓forall_eq, b0, ↓reduceIte, z10, y0, y1]
        simp (disch := decide) only [↓forall_eq, and_self, ↓w_X7_sizeOf, ↓w_X7_markOf, ↓w_X7_playerSize, ↓w_X7_playerMark, ↓w_X7_lent, ↓w_X7_carrierSize, ↓w_X7_sizeOfCarrier, ↓t_mbegin, e42, hv42, c42, e47, hv47, c47, e52, hv52, c52, u2, u4, u5, kk, y0, y1, y12, y13, y14, y15, y22, y32, y33, y42, y43, y44, y45, y41, y52, y53, y54, y55, y51, y11, x14, x34, x44, x54, x20, ↓reduceIte, z10, true_and]
        exact fin _ (by decide) _
      · simp (disch := decide) only [↓w_X1_sizeOfOne, ↓w_X1_markOfOne, ↓w_X1_markOfPlayer, ↓w_X1_body10, ↓w_X1_body11, ↓w_X1_body13, ↓w_X1_body20, ↓w_X1_body21, ↓w_X1_body23, ↓w_X1_sizeOfCarrier, ↓t_leave, r2, r3, r4, r5, kk, ↓forall_eq, ↓t_k4 (show 1 ≤ 4 by decide) (show 4 ≤ 5 by decide), y0, y1, y12, y13, y14, y15, y22, y32, y33, y42, y43, y44, y45, y41, y52, y53, y54, y55, y51, y11, x14, x34, x44, x54, x20, ↓reduceIte, z10, true_and, Nat.reduceLeDiff]
        simp (disch := decide) only [↓w_X7_ask, ↓t_isPupil (hM1 _) hE, ↓t_in32 0 1 (show (0 : Int64).toInt = 0 by decide) (show (1 : Int64).toInt = 1 by decide), h, g, and_self, ↓forall_eq, b0, ↓reduceIte, z10, y0, y1]
        simp (disch := decide) only [↓forall_eq, and_self, ↓w_X7_sizeOf, ↓w_X7_markOf, ↓w_X7_playerSize, ↓w_X7_playerMark, ↓w_X7_lent, ↓w_X7_carrierSize, ↓w_X7_sizeOfCarrier, ↓t_mbegin, e42, hv42, c42, e47, hv47, c47, e52, hv52, c52, u2, u4, u5, kk, y0, y1, y12, y13, y14, y15, y22, y32, y33, y42, y43, y44, y45, y41, y52, y53, y54, y55, y51, y11, x14, x34, x44, x54, x20, ↓reduceIte, z10, true_and]
        exact fin _ (by decide) _
      · simp (disch := decide) only [↓w_X1_sizeOfOne, ↓w_X1_markOfOne, ↓w_X1_markOfPlayer, ↓w_X1_body10, ↓w_X1_body11, ↓w_X1_body13, ↓w_X1_body20, ↓w_X1_body21, ↓w_X1_body23, ↓w_X1_sizeOfCarrier, ↓t_leave, r2, r3, r4, r5, kk, ↓forall_eq, ↓t_k4 (show 1 ≤ 4 by decide) (show 4 ≤ 5 by decide), y0, y1, y12, y13, y14, y15, y22, y32, y33, y42, y43, y44, y45, y41, y52, y53, y54, y55, y51, y11, x14, x34, x44, x54, x20, ↓reduceIte, z10, true_and, Nat.reduceLeDiff]
        simp (disch := decide) only [↓w_X7_ask, ↓t_isPupil (hM1 _) hE, ↓t_in32 0 1 (show (0 : Int64).toInt = 0 by decide) (show (1 : Int64).toInt = 1 by decide), h, g, and_self, ↓forall_eq, b0, ↓reduceIte, z10, y0, y1]
        simp (disch := decide) only [↓forall_eq, and_self, ↓w_X7_sizeOf, ↓w_X7_markOf, ↓w_X7_playerSize, ↓w_X7_playerMark, ↓w_X7_lent, ↓w_X7_carrierSize, ↓w_X7_sizeOfCarrier, ↓t_mbegin, e42, hv42, c42, e47, hv47, c47, e52, hv52, c52, u2, u4, u5, kk, y0, y1, y12, y13, y14, y15, y22, y32, y33, y42, y43, y44, y45, y41, y52, y53, y54, y55, y51, y11, x14, x34, x44, x54, x20, ↓reduceIte, z10, true_and]
        exact fin _ (by decide) _
      · simp (disch := decide) only [↓w_X1_sizeOfOne, ↓w_X1_markOfOne, ↓w_X1_markOfPlayer, ↓w_X1_body10, ↓w_X1_body11, ↓w_X1_body13, ↓w_X1_body20, ↓w_X1_body21, ↓w_X1_body23, ↓w_X1_sizeOfCarrier, ↓t_leave, r2, r3, r4, r5, kk, ↓forall_eq, ↓t_k4 (show 1 ≤ 5 by decide) (show 5 ≤ 5 by decide), y0, y1, y12, y13, y14, y15, y22, y32, y33, y42, y43, y44, y45, y41, y52, y53, y54, y55, y51, y11, x14, x34, x44, x54, x20, ↓reduceIte, z10, true_and, Nat.reduceLeDiff]
        simp (disch := decide) only [↓w_X7_ask, ↓t_isPupil (hM1 _) hE, ↓t_in32 0 1 (show (0 : Int64).toInt = 0 by decide) (show (1 : Int64).toInt = 1 by decide), h, g, and_self, ↓forall_eq, b0, ↓reduceIte, z10, y0, y1]
        simp (disch := decide) only [↓forall_eq, and_self, ↓w_X7_sizeOf, ↓w_X7_markOf, ↓w_X7_playerSize, ↓w_X7_playerMark, ↓w_X7_lent, ↓w_X7_carrierSize, ↓w_X7_sizeOfCarrier, ↓t_mbegin, e42, hv42, c42, e47, hv47, c47, e52, hv52, c52, u2, u4, u5, kk, y0, y1, y12, y13, y14, y15, y22, y32, y33, y42, y43, y44, y45, y41, y52, y53, y54, y55, y51, y11, x14, x34, x44, x54, x20, ↓reduceIte, z10, true_and]
        exact fin _ (by decide) _
      · simp (disch := decide) only [↓w_X1_sizeOfOne, ↓w_X1_markOfOne, ↓w_X1_markOfPlayer, ↓w_X1_body10, ↓w_X1_body11, ↓w_X1_body13, ↓w_X1_body20, ↓w_X1_body21, ↓w_X1_body23, ↓w_X1_sizeOfCarrier, ↓t_leave, r2, r3, r4, r5, kk, ↓forall_eq, ↓t_k4 (show 1 ≤ 5 by decide) (show 5 ≤ 5 by decide), y0, y1, y12, y13, y14, y15, y22, y32, y33, y42, y43, y44, y45, y41, y52, y53, y54, y55, y51, y11, x14, x34, x44, x54, x20, ↓reduceIte, z10, true_and, Nat.reduceLeDiff]
        simp (disch := decide) only [↓w_X7_ask, ↓t_isPupil (hM1 _) hE, ↓t_in32 0 1 (show (0 : Int64).toInt = 0 by decide) (show (1 : Int64).toInt = 1 by decide), h, g, and_self, ↓forall_eq, b0, ↓reduceIte, z10, y0, y1]
        simp (disch := decide) only [↓forall_eq, and_self, ↓w_X7_sizeOf, ↓w_X7_markOf, ↓w_X7_playerSize, ↓w_X7_playerMark, ↓w_X7_lent, ↓w_X7_carrierSize, ↓w_X7_sizeOfCarrier, ↓t_mbegin, e42, hv42, c42, e47, hv47, c47, e52, hv52, c52, u2, u4, u5, kk, y0, y1, y12, y13, y14, y15, y22, y32, y33, y42, y43, y44, y45, y41, y52, y53, y54, y55, y51, y11, x14, x34, x44, x54, x20, ↓reduceIte, z10, true_and]
        exact fin _ (by decide) _
    · simp only [h, g, and_self, if_true, z10, if_false, true_and, ↓w_X7_ask, ↓t_isPupil hM hE, ↓t_in32 0 1 (show (0 : Int64).toInt = 0 by decide) (show (1 : Int64).toInt = 1 by decide), hG _ _ hI]
  · simp only [h, and_self, if_true, z10, if_false, true_and, ↓w_X7_ask, ↓t_isPupil hM hE, hG _ _ hI]
end SM
