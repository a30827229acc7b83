/-! ===== rows ===== -/
theorem st_ne {σ : kS} {c k c' k' : Nat} {v : Int32} (h : ¬ (c' = c ∧ k' = k)) : st2 σ c k v c' k' = σ c' k' := by rw [st2_app, if_neg h]
theorem st_eq {σ : kS} {c k : Nat} {v : Int32} : st2 σ c k v c k = v := by rw [st2_app, if_pos ⟨rfl, rfl⟩]
theorem RWr_cong {σ τ : kS} {r : Nat} (h : ∀ c k, (c = 2 + 2 * r ∨ c = 2 + 2 * r + 1 ∨ (c = 56 ∧ k = r) ∨ (c = 57 ∧ k = r) ∨ (c = 58 ∧ 40 * r ≤ k ∧ k < 40 * r + 40)) → τ c k = σ c k) (hR : RWr σ r) : RWr τ r := by
  rcases hR with ⟨a, b⟩ | ⟨l, n, h1, h2, h3, h4, h5, h6, h7⟩
  · left
    rw [h _ _ (by omega), h _ _ (by omega)]
    exact ⟨a, b⟩
  · right
    refine ⟨l, n, h1, h2, ?_, ?_, ?_, ?_, fun i hi => ?_⟩
    · rw [h _ _ (by omega), h3]
    · rw [h _ _ (by omega), h4]
    · rw [h _ _ (by omega), h5]
    · rw [h _ _ (by omega), h6]
    · rw [h _ _ (by omega), h _ _ (by omega), h7 i hi]
/-- all but rows and status stay -/
theorem Inv_rows {σ τ : kS} (hI : Inv σ) (h : ∀ c k, ¬ ((2 ≤ c ∧ c ≤ 17) ∨ c = 56 ∨ c = 57 ∨ c = 58 ∨ c = 60 ∨ (c = 0 ∧ k = 8) ∨ (c = 55 ∧ k = 3)) → τ c k = σ c k) (hR : RW τ) (hs : τ 55 3 = τ 0 8) : Inv τ := by
  obtain ⟨H, a, b, c, d, e, f, g⟩ := hI
  exact ⟨H, I0_cong (fun c k q => h c k (by omega)) a, hR, TP_cong (fun c k q => h c k (by omega)) c, TR_cong (fun c k q => h c k (by omega)) d, IM_cong (fun c k q => h c k (by omega)) e, AC_cong (fun c k q => h c k (by omega)) f, hs⟩
/-- a finding, or none -/
theorem Inv_stat {σ : kS} (hI : Inv σ) (v : Int32) : Inv (st2 (st2 σ 0 8 v) 55 3 v) := by
  refine Inv_rows hI (fun c k q => ?_) (RW_cong (fun c k q => ?_) hI.choose_spec.2.1) ?_
  · repeat (first | rw [st_ne (by omega)] | rw [blk_out (by omega)])
  · repeat (first | rw [st_ne (by omega)] | rw [blk_out (by omega)])
  · rw [st_eq, st_ne (by omega), st_eq]
section RO
variable {N : Nat} {σ : kS} {Q : Int32 → kS → Prop} {G : Int32 → Int32 → kS → Prop}
theorem t_isRow6 {x : Int32} : w_X6_isRow N σ x Q = if 0 ≤ x.toInt ∧ x.toInt < 8 then Q 1 σ else Q 0 σ := rng_cl (x := x) (n := 8) (by decide)
theorem t_isRow7 {x : Int32} : w_X7_isRow N σ x Q = if 0 ≤ x.toInt ∧ x.toInt < 8 then Q 1 σ else Q 0 σ := by
  unfold w_X7_isRow
  rw [t_in32 0 7 (by decide) (by decide)]
  by_cases h : 0 ≤ x.toInt ∧ x.toInt < 8
  · rw [if_pos h, if_pos (by omega)]; simp
  · rw [if_neg h, if_neg (by omega)]; simp
theorem arg_in8 {x : Int32} (h : 0 ≤ x.toInt ∧ x.toInt < 8) : ∃ q : Nat, q < 8 ∧ x = nI q := arg_in (n := 8) h
theorem t_miss {c : Nat} : w_X4_isMissing N σ c Q = if σ c 1 = -1 then Q 1 σ else Q 0 σ := rfl
theorem t_found {f : Int32} : w_X6_found N σ f Q = Q (-1000010 - f) (st2 σ 0 8 f) := by simp only [w_X6_found, forall_eq]
theorem t_fine {x : Int32} : w_X6_fine N σ x Q = Q x (st2 σ 0 8 0) := by simp only [w_X6_fine, forall_eq]
theorem t_find {f : Int32} : w_X7_find N σ f Q = Q (-1000010 - f) (st2 σ 55 3 f) := by simp only [w_X7_find, forall_eq]
theorem t_well {x : Int32} : w_X7_well N σ x Q = Q x (st2 σ 55 3 0) := by simp only [w_X7_well, forall_eq]
theorem nIm1 {n : Nat} (h : n < 2 ^ 31) : ¬ nI n = -1 := by
  rw [fa_eq, nI_toInt h]
  have z : (-1 : Int32).toInt = -1 := by decide
  omega
theorem m1_lt : (-1 : Int32) < 0 := by decide
theorem m1_nle : ¬ (0 : Int32) ≤ -1 := by decide
theorem P_row (hN : 5000 ≤ N) (hI : Inv σ) (x1 x2 x3 : Int32) (hG : ∀ r τ, Inv τ → G r r τ) : w_X6_row N σ x1 x2 x3 (fun r1 τ => w_X7_row N τ x1 x2 x3 (fun r2 υ => G r1 r2 υ)) := by
  simp only [w_X6_row, t_isRow6]
  by_cases h : 0 ≤ x1.toInt ∧ x1.toInt < 8
  · obtain ⟨r, hr, rfl⟩ := arg_in8 h
    simp only [h, and_self, if_true, z10, if_false, true_and, w_X4_isLane, rngB (x := x2) (lo := 0) (hi := 2) 0 2 rfl rfl]
    by_cases g : 0 ≤ x2.toInt ∧ x2.toInt ≤ 2
    · obtain ⟨l, -, l2, rfl⟩ := arg_in2 (a := 0) (b := 2) g
      simp only [g, and_self, if_true, z10, if_false, true_and]
      by_cases a : x3 ≤ 40
      · by_cases b : (0 : Int32) ≤ x3
        · obtain ⟨n, -, n2, rfl⟩ := arg_in2 (x := x3) (a := 0) (b := 40) ⟨by rw [fa_le] at b; exact b, by rw [fa_le] at a; exact a⟩
          have hv : vp_in (nI r) 8 := vp_in_nI hr (by decide)
          have cr : (nI r).toNatClampNeg = r := nI_clamp (by omega)
          simp only [a, b, and_self, if_true, z10, if_false, true_and, hv, cr, w_X4_begin, w_J7_fill_53178, forall_eq, t_fine]
          have e0 := l_fill (N := N) (σ := σ) (a := 2 + 2 * r + 1) (v := 0) (Qv := fun σ_1 => w_X7_row N (st2 (st2 (st2 σ_1 (2 + 2 * r) 1 (nI l)) (2 + 2 * r) 2 (nI n)) 0 8 0) (nI r) (nI l) (nI n) fun r2 υ => G (nI n) r2 υ) 40 N 0 (by omega) (by omega)
          rw [blk_0] at e0
          refine Eq.mpr e0 ?_
          simp only [w_X7_row, t_isRow7, h, and_self, if_true, z10, if_false, true_and, t_in32 0 2 (show (0 : Int64).toInt = 0 by decide) (show (2 : Int64).toInt = 2 by decide), g, a, b, hv, cr, forall_eq]
          have e1 := l_row55 (N := N) (Q := fun r2 υ => G (nI n) r2 υ) (x3 := nI n) (E := fun σ_12 => w_X7_well N σ_12 (nI n) fun r_14 σ_13 => G (nI n) r_14 σ_13) (σ := st2 (st2 (st2 (st2 (st2 (blk σ (2 + 2 * r + 1) 0 40 fun _ => 0) (2 + 2 * r) 1 (nI l)) (2 + 2 * r) 2 (nI n)) 0 8 0) 56 r (nI l)) 57 r (nI n)) hr 40 N 0 (by omega) (by omega)
          rw [blk_0] at e1
          refine Eq.mpr e1 ?_
          rw [t_well]
          refine hG _ _ (Inv_rows hI (fun c k q => ?_) (fun r' hr' => ?_) ?_)
          · repeat (first | rw [st_ne (by omega)] | rw [blk_out (by omega)])
          · by_cases e : r' = r
            · subst e
              right
              refine ⟨l, n, l2, n2, ?_, ?_, ?_, ?_, fun i hi => ?_⟩
              · repeat (first | rw [st_ne (by omega)] | rw [blk_out (by omega)])
                rw [st_eq]
              · repeat (first | rw [st_ne (by omega)] | rw [blk_out (by omega)])
                rw [st_eq]
              · repeat (first | rw [st_ne (by omega)] | rw [blk_out (by omega)])
                rw [st_eq]
              · repeat (first | rw [st_ne (by omega)] | rw [blk_out (by omega)])
                rw [st_eq]
              · rw [st_ne (by omega), blk_out (by omega), st_ne (by omega), st_ne (by omega), st_ne (by omega), st_ne (by omega), st_ne (by omega), blk_in (by omega) (by omega), st_ne (by omega), blk_in (by omega) (by omega)]
            · refine RWr_cong (fun c k q => ?_) (hI.choose_spec.2.1 r' hr')
              repeat (first | rw [st_ne (by omega)] | rw [blk_out (by omega)])
          · rw [st_eq]
            repeat (first | rw [st_ne (by omega)] | rw [blk_out (by omega)])
            rw [st_eq]
        · simp only [a, b, and_self, if_true, z10, if_false, true_and, t_found, w_X7_row, t_isRow7, h, t_in32 0 2 (show (0 : Int64).toInt = 0 by decide) (show (2 : Int64).toInt = 2 by decide), g, t_find]
          exact hG _ _ (Inv_stat hI 4)
      · simp only [a, and_self, if_true, z10, if_false, true_and, w_X7_row, t_isRow7, h, t_in32 0 2 (show (0 : Int64).toInt = 0 by decide) (show (2 : Int64).toInt = 2 by decide), g, hG _ _ hI]
    · simp only [g, and_self, if_true, z10, if_false, true_and, w_X7_row, t_isRow7, h, t_in32 0 2 (show (0 : Int64).toInt = 0 by decide) (show (2 : Int64).toInt = 2 by decide), hG _ _ hI]
  · simp only [h, and_self, if_true, z10, if_false, true_and, w_X7_row, t_isRow7, hG _ _ hI]
theorem P_drop (hI : Inv σ) (x1 : Int32) (hG : ∀ r τ, Inv τ → G r r τ) : w_X6_drop N σ x1 (fun r1 τ => w_X7_drop N τ x1 (fun r2 υ => G r1 r2 υ)) := by
  simp only [w_X6_drop, t_isRow6]
  by_cases h : 0 ≤ x1.toInt ∧ x1.toInt < 8
  · obtain ⟨r, hr, rfl⟩ := arg_in8 h
    have hv : vp_in (nI r) 8 := vp_in_nI hr (by decide)
    have cr : (nI r).toNatClampNeg = r := nI_clamp (by omega)
    simp only [h, and_self, if_true, z10, if_false, true_and, hv, cr, t_miss]
    rcases hI.choose_spec.2.1 r hr with ⟨m1, m2⟩ | ⟨l, n, h1, h2, h3, h4, h5, h6, h7⟩
    · simp only [m1, and_self, if_true, z10, if_false, true_and, t_found, w_X7_drop, t_isRow7, h, hv, cr]
      have e : st2 σ 0 8 1 57 r = -1 := by rw [st2_app, if_neg (by omega), m2]
      simp only [e, m1_nle, if_false, t_find]
      exact hG _ _ (Inv_stat hI 1)
    · simp only [h3, nIm1 (show l < 2 ^ 31 by omega), and_self, if_true, z10, if_false, true_and, h5, forall_eq, w_X4_lose, t_fine, w_X7_drop, t_isRow7, h, hv, cr]
      have e : st2 (st2 (st2 σ (2 + 2 * r) 1 (-1)) (2 + 2 * r) 2 0) 0 8 0 57 r = nI n := by
        repeat (first | rw [st_ne (by omega)] | rw [blk_out (by omega)])
        exact h6
      simp only [e, nI_pos' (show n < 2 ^ 31 by omega), and_self, if_true, z10, if_false, true_and, forall_eq, t_well]
      refine hG _ _ (Inv_rows hI (fun c k q => ?_) (fun r' hr' => ?_) ?_)
      · repeat (first | rw [st_ne (by omega)] | rw [blk_out (by omega)])
      · by_cases e : r' = r
        · subst e
          left
          refine ⟨?_, ?_⟩
          · repeat (first | rw [st_ne (by omega)] | rw [blk_out (by omega)])
            rw [st_eq]
          · repeat (first | rw [st_ne (by omega)] | rw [blk_out (by omega)])
            rw [st_eq]
        · refine RWr_cong (fun c k q => ?_) (hI.choose_spec.2.1 r' hr')
          repeat (first | rw [st_ne (by omega)] | rw [blk_out (by omega)])
      · rw [st_eq]
        repeat (first | rw [st_ne (by omega)] | rw [blk_out (by omega)])
        rw [st_eq]
  · simp only [h, and_self, if_true, z10, if_false, true_and, w_X7_drop, t_isRow7, hG _ _ hI]
/-! the lowest bits -/
theorem toI_nat (x : Int32) : x.toInt = if 2 * x.toBitVec.toNat < 2 ^ 32 then (x.toBitVec.toNat : Int) else (x.toBitVec.toNat : Int) - 2 ^ 32 := by
  rw [← Int32.toInt_toBitVec, BitVec.toInt_eq_toNat_cond]
  norm_cast
theorem lane8 (x : Int32) : (x <<< ((24 : Int32) &&& 31)) >>> ((24 : Int32) &&& 31) = x.toInt8.toInt32 := by
  rw [fa_eq, pk_shr _ _ 24 (by decide), Int.shiftRight_eq_div_pow, toI_nat, pk_shl _ _ 24 (by decide), Int8.toInt_toInt32, Int32.toInt_toInt8, toI_nat]
  have hx := x.toBitVec.isLt
  generalize x.toBitVec.toNat = u at hx
  unfold Int.bmod
  split <;> split <;> simp only [] <;> (try split) <;> omega
theorem lane16 (x : Int32) : (x <<< ((16 : Int32) &&& 31)) >>> ((16 : Int32) &&& 31) = x.toInt16.toInt32 := by
  rw [fa_eq, pk_shr _ _ 16 (by decide), Int.shiftRight_eq_div_pow, toI_nat, pk_shl _ _ 16 (by decide), Int16.toInt_toInt32, Int32.toInt_toInt16, toI_nat]
  have hx := x.toBitVec.isLt
  generalize x.toBitVec.toNat = u at hx
  unfold Int.bmod
  split <;> split <;> simp only [] <;> (try split) <;> omega
theorem t_places {c n : Nat} {x1 x2 : Int32} (hn : σ c 2 = nI n) (hn2 : n ≤ 40) : w_X4_hasPlaces N σ c x1 x2 Q = if 0 ≤ x1.toInt ∧ 0 ≤ x2.toInt ∧ x1.toInt + x2.toInt ≤ n then Q 1 σ else Q 0 σ := by
  unfold w_X4_hasPlaces
  have z : (0 : Int32).toInt = 0 := by decide
  have r2 := fb_rng x2
  have en : (nI n).toInt = n := nI_toInt (by omega)
  rw [hn]
  by_cases a : x1 < 0
  · rw [if_pos a]
    rw [fa_lt, z] at a
    rw [if_neg (by omega)]
  · rw [if_neg a]
    rw [fa_lt, z] at a
    by_cases b : x2 < 0
    · rw [if_pos b]
      rw [fa_lt, z] at b
      rw [if_neg (by omega)]
    · rw [if_neg b]
      rw [fa_lt, z] at b
      have es : (nI n - x2).toInt = n - x2.toInt := by
        rw [fb_subI] <;> rw [en] <;> omega
      by_cases d : nI n - x2 < x1
      · rw [if_pos d]
        rw [fa_lt, es] at d
        rw [if_neg (by omega)]
      · rw [if_neg d]
        rw [fa_lt, es] at d
        rw [if_pos (by omega)]
theorem t_lowest {c l : Nat} {x : Int32} (hl : σ c 1 = nI l) (hl2 : l ≤ 2) : w_X4_lowestBits N σ c x Q = Q (if l = 0 then x.toInt8.toInt32 else if l = 1 then x.toInt16.toInt32 else x) σ := by
  unfold w_X4_lowestBits
  rw [hl]
  simp (disch := omega) only [lit_0, lit_1, z_eq]
  by_cases a : l = 0
  · rw [if_pos a, if_pos a]
  · rw [if_neg a, if_neg a]
    by_cases b : l = 1
    · rw [if_pos b, if_pos b]
    · rw [if_neg b, if_neg b]
theorem t_asLane {l : Nat} {x : Int32} (hl2 : l ≤ 2) : w_X7_asLane N σ (nI l) x Q = Q (if l = 0 then x.toInt8.toInt32 else if l = 1 then x.toInt16.toInt32 else x) σ := by
  unfold w_X7_asLane
  rw [lane8, lane16]
  simp (disch := omega) only [lit_0, lit_1, z_eq]
  by_cases a : l = 0
  · rw [if_pos a, if_pos a]
  · rw [if_neg a, if_neg a]
    by_cases b : l = 1
    · rw [if_pos b, if_pos b]
    · rw [if_neg b, if_neg b]
theorem P_set (hI : Inv σ) (x1 x2 x3 : Int32) (hG : ∀ r τ, Inv τ → G r r τ) : w_X6_set N σ x1 x2 x3 (fun r1 τ => w_X7_set N τ x1 x2 x3 (fun r2 υ => G r1 r2 υ)) := by
  simp only [w_X6_set, t_isRow6]
  by_cases h : 0 ≤ x1.toInt ∧ x1.toInt < 8
  · obtain ⟨r, hr, rfl⟩ := arg_in8 h
    have hv : vp_in (nI r) 8 := vp_in_nI hr (by decide)
    have cr : (nI r).toNatClampNeg = r := nI_clamp (by omega)
    simp only [h, and_self, if_true, z10, if_false, true_and, hv, cr, t_miss]
    rcases hI.choose_spec.2.1 r hr with ⟨m1, m2⟩ | ⟨l, n, h1, h2, h3, h4, h5, h6, h7⟩
    · simp only [m1, and_self, if_true, z10, if_false, true_and, t_found, w_X7_set, t_isRow7, h, hv, cr]
      have e : st2 σ 0 8 1 57 r = -1 := by rw [st2_app, if_neg (by omega), m2]
      simp only [e, m1_nle, if_false, t_find]
      exact hG _ _ (Inv_stat hI 1)
    · simp only [h3, nIm1 (show l < 2 ^ 31 by omega), and_self, if_true, z10, if_false, true_and, t_places h5 h2]
      have z1 : (1 : Int32).toInt = 1 := by decide
      rw [z1]
      by_cases g : 0 ≤ x2.toInt ∧ x2.toInt < n
      · obtain ⟨i, hi, rfl⟩ := arg_in g
        have ei : (nI i).toInt = i := nI_toInt (by omega)
        rw [if_pos (by omega)]
        have hvi : vp_in (nI i) 40 := vp_in_nI (by omega) (by decide)
        have ci : (nI i).toNatClampNeg = i := nI_clamp (by omega)
        simp only [z10, if_false, w_X4_put, t_lowest h3 h1, hvi, ci, and_self, if_true, z10, if_false, true_and, forall_eq, t_fine]
        generalize hy : (if l = 0 then x3.toInt8.toInt32 else if l = 1 then x3.toInt16.toInt32 else x3) = y
        have ey : st2 σ (2 + 2 * r + 1) i y (2 + 2 * r + 1) i = y := by rw [st2_app, if_pos ⟨rfl, rfl⟩]
        rw [ey]
        have e57 : st2 (st2 σ (2 + 2 * r + 1) i y) 0 8 0 57 r = nI n := by
          rw [st2_app, if_neg (by omega), st2_app, if_neg (by omega), h6]
        have e56 : st2 (st2 σ (2 + 2 * r + 1) i y) 0 8 0 56 r = nI l := by
          rw [st2_app, if_neg (by omega), st2_app, if_neg (by omega), h4]
        have e40 : (40 : Int32) * nI r + nI i = nI (40 * r + i) := by rw [lit_40, pk_mul, nI_add]
        have hv40 : vp_in (nI (40 * r + i)) 320 := vp_in_nI (by omega) (by decide)
        have c40 : (nI (40 * r + i)).toNatClampNeg = 40 * r + i := nI_clamp (by omega)
        simp only [w_X7_set, t_isRow7, h, and_self, if_true, z10, if_false, true_and, hv, cr, e57, nI_pos' (show n < 2 ^ 31 by omega), t_rangeM (show n < 1000 by omega), g, e56]
        rw [t_asLane h1, hy, e40]
        simp only [hv40, c40, and_self, if_true, z10, if_false, true_and, forall_eq, t_well]
        rw [st_eq]
        refine hG _ _ (Inv_rows hI (fun c k q => ?_) (fun r' hr' => ?_) ?_)
        · repeat (first | rw [st_ne (by omega)] | rw [blk_out (by omega)])
        · by_cases e : r' = r
          · subst e
            right
            refine ⟨l, n, h1, h2, ?_, ?_, ?_, ?_, fun j hj => ?_⟩
            · repeat (first | rw [st_ne (by omega)] | rw [blk_out (by omega)])
              exact h3
            · repeat (first | rw [st_ne (by omega)] | rw [blk_out (by omega)])
              exact h4
            · repeat (first | rw [st_ne (by omega)] | rw [blk_out (by omega)])
              exact h5
            · repeat (first | rw [st_ne (by omega)] | rw [blk_out (by omega)])
              exact h6
            · by_cases ej : j = i
              · subst ej
                repeat (first | rw [st_ne (by omega)] | rw [blk_out (by omega)])
                rw [st_eq]
                repeat (first | rw [st_ne (by omega)] | rw [blk_out (by omega)])
                rw [st_eq]
              · repeat (first | rw [st_ne (by omega)] | rw [blk_out (by omega)])
                exact h7 j hj
          · refine RWr_cong (fun c k q => ?_) (hI.choose_spec.2.1 r' hr')
            repeat (first | rw [st_ne (by omega)] | rw [blk_out (by omega)])
        · rw [st_eq]
          repeat (first | rw [st_ne (by omega)] | rw [blk_out (by omega)])
          rw [st_eq]
      · rw [if_neg (by omega)]
        have e57 : st2 σ 0 8 2 57 r = nI n := by
          rw [st2_app, if_neg (by omega), h6]
        simp only [and_self, if_true, z10, if_false, true_and, t_found, w_X7_set, t_isRow7, h, hv, cr, e57, nI_pos' (show n < 2 ^ 31 by omega), t_rangeM (show n < 1000 by omega), g, t_find]
        exact hG _ _ (Inv_stat hI 2)
  · simp only [h, and_self, if_true, z10, if_false, true_and, w_X7_set, t_isRow7, hG _ _ hI]
end RO
