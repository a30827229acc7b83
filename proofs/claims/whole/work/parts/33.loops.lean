/-! ===== loops over a hall ===== -/
theorem st2_app (σ : kS) (c k : Nat) (v : Int32) (c' k' : Nat) : st2 σ c k v c' k' = if c' = c ∧ k' = k then v else σ c' k' := by
  unfold st2 va_up upd
  by_cases h : c' = c
  · subst h
    by_cases h2 : k' = k <;> simp [h2]
  · simp [h]
def mxr (f : Nat → Nat) : Nat → Nat → Nat → Nat
  | 0, _, m => m
  | r + 1, k, m => mxr f r (k + 1) (max m (f k))
def mnr (f : Nat → Nat) : Nat → Nat → Nat → Nat
  | 0, _, m => m
  | r + 1, k, m => mnr f r (k + 1) (min m (f k))
theorem mxr_lt {f : Nat → Nat} {B : Nat} (hf : ∀ k, f k < B) : ∀ r k m, m < B → mxr f r k m < B
  | 0, _, _, h => h
  | r + 1, k, m, h => mxr_lt hf r (k + 1) _ (by have := hf k; omega)
theorem mxr_ge {f : Nat → Nat} : ∀ r k m, m ≤ mxr f r k m
  | 0, _, _ => Nat.le_refl _
  | r + 1, k, m => Nat.le_trans (by omega) (mxr_ge r (k + 1) (max m (f k)))
theorem mnr_le {f : Nat → Nat} : ∀ r k m, mnr f r k m ≤ m
  | 0, _, _ => Nat.le_refl _
  | r + 1, k, m => Nat.le_trans (mnr_le r (k + 1) (min m (f k))) (by omega)
theorem kmax_nI {a b : Nat} (ha : a < 2 ^ 31) (hb : b < 2 ^ 31) : kmax (nI a) (nI b) = nI (max a b) := by
  unfold kmax
  by_cases h : a < b
  · rw [if_pos ((nI_ltI ha hb).mpr h), Nat.max_eq_right (by omega)]
  · rw [if_neg (fun q => h ((nI_ltI ha hb).mp q)), Nat.max_eq_left (by omega)]
theorem kmin_nI {a b : Nat} (ha : a < 2 ^ 31) (hb : b < 2 ^ 31) : kmin (nI a) (nI b) = nI (min a b) := by
  unfold kmin
  by_cases h : b < a
  · rw [if_pos ((nI_ltI hb ha).mpr h), Nat.min_eq_right (by omega)]
  · rw [if_neg (fun q => h ((nI_ltI hb ha).mp q)), Nat.min_eq_left (by omega)]
/-- the keys that are struck for a piece -/
def kyf (H : Nat → Nat) (b p : Nat) (k : Nat) : Nat := kyk H b (H (10 + 8 * p + k))
def gk (H : Nat → Nat) (b p : Nat) : Nat := mxr (kyf H b p) (H (6 + p)) 0 0
def lk (H : Nat → Nat) (b p : Nat) : Nat := mnr (kyf H b p) (H (6 + p)) 0 (H 0)
def rch (H : Nat → Nat) (q p : Nat) : Bool := decide (gk H (bi H q) p - lk H (bi H q) p < H (52 + q))
theorem gk_lt {H : Nat → Nat} (hV : HV H) (b p : Nat) : gk H b p < H 0 := mxr_lt (fun k => kyk_lt hV _ _) _ _ _ (by have := hV.1; omega)
theorem lk_le {H : Nat → Nat} (b p : Nat) : lk H b p ≤ H 0 := mnr_le _ _ _
theorem lk_gk {H : Nat → Nat} (hV : HV H) {b p : Nat} (hp : p < H 3) : lk H b p ≤ gk H b p := by
  have h1 := (hV.2.2.2.2.2.2.1 p hp).1
  unfold lk gk
  obtain ⟨r, hr⟩ : ∃ r, H (6 + p) = r + 1 := ⟨H (6 + p) - 1, by omega⟩
  rw [hr]
  have a := mnr_le (f := kyf H b p) r 1 (min (H 0) (kyf H b p 0))
  have c := mxr_ge (f := kyf H b p) r 1 (max 0 (kyf H b p 0))
  show mnr _ r 1 _ ≤ mxr _ r 1 _
  omega
section LP
variable {N : Nat} {σ : kS} {c : Nat} {H : Nat → Nat} {Q : Int32 → kS → Prop}
theorem l_great {b p : Nat} (hC : CH σ c H) (hV : HV H) (hb : b < H 0) (hp : p < H 3) : ∀ (r n k m : Nat), k + r = H (6 + p) → r < n → m < 12 → l_X3_greatestKey_5 N Q c (nI b) (nI p) n (nI m) (nI k) σ = Q (nI (mxr (kyf H b p) r k m)) σ := by
  have h0 := hV.1
  have h4 : H 3 ≤ 4 := hV.2.2.2.1
  have h8 := hV.2.2.2.2.2.2.1 p hp
  intro r
  induction r with
  | zero =>
    intro n k m hk hn hm
    obtain ⟨n, rfl⟩ : ∃ j, n = j + 1 := ⟨n - 1, by omega⟩
    show b_X3_greatestKey_5 N Q c (nI b) (nI p) _ (nI m) (nI k) σ = _
    unfold b_X3_greatestKey_5
    simp (disch := omega) only [lit_0, lit_1, lit_2, lit_3, lit_4, lit_5, lit_6, lit_7, lit_8, lit_9, lit_10, lit_11, lit_12, lit_13, lit_14, lit_15, lit_16, lit_19, lit_23, lit_24, lit_25, lit_32, lit_33, lit_39, lit_40, lit_42, lit_44, lit_45, lit_46, lit_47, lit_48, lit_52, lit_56, lit_57, lit_59, lit_60, lit_61, lit_97, lit_99, lit_100, lit_107, lit_109, lit_112, lit_115, lit_116, lit_118, lit_119, lit_120, lit_122, lit_255, lit_320, lit_999, z_clI, z_vp, nI_add, pk_mul, z_le, z_lt, z_eq, true_and, and_true, forall_eq, if_true, if_false, ite_true, ite_false, hC.2.2.2.2.2.2.1 p hp]
    rw [if_pos (by omega)]
    rfl
  | succ r ih =>
    intro n k m hk hn hm
    obtain ⟨n, rfl⟩ : ∃ j, n = j + 1 := ⟨n - 1, by omega⟩
    show b_X3_greatestKey_5 N Q c (nI b) (nI p) _ (nI m) (nI k) σ = _
    unfold b_X3_greatestKey_5
    have hs := hV.2.2.2.2.2.2.2.1 p k hp (by omega)
    have hf := kyk_lt hV b (H (10 + 8 * p + k))
    simp (disch := omega) only [z_vp, z_clI, z_le, true_and, and_true, forall_eq, if_true, if_false, ite_true, ite_false, hC.2.2.2.2.2.2.1 p hp]
    rw [if_neg (by omega)]
    simp (disch := omega) only [t_stringOf hC hV hp, t_around hC.1, kyk_ar hV hb hs, kmax_nI, lit_0, lit_1, lit_2, lit_3, lit_4, lit_5, lit_6, lit_7, lit_8, lit_9, lit_10, lit_11, lit_12, lit_13, lit_14, lit_15, lit_16, lit_19, lit_23, lit_24, lit_25, lit_32, lit_33, lit_39, lit_40, lit_42, lit_44, lit_45, lit_46, lit_47, lit_48, lit_52, lit_56, lit_57, lit_59, lit_60, lit_61, lit_97, lit_99, lit_100, lit_107, lit_109, lit_112, lit_115, lit_116, lit_118, lit_119, lit_120, lit_122, lit_255, lit_320, lit_999, z_clI, z_vp, nI_add, pk_mul, z_le, z_lt, z_eq]
    exact ih n (k + 1) (max m (kyf H b p k)) (by omega) (by omega) (by unfold kyf; omega)
theorem l_least {b p : Nat} (hC : CH σ c H) (hV : HV H) (hb : b < H 0) (hp : p < H 3) : ∀ (r n k m : Nat), k + r = H (6 + p) → r < n → m ≤ 12 → l_X3_leastKey_8 N Q c (nI b) (nI p) n (nI m) (nI k) σ = Q (nI (mnr (kyf H b p) r k m)) σ := by
  have h0 := hV.1
  have h4 : H 3 ≤ 4 := hV.2.2.2.1
  have h8 := hV.2.2.2.2.2.2.1 p hp
  intro r
  induction r with
  | zero =>
    intro n k m hk hn hm
    obtain ⟨n, rfl⟩ : ∃ j, n = j + 1 := ⟨n - 1, by omega⟩
    show b_X3_leastKey_8 N Q c (nI b) (nI p) _ (nI m) (nI k) σ = _
    unfold b_X3_leastKey_8
    simp (disch := omega) only [lit_0, lit_1, lit_2, lit_3, lit_4, lit_5, lit_6, lit_7, lit_8, lit_9, lit_10, lit_11, lit_12, lit_13, lit_14, lit_15, lit_16, lit_19, lit_23, lit_24, lit_25, lit_32, lit_33, lit_39, lit_40, lit_42, lit_44, lit_45, lit_46, lit_47, lit_48, lit_52, lit_56, lit_57, lit_59, lit_60, lit_61, lit_97, lit_99, lit_100, lit_107, lit_109, lit_112, lit_115, lit_116, lit_118, lit_119, lit_120, lit_122, lit_255, lit_320, lit_999, z_clI, z_vp, nI_add, pk_mul, z_le, z_lt, z_eq, true_and, and_true, forall_eq, if_true, if_false, ite_true, ite_false, hC.2.2.2.2.2.2.1 p hp]
    rw [if_pos (by omega)]
    rfl
  | succ r ih =>
    intro n k m hk hn hm
    obtain ⟨n, rfl⟩ : ∃ j, n = j + 1 := ⟨n - 1, by omega⟩
    show b_X3_leastKey_8 N Q c (nI b) (nI p) _ (nI m) (nI k) σ = _
    unfold b_X3_leastKey_8
    have hs := hV.2.2.2.2.2.2.2.1 p k hp (by omega)
    have hf := kyk_lt hV b (H (10 + 8 * p + k))
    simp (disch := omega) only [z_vp, z_clI, z_le, true_and, and_true, forall_eq, if_true, if_false, ite_true, ite_false, hC.2.2.2.2.2.2.1 p hp]
    rw [if_neg (by omega)]
    simp (disch := omega) only [t_stringOf hC hV hp, t_around hC.1, kyk_ar hV hb hs, kmin_nI, lit_0, lit_1, lit_2, lit_3, lit_4, lit_5, lit_6, lit_7, lit_8, lit_9, lit_10, lit_11, lit_12, lit_13, lit_14, lit_15, lit_16, lit_19, lit_23, lit_24, lit_25, lit_32, lit_33, lit_39, lit_40, lit_42, lit_44, lit_45, lit_46, lit_47, lit_48, lit_52, lit_56, lit_57, lit_59, lit_60, lit_61, lit_97, lit_99, lit_100, lit_107, lit_109, lit_112, lit_115, lit_116, lit_118, lit_119, lit_120, lit_122, lit_255, lit_320, lit_999, z_clI, z_vp, nI_add, pk_mul, z_le, z_lt, z_eq]
    exact ih n (k + 1) (min m (kyf H b p k)) (by omega) (by omega) (by omega)
theorem t_great {b p : Nat} (hN : 100 < N) (hC : CH σ c H) (hV : HV H) (hb : b < H 0) (hp : p < H 3) : w_X3_greatestKey N σ c (nI b) (nI p) Q = Q (nI (gk H b p)) σ := by
  have h8 := hV.2.2.2.2.2.2.1 p hp
  unfold w_X3_greatestKey
  exact l_great hC hV hb hp (H (6 + p)) N 0 0 (by omega) (by omega) (by omega)
theorem t_least {b p : Nat} (hN : 100 < N) (hC : CH σ c H) (hV : HV H) (hb : b < H 0) (hp : p < H 3) : w_X3_leastKey N σ c (nI b) (nI p) Q = Q (nI (lk H b p)) σ := by
  have h8 := hV.2.2.2.2.2.2.1 p hp
  have h0 := hV.1
  unfold w_X3_leastKey
  rw [hC.1]
  simp only [forall_eq]
  exact l_least hC hV hb hp (H (6 + p)) N 0 (H 0) (by omega) (by omega) (by omega)
theorem t_reaches {q p : Nat} (hN : 100 < N) (hC : CH σ c H) (hV : HV H) (hq : q < H 4) (hp : p < H 3) : w_X3_reaches N σ c (nI q) (nI p) Q = Q (if rch H q p then 1 else 0) σ := by
  have h0 := hV.1
  have h5 : H 4 ≤ 5 := hV.2.2.2.2.1
  have k3 := (hV.2.2.2.2.2.2.2.2 q hq).2.2
  have k1 := gk_lt hV (bi H q) p
  have k2 := lk_gk hV (b := bi H q) hp
  unfold w_X3_reaches
  simp (disch := omega) only [t_biasOf hC hV hq, t_great hN hC hV (bi_lt hV q) hp, t_least hN hC hV (bi_lt hV q) hp, z_vp, z_clI, true_and, and_true, forall_eq, if_true, if_false, ite_true, ite_false, (hC.2.2.2.2.2.2.2.2 q hq).2.2, pk_sub, z_le]
  unfold rch
  by_cases h : H (52 + q) ≤ gk H (bi H q) p - lk H (bi H q) p
  · rw [if_pos h]
    simp [Nat.not_lt.mpr h]
  · rw [if_neg h]
    simp [Nat.not_le.mp h]
end LP
