/-! ===== thunderOdds ===== -/
def popc (m : Nat) : Nat := fb_ct (fun k => m.testBit k) 6
def chR (d : Nat) : Nat → Nat → Nat → Nat
  | 0, _, w => w
  | r + 1, i, w => chR d r (i + 1) (w * (d + i) / i)
theorem bn_0 (w : Nat → Nat) : fb_sm (fun s => w (popc s)) 1 = fb_sm (fun t => chR (0 - t) t 1 1 * w t) 1 := by
  have e1 : fb_sm (fun s => w (popc s)) 1 = 0 + w 0 := rfl
  have e2 : fb_sm (fun t => chR (0 - t) t 1 1 * w t) 1 = 0 + 1 * w 0 := rfl
  rw [e1, e2]
  omega
theorem bn_1 (w : Nat → Nat) : fb_sm (fun s => w (popc s)) 2 = fb_sm (fun t => chR (1 - t) t 1 1 * w t) 2 := by
  have e1 : fb_sm (fun s => w (popc s)) 2 = 0 + w 0 + w 1 := rfl
  have e2 : fb_sm (fun t => chR (1 - t) t 1 1 * w t) 2 = 0 + 1 * w 0 + 1 * w 1 := rfl
  rw [e1, e2]
  omega
theorem bn_2 (w : Nat → Nat) : fb_sm (fun s => w (popc s)) 4 = fb_sm (fun t => chR (2 - t) t 1 1 * w t) 3 := by
  have e1 : fb_sm (fun s => w (popc s)) 4 = 0 + w 0 + w 1 + w 1 + w 2 := rfl
  have e2 : fb_sm (fun t => chR (2 - t) t 1 1 * w t) 3 = 0 + 1 * w 0 + 2 * w 1 + 1 * w 2 := rfl
  rw [e1, e2]
  omega
theorem bn_3 (w : Nat → Nat) : fb_sm (fun s => w (popc s)) 8 = fb_sm (fun t => chR (3 - t) t 1 1 * w t) 4 := by
  have e1 : fb_sm (fun s => w (popc s)) 8 = 0 + w 0 + w 1 + w 1 + w 2 + w 1 + w 2 + w 2 + w 3 := rfl
  have e2 : fb_sm (fun t => chR (3 - t) t 1 1 * w t) 4 = 0 + 1 * w 0 + 3 * w 1 + 3 * w 2 + 1 * w 3 := rfl
  rw [e1, e2]
  omega
theorem bn_4 (w : Nat → Nat) : fb_sm (fun s => w (popc s)) 16 = fb_sm (fun t => chR (4 - t) t 1 1 * w t) 5 := by
  have e1 : fb_sm (fun s => w (popc s)) 16 = 0 + w 0 + w 1 + w 1 + w 2 + w 1 + w 2 + w 2 + w 3 + w 1 + w 2 + w 2 + w 3 + w 2 + w 3 + w 3 + w 4 := rfl
  have e2 : fb_sm (fun t => chR (4 - t) t 1 1 * w t) 5 = 0 + 1 * w 0 + 4 * w 1 + 6 * w 2 + 4 * w 3 + 1 * w 4 := rfl
  rw [e1, e2]
  omega
theorem bn_5 (w : Nat → Nat) : fb_sm (fun s => w (popc s)) 32 = fb_sm (fun t => chR (5 - t) t 1 1 * w t) 6 := by
  have e1 : fb_sm (fun s => w (popc s)) 32 = 0 + w 0 + w 1 + w 1 + w 2 + w 1 + w 2 + w 2 + w 3 + w 1 + w 2 + w 2 + w 3 + w 2 + w 3 + w 3 + w 4 + w 1 + w 2 + w 2 + w 3 + w 2 + w 3 + w 3 + w 4 + w 2 + w 3 + w 3 + w 4 + w 3 + w 4 + w 4 + w 5 := rfl
  have e2 : fb_sm (fun t => chR (5 - t) t 1 1 * w t) 6 = 0 + 1 * w 0 + 5 * w 1 + 10 * w 2 + 10 * w 3 + 5 * w 4 + 1 * w 5 := rfl
  rw [e1, e2]
  omega
theorem bn_6 (w : Nat → Nat) : fb_sm (fun s => w (popc s)) 64 = fb_sm (fun t => chR (6 - t) t 1 1 * w t) 7 := by
  have e1 : fb_sm (fun s => w (popc s)) 64 = 0 + w 0 + w 1 + w 1 + w 2 + w 1 + w 2 + w 2 + w 3 + w 1 + w 2 + w 2 + w 3 + w 2 + w 3 + w 3 + w 4 + w 1 + w 2 + w 2 + w 3 + w 2 + w 3 + w 3 + w 4 + w 2 + w 3 + w 3 + w 4 + w 3 + w 4 + w 4 + w 5 + w 1 + w 2 + w 2 + w 3 + w 2 + w 3 + w 3 + w 4 + w 2 + w 3 + w 3 + w 4 + w 3 + w 4 + w 4 + w 5 + w 2 + w 3 + w 3 + w 4 + w 3 + w 4 + w 4 + w 5 + w 3 + w 4 + w 4 + w 5 + w 4 + w 5 + w 5 + w 6 := rfl
  have e2 : fb_sm (fun t => chR (6 - t) t 1 1 * w t) 7 = 0 + 1 * w 0 + 6 * w 1 + 15 * w 2 + 20 * w 3 + 15 * w 4 + 6 * w 5 + 1 * w 6 := rfl
  rw [e1, e2]
  omega
theorem bn_all {n : Nat} (hn : n ≤ 6) (w : Nat → Nat) : fb_sm (fun s => w (popc s)) (2 ^ n) = fb_sm (fun t => chR (n - t) t 1 1 * w t) (n + 1) := by
  have c : n = 0 ∨ n = 1 ∨ n = 2 ∨ n = 3 ∨ n = 4 ∨ n = 5 ∨ n = 6 := by omega
  rcases c with rfl | rfl | rfl | rfl | rfl | rfl | rfl
  · exact bn_0 w
  · exact bn_1 w
  · exact bn_2 w
  · exact bn_3 w
  · exact bn_4 w
  · exact bn_5 w
  · exact bn_6 w
theorem pc_less : ∀ m, m < 64 → 0 < m → popc (m &&& (m - 1)) + 1 = popc m := by decide +kernel
theorem pc_zero : ∀ m, m < 64 → popc m = 0 → m = 0 := by decide +kernel
theorem pc_ct : ∀ n, n < 7 → ∀ m, m < 2 ^ n → fb_ct (fun k => m.testBit k) n = popc m := by decide +kernel
theorem popc_le (m : Nat) : popc m ≤ 6 := fb_ct_le _ _
def tdW (H : Nat → Nat) (b p n t : Nat) : Nat := if (sft H n + t) % H 0 = b then p ^ t * (10 - p) ^ (n - t) else 0
theorem pw10 {a k n : Nat} (ha : a ≤ 10) (hk : k ≤ n) : a ^ k ≤ 10 ^ n := Nat.le_trans (Nat.pow_le_pow_left ha k) (Nat.pow_le_pow_right (by omega) hk)
theorem tdW_le {H : Nat → Nat} {b p n t : Nat} (hp : p ≤ 10) (hn : n ≤ 6) (ht : t ≤ 6) : tdW H b p n t ≤ 10 ^ 6 * 10 ^ 6 := by
  unfold tdW
  split
  · exact Nat.mul_le_mul (pw10 hp ht) (pw10 (by omega) (by omega))
  · omega
section TD
variable {N : Nat} {σ : kS} {H : Nat → Nat} {Q : Int32 → kS → Prop} {QL : Int64 → kS → Prop} {E : Int64 → kS → Prop} {GL : Int64 → Int64 → kS → Prop}
theorem l_ones : ∀ (r n c m : Nat), m < 64 → popc m = r → r < n → l_X7_ones_4 N Q n (nI c) (nI m) σ = Q (nI (c + r)) σ := by
  intro r
  induction r with
  | zero =>
    intro n c m hm hp hn
    obtain ⟨n, rfl⟩ : ∃ j, n = j + 1 := ⟨n - 1, by omega⟩
    show b_X7_ones_4 N Q _ (nI c) (nI m) σ = _
    unfold b_X7_ones_4
    rw [pc_zero m hm hp, if_pos nI_0]
    rfl
  | succ r ih =>
    intro n c m hm hp hn
    obtain ⟨n, rfl⟩ : ∃ j, n = j + 1 := ⟨n - 1, by omega⟩
    show b_X7_ones_4 N Q _ (nI c) (nI m) σ = _
    unfold b_X7_ones_4
    have m0 : 0 < m := by
      by_cases e : m = 0
      · subst e
        have : popc 0 = 0 := by decide
        omega
      · omega
    have hl := pc_less m hm m0
    have le : m &&& (m - 1) ≤ m := Nat.and_le_left
    rw [if_neg (nI_ne0 m0 (by omega))]
    have e1 : nI m - 1 = nI (m - 1) := by rw [lit_1, pk_sub (by omega)]
    have ec : nI c + 1 = nI (c + 1) := by rw [lit_1, nI_add]
    simp only [e1, fa_and, ec, forall_eq]
    rw [ih n (c + 1) (m &&& (m - 1)) (by omega) (by omega) (by omega)]
    rw [show c + 1 + r = c + (r + 1) by omega]
theorem t_ones {m : Nat} (hN : 5000 ≤ N) (hm : m < 64) : w_X7_ones N σ (nI m) Q = Q (nI (popc m)) σ := by
  have := popc_le m
  unfold w_X7_ones
  rw [lit_0, l_ones (popc m) N 0 m hm rfl (by omega), Nat.zero_add]
theorem l_power {b k : Nat} (hb : b < 2 ^ 31) (hk : k < 1000) : ∀ (r n i : Nat), i + r = k → r < n → l_X2_power_5 N QL (nI b) (nI k) n (lN (b ^ i)) (nI i) σ = QL (lN (b ^ k)) σ := by
  intro r
  induction r with
  | zero =>
    intro n i hi hn
    obtain ⟨n, rfl⟩ : ∃ j, n = j + 1 := ⟨n - 1, by omega⟩
    show b_X2_power_5 N QL (nI b) (nI k) _ (lN (b ^ i)) (nI i) σ = _
    unfold b_X2_power_5
    rw [if_pos ((z_le (by omega) (by omega)).mpr (by omega)), show i = k by omega]
  | succ r ih =>
    intro n i hi hn
    obtain ⟨n, rfl⟩ : ∃ j, n = j + 1 := ⟨n - 1, by omega⟩
    show b_X2_power_5 N QL (nI b) (nI k) _ (lN (b ^ i)) (nI i) σ = _
    unfold b_X2_power_5
    have ei : nI i + 1 = nI (i + 1) := by rw [lit_1, nI_add]
    rw [if_neg (fun q => absurd ((z_le (by omega) (by omega)).mp q) (by omega))]
    simp only [nI_l hb, lN_mul, ei, forall_eq]
    rw [← Nat.pow_succ]
    exact ih n (i + 1) (by omega) (by omega)
theorem t_power {b k : Nat} (hN : 5000 ≤ N) (hb : b < 2 ^ 31) (hk : k < 1000) : w_X2_power N σ (nI b) (nI k) QL = QL (lN (b ^ k)) σ := by
  unfold w_X2_power
  have := l_power (N := N) (σ := σ) (QL := QL) hb hk k N 0 (by omega) (by omega)
  rw [Nat.pow_zero] at this
  exact this
theorem l_choices {m s : Nat} (hs : s ≤ m) (hm : m ≤ 6) : ∀ (r n i w : Nat), i + r = s + 1 → r < n → 1 ≤ i → w ≤ 100 ^ i → l_X2_choices_5 N QL (nI m) (nI s) n (lN w) (nI i) σ = QL (lN (chR (m - s) r i w)) σ := by
  intro r
  induction r with
  | zero =>
    intro n i w hi hn h1 hw
    obtain ⟨n, rfl⟩ : ∃ j, n = j + 1 := ⟨n - 1, by omega⟩
    show b_X2_choices_5 N QL (nI m) (nI s) _ (lN w) (nI i) σ = _
    unfold b_X2_choices_5
    rw [if_pos ((z_lt (by omega) (by omega)).mpr (by omega))]
    rfl
  | succ r ih =>
    intro n i w hi hn h1 hw
    obtain ⟨n, rfl⟩ : ∃ j, n = j + 1 := ⟨n - 1, by omega⟩
    show b_X2_choices_5 N QL (nI m) (nI s) _ (lN w) (nI i) σ = _
    unfold b_X2_choices_5
    have ei : nI i + 1 = nI (i + 1) := by rw [lit_1, nI_add]
    have p1 : 100 ^ i ≤ 100 ^ 7 := Nat.pow_le_pow_right (by omega) (by omega)
    have p2 : w * (m - s + i) ≤ 100 ^ i * 100 := Nat.mul_le_mul hw (by omega)
    have p3 : w * (m - s + i) / i ≤ w * (m - s + i) := Nat.div_le_self _ _
    have ne : ¬ lN i = 0 := fun q => absurd ((pk_lEQ (b := 0) (by omega) (by omega)).mp q) (by omega)
    rw [if_neg (fun q => absurd ((z_lt (by omega) (by omega)).mp q) (by omega))]
    rw [pk_sub hs, nI_add, nI_l (by omega), nI_l (by omega), lN_mul, pk_lDiv (by omega) (by omega) (by omega)]
    simp only [ne, not_false_eq_true, true_and, ei, forall_eq]
    exact ih n (i + 1) _ (by omega) (by omega) (by omega) (by rw [Nat.pow_succ]; omega)
theorem t_choices {m s : Nat} (hN : 5000 ≤ N) (hs : s ≤ m) (hm : m ≤ 6) : w_X2_choices N σ (nI m) (nI s) QL = QL (lN (chR (m - s) s 1 1)) σ := by
  unfold w_X2_choices
  exact l_choices hs hm s N 1 1 (by omega) (by omega) (by omega) (by omega)
theorem l_tenths {b p m : Nat} (hN : 5000 ≤ N) (hC : CH σ 33 H) (hV : HV H) (hb : b < H 0) (hp : p ≤ 10) (hm : m ≤ 6) : ∀ (r n t : Nat), t + r = m + 1 → r < n → l_X2_tenthsRight_6 N QL (nI b) (nI p) (nI m) n (lN (fb_sm (fun t => chR (m - t) t 1 1 * tdW H b p m t) t)) (nI t) σ = QL (lN (fb_sm (fun t => chR (m - t) t 1 1 * tdW H b p m t) (m + 1))) σ := by
  have h0 := hV.1
  intro r
  induction r with
  | zero =>
    intro n t ht hn
    obtain ⟨n, rfl⟩ : ∃ j, n = j + 1 := ⟨n - 1, by omega⟩
    show b_X2_tenthsRight_6 N QL (nI b) (nI p) (nI m) _ _ (nI t) σ = _
    unfold b_X2_tenthsRight_6
    rw [if_pos ((z_lt (by omega) (by omega)).mpr (by omega)), show t = m + 1 by omega]
  | succ r ih =>
    intro n t ht hn
    obtain ⟨n, rfl⟩ : ∃ j, n = j + 1 := ⟨n - 1, by omega⟩
    show b_X2_tenthsRight_6 N QL (nI b) (nI p) (nI m) _ _ (nI t) σ = _
    unfold b_X2_tenthsRight_6
    have et : nI t + 1 = nI (t + 1) := by rw [lit_1, nI_add]
    have sl := sft_lt hV m
    have ml := Nat.mod_lt (sft H m + t) (show 0 < H 0 by omega)
    have e10 : (10 : Int32) - nI p = nI (10 - p) := by rw [lit_10, pk_sub hp]
    rw [if_neg (fun q => absurd ((z_lt (by omega) (by omega)).mp q) (by omega)), t_shiftBehind hC hV (by omega), t_around hC.1 (by omega) (by omega), nI_add, fov_nat (by omega)]
    simp only [e10, pk_sub (show t ≤ m by omega), t_choices hN (show t ≤ m by omega) hm, t_power hN (show p < 2 ^ 31 by omega) (show t < 1000 by omega), t_power hN (show 10 - p < 2 ^ 31 by omega) (show m - t < 1000 by omega), lN_mul, lN_add, et, forall_eq, z_eq (show (sft H m + t) % H 0 < 2 ^ 31 by omega) (show b < 2 ^ 31 by omega)]
    rw [← ih n (t + 1) (by omega) (by omega)]
    by_cases e : (sft H m + t) % H 0 = b
    · rw [if_pos e]
      have : fb_sm (fun t => chR (m - t) t 1 1 * tdW H b p m t) (t + 1) = fb_sm (fun t => chR (m - t) t 1 1 * tdW H b p m t) t + chR (m - t) t 1 1 * p ^ t * (10 - p) ^ (m - t) := by
        rw [fb_sm_succ]
        show _ + chR (m - t) t 1 1 * tdW H b p m t = _
        unfold tdW
        rw [if_pos e, Nat.mul_assoc]
      rw [this]
    · rw [if_neg e]
      have : fb_sm (fun t => chR (m - t) t 1 1 * tdW H b p m t) (t + 1) = fb_sm (fun t => chR (m - t) t 1 1 * tdW H b p m t) t := by
        rw [fb_sm_succ]
        show _ + chR (m - t) t 1 1 * tdW H b p m t = _
        unfold tdW
        rw [if_neg e, Nat.mul_zero, Nat.add_zero]
      rw [this]
theorem l_td56 {x1 x2 x4 : Int32} {x5 : Int64} {m : Nat} (hm : m ≤ 6) : ∀ (r n i : Nat), i + r = m → r < n → l_X7_thunderOdds_56 N QL x1 x2 (nI m) x4 x5 E n (lN (10 ^ i)) (nI i) σ = E (lN (10 ^ m)) σ := by
  have l10 : (10 : Int64) = lN 10 := rfl
  intro r
  induction r with
  | zero =>
    intro n i hi hn
    obtain ⟨n, rfl⟩ : ∃ j, n = j + 1 := ⟨n - 1, by omega⟩
    show b_X7_thunderOdds_56 N QL x1 x2 (nI m) x4 x5 E _ _ (nI i) σ = _
    unfold b_X7_thunderOdds_56
    rw [if_pos ((z_le (by omega) (by omega)).mpr (by omega)), show i = m by omega]
  | succ r ih =>
    intro n i hi hn
    obtain ⟨n, rfl⟩ : ∃ j, n = j + 1 := ⟨n - 1, by omega⟩
    show b_X7_thunderOdds_56 N QL x1 x2 (nI m) x4 x5 E _ _ (nI i) σ = _
    unfold b_X7_thunderOdds_56
    have ei : nI i + 1 = nI (i + 1) := by rw [lit_1, nI_add]
    rw [if_neg (fun q => absurd ((z_le (by omega) (by omega)).mp q) (by omega)), l10, lN_mul, ← Nat.pow_succ]
    simp only [ei, forall_eq]
    exact ih n (i + 1) (by omega) (by omega)
theorem l_td93 {x1 x4 : Int32} {x5 x7 : Int64} {m s p : Nat} (hm : m ≤ 6) (hs : s < 64) (hp : p ≤ 10) : ∀ (r n i : Nat), i + r = m → r < n → l_X7_thunderOdds_93 N QL x1 (nI p) (nI m) x4 x5 x7 (nI s) E n (lN (p ^ (fb_ct (fun k => s.testBit k) i) * (10 - p) ^ (i - fb_ct (fun k => s.testBit k) i))) (nI i) σ = E (lN (p ^ (fb_ct (fun k => s.testBit k) m) * (10 - p) ^ (m - fb_ct (fun k => s.testBit k) m))) σ := by
  intro r
  induction r with
  | zero =>
    intro n i hi hn
    obtain ⟨n, rfl⟩ : ∃ j, n = j + 1 := ⟨n - 1, by omega⟩
    show b_X7_thunderOdds_93 N QL x1 (nI p) (nI m) x4 x5 x7 (nI s) E _ _ (nI i) σ = _
    unfold b_X7_thunderOdds_93
    rw [if_pos ((z_le (by omega) (by omega)).mpr (by omega)), show i = m by omega]
  | succ r ih =>
    intro n i hi hn
    obtain ⟨n, rfl⟩ : ∃ j, n = j + 1 := ⟨n - 1, by omega⟩
    show b_X7_thunderOdds_93 N QL x1 (nI p) (nI m) x4 x5 x7 (nI s) E _ _ (nI i) σ = _
    unfold b_X7_thunderOdds_93
    have ei : nI i + 1 = nI (i + 1) := by rw [lit_1, nI_add]
    have e10 : (10 : Int32) - nI p = nI (10 - p) := by rw [lit_10, pk_sub hp]
    rw [if_neg (fun q => absurd ((z_le (by omega) (by omega)).mp q) (by omega)), t_has (by omega) (by omega)]
    have cl := fb_ct_le (fun k => s.testBit k) i
    simp only [e10, nI_l (show p < 2 ^ 31 by omega), nI_l (show 10 - p < 2 ^ 31 by omega), lN_mul, ei, forall_eq]
    rw [← ih n (i + 1) (by omega) (by omega), fb_ct_succ]
    by_cases e : s.testBit i = true
    · simp only [e, if_true, z10, if_false]
      rw [show i + 1 - (fb_ct (fun k => s.testBit k) i + 1) = i - fb_ct (fun k => s.testBit k) i by omega, Nat.pow_succ, Nat.mul_assoc, Nat.mul_assoc, Nat.mul_comm p]
    · have e2 : s.testBit i = false := Bool.eq_false_iff.mpr e
      simp only [e2, Bool.false_eq_true, if_false, eq_self_iff_true, if_true, Nat.add_zero]
      rw [show i + 1 - fb_ct (fun k => s.testBit k) i = (i - fb_ct (fun k => s.testBit k) i) + 1 by omega, Nat.pow_succ, Nat.mul_assoc]
theorem l_td79 {x4 : Int32} {x7 : Int64} {m p q : Nat} (hN : 5000 ≤ N) (hM : MH σ H) (hV : HV H) (hm : m ≤ 6) (hq : q < H 4) (hp : p ≤ 10) : ∀ (r n s : Nat), s + r = 2 ^ m → r < n → l_X7_thunderOdds_79 N QL (nI q) (nI p) (nI m) x4 x7 E n (lN (fb_sm (fun s => tdW H (bi H q) p m (popc s)) s)) (nI s) σ = E (lN (fb_sm (fun s => tdW H (bi H q) p m (popc s)) (2 ^ m))) σ := by
  have h0 := hV.1
  have pm : 2 ^ m ≤ 2 ^ 6 := Nat.pow_le_pow_right (by omega) hm
  have e0 : (1 : Int32) <<< (nI m &&& 31) = nI (2 ^ m) := shl1B (by omega)
  have lz : (0 : Int64) = lN 0 := rfl
  intro r
  induction r with
  | zero =>
    intro n s hs hn
    obtain ⟨n, rfl⟩ : ∃ j, n = j + 1 := ⟨n - 1, by omega⟩
    show b_X7_thunderOdds_79 N QL (nI q) (nI p) (nI m) x4 x7 E _ _ (nI s) σ = _
    unfold b_X7_thunderOdds_79
    rw [e0, if_pos ((z_le (by omega) (by omega)).mpr (by omega)), show s = 2 ^ m by omega]
  | succ r ih =>
    intro n s hs hn
    obtain ⟨n, rfl⟩ : ∃ j, n = j + 1 := ⟨n - 1, by omega⟩
    show b_X7_thunderOdds_79 N QL (nI q) (nI p) (nI m) x4 x7 E _ _ (nI s) σ = _
    unfold b_X7_thunderOdds_79
    have es : nI s + 1 = nI (s + 1) := by rw [lit_1, nI_add]
    have sl := sft_lt hV m
    have bl := bi_lt hV q
    have pl := popc_le s
    have ml := Nat.mod_lt (sft H m + popc s) (show 0 < H 0 by omega)
    rw [e0, if_neg (fun q => absurd ((z_le (by omega) (by omega)).mp q) (by omega))]
    have l93 := fun E => l_td93 (N := N) (σ := σ) (QL := QL) (E := E) (x1 := nI q) (x4 := x4) (x5 := lN (fb_sm (fun s => tdW H (bi H q) p m (popc s)) s)) (x7 := x7) hm (show s < 64 by omega) hp m N 0 (by omega) (by omega)
    have z : lN (p ^ (fb_ct (fun k => s.testBit k) 0) * (10 - p) ^ (0 - fb_ct (fun k => s.testBit k) 0)) = 1 := by
      show lN (p ^ 0 * (10 - p) ^ (0 - 0)) = 1
      rw [Nat.pow_zero, Nat.sub_self, Nat.pow_zero]
      rfl
    rw [z] at l93
    rw [lit_0, l93, pc_ct m (by omega) s (by omega), t_shiftIn hM hV (by omega), t_ones hN (by omega), t_over (hM 0 (by decide)) (by omega) (by omega), nI_add, fov_nat (by omega), t_biasOfM hM hV hq, lz]
    simp only [lN_add, Nat.add_zero, es, forall_eq, z_eq (show (sft H m + popc s) % H 0 < 2 ^ 31 by omega) (show bi H q < 2 ^ 31 by omega)]
    rw [← ih n (s + 1) (by omega) (by omega), fb_sm_succ]
    by_cases e : (sft H m + popc s) % H 0 = bi H q
    · rw [if_pos e]
      have : tdW H (bi H q) p m (popc s) = p ^ popc s * (10 - p) ^ (m - popc s) := by
        unfold tdW
        rw [if_pos e]
      rw [this]
    · rw [if_neg e]
      have : tdW H (bi H q) p m (popc s) = 0 := by
        unfold tdW
        rw [if_neg e]
      rw [this]
      rfl
theorem l_gcd178 {x4 : Int32} {x5 x7 : Int64} : ∀ (j n a b : Nat), a < 2 ^ 62 → b < 2 ^ j → j ≤ 60 → 2 * j < n → l_X7_thunderOdds_178 N QL x4 x5 x7 E n (lN a) (lN b) σ = E (lN (Nat.gcd a b)) σ := by
  intro j
  have l0 : (0 : Int64) = lN 0 := rfl
  have z : ∀ (n a : Nat), 0 < n → l_X7_thunderOdds_178 N QL x4 x5 x7 E n (lN a) (lN 0) σ = E (lN a) σ := by
    intro n a hn
    obtain ⟨n, rfl⟩ : ∃ i, n = i + 1 := ⟨n - 1, by omega⟩
    show b_X7_thunderOdds_178 N QL x4 x5 x7 E _ (lN a) (lN 0) σ = _
    unfold b_X7_thunderOdds_178
    rw [l0, if_pos (lgc_eq.mpr rfl)]
  have s : ∀ (n a b : Nat), a < 2 ^ 62 → 0 < b → b < 2 ^ 62 → l_X7_thunderOdds_178 N QL x4 x5 x7 E (n + 1) (lN a) (lN b) σ = l_X7_thunderOdds_178 N QL x4 x5 x7 E n (lN b) (lN (a % b)) σ := by
    intro n a b ha hb hb2
    have nb : ¬ lN b = lN 0 := by
      rw [pk_lEQ (by omega) (by omega)]
      omega
    show b_X7_thunderOdds_178 N QL x4 x5 x7 E _ (lN a) (lN b) σ = _
    unfold b_X7_thunderOdds_178
    rw [l0, if_neg (fun q => nb (lgc_eq.mp q)), kremL_lN (by omega) hb (by omega)]
    simp only [nb, not_false_eq_true, true_and, forall_eq]
  induction j with
  | zero =>
    intro n a b ha hb hj hn
    rw [show b = 0 by omega, z n a (by omega), Nat.gcd_zero_right]
  | succ j ih =>
    intro n a b ha hb hj hn
    have p62 : 2 ^ (j + 1) ≤ 2 ^ 62 := Nat.pow_le_pow_right (by omega) (by omega)
    by_cases e : b = 0
    · rw [e, z n a (by omega), Nat.gcd_zero_right]
    · obtain ⟨n, rfl⟩ : ∃ i, n = i + 1 := ⟨n - 1, by omega⟩
      have l1 := Nat.mod_lt a (show 0 < b by omega)
      have g1 : Nat.gcd a b = Nat.gcd b (a % b) := by rw [Nat.gcd_comm, Nat.gcd_rec, Nat.gcd_comm]
      rw [s n a b ha (by omega) (by omega), g1]
      by_cases e2 : a % b = 0
      · rw [e2, z n b (by omega), Nat.gcd_zero_right]
      · obtain ⟨n, rfl⟩ : ∃ i, n = i + 1 := ⟨n - 1, by omega⟩
        have l2 := Nat.mod_lt b (show 0 < a % b by omega)
        have g2 : Nat.gcd b (a % b) = Nat.gcd (a % b) (b % (a % b)) := by rw [Nat.gcd_comm, Nat.gcd_rec, Nat.gcd_comm]
        have h3 : b % (a % b) < 2 ^ j := by
          have d := Nat.div_add_mod b (a % b)
          have q1 : 1 ≤ b / (a % b) := Nat.div_pos (by omega) (by omega)
          have q2 : (a % b) * 1 ≤ (a % b) * (b / (a % b)) := Nat.mul_le_mul_left _ q1
          rw [Nat.pow_succ] at hb
          omega
        rw [s n b (a % b) (by omega) (by omega) (by omega), g2]
        exact ih n (a % b) (b % (a % b)) (by omega) h3 (by omega) (by omega)
theorem P_thunderOdds (hN : 5000 ≤ N) (hI : Inv σ) (x1 x2 x3 x4 : Int32) (hG : ∀ r τ, Inv τ → GL r r τ) : w_X6_thunderOdds N σ x1 x2 x3 x4 (fun r1 τ => w_X7_thunderOdds N τ x1 x2 x3 x4 (fun r2 υ => GL r1 r2 υ)) := by
  obtain ⟨H, ⟨hE, hC, hM, h4⟩, -⟩ := id hI
  have i10 := fun N σ x Q => t_in32 (N := N) (σ := σ) (x := x) (Q := Q) 0 10 (show (0 : Int64).toInt = 0 by decide) (show (10 : Int64).toInt = 10 by decide)
  have i6 := fun N σ x Q => t_in32 (N := N) (σ := σ) (x := x) (Q := Q) 0 6 (show (0 : Int64).toInt = 0 by decide) (show (6 : Int64).toInt = 6 by decide)
  have i1 := fun N σ x Q => t_in32 (N := N) (σ := σ) (x := x) (Q := Q) 0 1 (show (0 : Int64).toInt = 0 by decide) (show (1 : Int64).toInt = 1 by decide)
  simp only [w_X6_thunderOdds, t_hasPupil hC hE, rngA (x := x4) (lo := 0) (hi := 1) 0 1 rfl rfl, rngB (x := x3) (lo := 0) (hi := 6) 0 6 rfl rfl, rngA (x := x2) (lo := 0) (hi := 10) 0 10 rfl rfl]
  by_cases h : 0 ≤ x1.toInt ∧ x1.toInt < H 4
  · obtain ⟨q, hq, rfl⟩ := arg_in h
    have hV := hE.v4 hq
    have h0 := hV.1
    have bl := bi_lt hV q
    by_cases a : 0 ≤ x2.toInt ∧ x2.toInt ≤ 10
    · by_cases b : 0 ≤ x3.toInt ∧ x3.toInt ≤ 6
      · by_cases d : 0 ≤ x4.toInt ∧ x4.toInt ≤ 1
        · obtain ⟨p, -, p2, rfl⟩ := arg_in2 (a := 0) (b := 10) a
          obtain ⟨m, -, m2, rfl⟩ := arg_in2 (a := 0) (b := 6) b
          obtain ⟨A, hA⟩ : ∃ A, A = fb_sm (fun s => tdW H (bi H q) p m (popc s)) (2 ^ m) := ⟨_, rfl⟩
          have hA2 : A = fb_sm (fun t => chR (m - t) t 1 1 * tdW H (bi H q) p m t) (m + 1) := hA.trans (bn_all m2 _)
          have pm : 2 ^ m ≤ 2 ^ 6 := Nat.pow_le_pow_right (by omega) m2
          have tm : 10 ^ m ≤ 10 ^ 6 := Nat.pow_le_pow_right (by omega) m2
          have tp : 1 ≤ 10 ^ m := Nat.pow_pos (by omega)
          have Al : A ≤ 2 ^ m * (10 ^ 6 * 10 ^ 6) := by
            rw [hA]
            exact fb_sm_bound (fun s _ => tdW_le p2 m2 (popc_le s))
          have Al2 : 2 ^ m * (10 ^ 6 * 10 ^ 6) ≤ 2 ^ 6 * (10 ^ 6 * 10 ^ 6) := Nat.mul_le_mul_right _ pm
          have gp : 0 < Nat.gcd A (10 ^ m) := Nat.gcd_pos_of_pos_right _ tp
          have gl : Nat.gcd A (10 ^ m) ≤ 10 ^ m := Nat.le_of_dvd tp (Nat.gcd_dvd_right _ _)
          have w1 : ∀ QL, w_X2_tenthsRight N σ (nI (bi H q)) (nI p) (nI m) QL = QL (lN A) σ := fun QL => by
            unfold w_X2_tenthsRight
            rw [hA2]
            exact l_tenths hN hC hV bl p2 m2 (m + 1) N 0 (by omega) (by omega)
          have w2 : ∀ QL, w_X2_power N σ 10 (nI m) QL = QL (lN (10 ^ m)) σ := fun QL => t_power hN (show 10 < 2 ^ 31 by omega) (by omega)
          have w3 : ∀ QL, w_X2_divisorOfBoth N σ (lN A) (lN (10 ^ m)) QL = QL (lN (Nat.gcd A (10 ^ m))) σ := fun QL => by
            unfold w_X2_divisorOfBoth
            rw [lit_0]
            exact l_divisor 20 N 0 A (10 ^ m) (by omega) (by omega) (by omega) (by omega) (by omega)
          have g1 : 0 ≤ lg_cmp (lN (Nat.gcd A (10 ^ m))) 1 := (lg_cmp_ge _ _).mpr ((pk_lLE (a := 1) (by omega) (by omega)).mpr gp)
          have g0 : ¬ lN (Nat.gcd A (10 ^ m)) = 0 := fun e => absurd ((pk_lEQ (b := 0) (by omega) (by omega)).mp e) (by omega)
          have w4 : ∀ QL x4, w_X7_thunderOdds N σ (nI q) (nI p) (nI m) x4 QL = if 0 ≤ x4.toInt ∧ x4.toInt ≤ 1 then (if x4 = 0 then QL (lN A / lN (Nat.gcd A (10 ^ m))) σ else QL (lN (10 ^ m) / lN (Nat.gcd A (10 ^ m))) σ) else QL (-1000001) σ := fun QL x4 => by
            simp only [w_X7_thunderOdds, t_isPupil hM hE, h, and_self, if_true, z10, if_false, true_and, i10, i6, i1, a, b]
            by_cases f : 0 ≤ x4.toInt ∧ x4.toInt ≤ 1
            · simp only [f, and_self, if_true, z10, if_false, true_and]
              have v1 := fun E => l_td56 (N := N) (σ := σ) (QL := QL) (E := E) (x1 := nI q) (x2 := nI p) (x4 := x4) (x5 := 0) m2 m N 0 (by omega) (by omega)
              rw [Nat.pow_zero] at v1
              refine (v1 _).trans ?_
              have v2 := fun E => l_td79 (N := N) (σ := σ) (QL := QL) (E := E) (x4 := x4) (x7 := lN (10 ^ m)) hN hM hV m2 hq p2 (2 ^ m) N 0 (by omega) (by omega)
              refine (v2 _).trans ?_
              rw [← hA, l_gcd178 20 N A (10 ^ m) (by omega) (by omega) (by omega) (by omega)]
              simp only [g0, not_false_eq_true, true_and]
            · simp only [f, and_self, if_true, z10, if_false, true_and]
          simp only [h, a, b, d, and_self, if_true, z10, if_false, true_and, t_biasOf hC hV hq, w1, w2, w3, g1, j_X6_thunderOdds_96, g0, not_false_eq_true, w4]
          by_cases e : x4 = 0
          · simp only [e, if_true]
            exact hG _ _ hI
          · simp only [e, if_false]
            exact hG _ _ hI
        · simp only [h, a, b, d, and_self, if_true, z10, if_false, true_and, w_X7_thunderOdds, t_isPupil hM hE, i10, i6, i1, hG _ _ hI]
      · simp only [h, a, b, and_self, if_true, z10, if_false, true_and, w_X7_thunderOdds, t_isPupil hM hE, i10, i6, hG _ _ hI]
    · simp only [h, a, and_self, if_true, z10, if_false, true_and, w_X7_thunderOdds, t_isPupil hM hE, i10, hG _ _ hI]
  · simp only [h, and_self, if_true, z10, if_false, true_and, w_X7_thunderOdds, t_isPupil hM hE, hG _ _ hI]
end TD
