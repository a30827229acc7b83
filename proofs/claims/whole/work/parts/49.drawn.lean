/-! ===== drawn ===== -/
def mkR (H : Nat → Nat) : Nat → Nat → Nat → Nat
  | 0, _, m => m
  | r + 1, k, m => mkR H r (k + 1) (m ||| 2 ^ bi H k)
def hitR (H : Nat → Nat) (s : Nat) : Nat → Nat → Bool
  | 0, _ => false
  | r + 1, k => if bi H k = s then true else hitR H s r (k + 1)
def dwZ (z : Nat) : Nat := z * 16807 % 2147483647
def dwS (H : Nat → Nat) (z s : Nat) : Nat := if z % 5 = 0 then (s + z % H 0 + H 1) % H 0 else (s + H 1) % H 0
def dwR (H : Nat → Nat) : Nat → Nat → Nat → Nat → Nat × Nat
  | 0, _, s, v => (s, v)
  | r + 1, z, s, v => dwR H r (dwZ z) (dwS H (dwZ z) s) (v + if hitR H (dwS H (dwZ z) s) (H 4) 0 then 1 else 0)
theorem smd : ∀ b, b < 12 → ((nI b &&& 31).toBitVec.smod 32).toNat = b := by decide
theorem shl1 {b : Nat} (h : b < 12) : (1 : Int32) <<< (nI b &&& 31) = nI (2 ^ b) := by
  have hp : 2 ^ b ≤ 2 ^ 12 := Nat.pow_le_pow_right (by omega) (by omega)
  rw [lit_1, pk_shlN _ b (smd b h) (by omega), Nat.one_mul]
theorem mkR_bit {H : Nat → Nat} {s : Nat} : ∀ r k m, (mkR H r k m).testBit s = (m.testBit s || hitR H s r k) := by
  intro r
  induction r with
  | zero =>
    intro k m
    show m.testBit s = _
    unfold hitR
    rw [Bool.or_false]
  | succ r ih =>
    intro k m
    show (mkR H r (k + 1) (m ||| 2 ^ bi H k)).testBit s = (m.testBit s || if bi H k = s then true else hitR H s r (k + 1))
    rw [ih, Nat.testBit_or, Nat.testBit_two_pow]
    by_cases e : bi H k = s
    · simp [e]
    · simp [e]
theorem mkR_lt {H : Nat → Nat} (hV : HV H) : ∀ r k m, m < 2 ^ 12 → mkR H r k m < 2 ^ 12 := by
  intro r
  induction r with
  | zero => intro k m h; exact h
  | succ r ih =>
    intro k m h
    refine ih _ _ (Nat.or_lt_two_pow h ?_)
    have h0 := hV.1
    have := bia_lt hV (H (42 + k)) (H (47 + k))
    exact Nat.pow_lt_pow_right (by omega) (by unfold bi; omega)
theorem bit_at {m s : Nat} (hm : m < 2 ^ 12) (hs : s < 12) : (nI m >>> (nI s &&& 31)) &&& 1 = nI (if m.testBit s then 1 else 0) := by
  have hq : m / 2 ^ s ≤ m := Nat.div_le_self _ _
  rw [pk_shrN (by omega) _ s (smd s hs), pk_andN (by omega) 1 (by decide), Nat.testBit_eq_decide_div_mod_eq]
  have : m / 2 ^ s % 2 < 2 := Nat.mod_lt _ (by omega)
  by_cases e : m / 2 ^ s % 2 = 1
  · simp [e]
  · have : m / 2 ^ s % 2 = 0 := by omega
    simp [this]
theorem kremL_lN {a b : Nat} (ha : a < 2 ^ 63) (h0 : 0 < b) (hb : b < 2 ^ 63) : kremL (lN a) (lN b) = lN (a % b) := pk_lRem ha h0 hb
theorem dwZ_lt (z : Nat) : dwZ z < 2147483647 := Nat.mod_lt _ (by omega)
theorem dwS_lt {H : Nat → Nat} (hV : HV H) (z s : Nat) : dwS H z s < H 0 := by
  have h0 := hV.1
  unfold dwS
  by_cases e : z % 5 = 0
  · rw [if_pos e]; exact Nat.mod_lt _ (by omega)
  · rw [if_neg e]; exact Nat.mod_lt _ (by omega)
section DR
variable {N : Nat} {σ : kS} {H : Nat → Nat} {Q : Int32 → kS → Prop} {E : Int32 → Int32 → kS → Prop} {F : Int32 → kS → Prop} {G : Int32 → Int32 → kS → Prop}
theorem l_biases (hC : CH σ 33 H) (hV : HV H) : ∀ (r n k m : Nat), k + r = H 4 → r < n → l_X2_biasesOfAll_4 N Q n (nI m) (nI k) σ = Q (nI (mkR H r k m)) σ := by
  have h0 := hV.1
  have h5 := hV.2.2.2.2.1
  intro r
  induction r with
  | zero =>
    intro n k m hk hn
    obtain ⟨n, rfl⟩ : ∃ j, n = j + 1 := ⟨n - 1, by omega⟩
    show b_X2_biasesOfAll_4 N Q _ (nI m) (nI k) σ = _
    unfold b_X2_biasesOfAll_4
    rw [hC.2.2.2.2.1, if_pos ((z_le (by omega) (by omega)).mpr (by omega))]
    rfl
  | succ r ih =>
    intro n k m hk hn
    obtain ⟨n, rfl⟩ : ∃ j, n = j + 1 := ⟨n - 1, by omega⟩
    show b_X2_biasesOfAll_4 N Q _ (nI m) (nI k) σ = _
    unfold b_X2_biasesOfAll_4
    rw [hC.2.2.2.2.1, if_neg (fun q => absurd ((z_le (by omega) (by omega)).mp q) (by omega))]
    have ek : nI k + 1 = nI (k + 1) := by rw [lit_1, nI_add]
    have hb : bi H k < 12 := by
      have := bia_lt hV (H (42 + k)) (H (47 + k))
      unfold bi
      omega
    simp only [t_biasOf hC hV (show k < H 4 by omega), forall_eq, ek, shl1 hb, fa_or]
    exact ih n (k + 1) _ (by omega) (by omega)
theorem l_hit {x1 x3 x7 x8 : Int32} {x4 : Int64} {s : Nat} (hM : MH σ H) (hV : HV H) (hs : s < H 0) : ∀ (r n k : Nat), k + r = H 4 → r < n → l_X7_drawn_135 N Q x1 x3 x4 (nI s) x7 x8 F n 1 (nI k) σ = F 1 σ ∧ l_X7_drawn_135 N Q x1 x3 x4 (nI s) x7 x8 F n 0 (nI k) σ = F (if hitR H s r k then 1 else 0) σ := by
  have h0 := hV.1
  have h5 := hV.2.2.2.2.1
  intro r
  induction r with
  | zero =>
    intro n k hk hn
    obtain ⟨n, rfl⟩ : ∃ j, n = j + 1 := ⟨n - 1, by omega⟩
    constructor
    · show b_X7_drawn_135 N Q x1 x3 x4 (nI s) x7 x8 F _ 1 (nI k) σ = _
      unfold b_X7_drawn_135
      simp only [cl0, vq0, cl1, vq1, cl2, vq2, cl3, vq3, cl4, vq4, cl5, vq5, true_and, hM 4 (by omega)]
      rw [if_pos ((z_le (by omega) (by omega)).mpr (by omega))]
    · show b_X7_drawn_135 N Q x1 x3 x4 (nI s) x7 x8 F _ 0 (nI k) σ = _
      unfold b_X7_drawn_135
      simp only [cl0, vq0, cl1, vq1, cl2, vq2, cl3, vq3, cl4, vq4, cl5, vq5, true_and, hM 4 (by omega)]
      rw [if_pos ((z_le (by omega) (by omega)).mpr (by omega))]
      rfl
  | succ r ih =>
    intro n k hk hn
    obtain ⟨n, rfl⟩ : ∃ j, n = j + 1 := ⟨n - 1, by omega⟩
    have ek : nI k + 1 = nI (k + 1) := by rw [lit_1, nI_add]
    have ii := ih n (k + 1) (by omega) (by omega)
    have hb := bia_lt hV (H (42 + k)) (H (47 + k))
    constructor
    · show b_X7_drawn_135 N Q x1 x3 x4 (nI s) x7 x8 F _ 1 (nI k) σ = _
      unfold b_X7_drawn_135
      simp only [cl0, vq0, cl1, vq1, cl2, vq2, cl3, vq3, cl4, vq4, cl5, vq5, true_and, hM 4 (by omega)]
      rw [if_neg (fun q => absurd ((z_le (by omega) (by omega)).mp q) (by omega))]
      simp only [z10, if_false, forall_eq, ek, ii.1]
    · show b_X7_drawn_135 N Q x1 x3 x4 (nI s) x7 x8 F _ 0 (nI k) σ = _
      unfold b_X7_drawn_135
      simp only [cl0, vq0, cl1, vq1, cl2, vq2, cl3, vq3, cl4, vq4, cl5, vq5, true_and, hM 4 (by omega)]
      rw [if_neg (fun q => absurd ((z_le (by omega) (by omega)).mp q) (by omega))]
      simp only [if_true, forall_eq, ek, ii.1, ii.2, t_biasOfM hM hV (show k < H 4 by omega), z_eq (show bi H k < 2 ^ 31 by unfold bi; omega) (show s < 2 ^ 31 by omega)]
      show _ = F (if (if bi H k = s then true else hitR H s r (k + 1)) then 1 else 0) σ
      by_cases e : bi H k = s
      · rw [if_pos e, if_pos e]
        rfl
      · rw [if_neg e, if_neg e]
theorem lgc_eq {x y : Int64} : lg_cmp x y = 0 ↔ x = y := by
  have h1 := lgc_lt x y
  have h2 := lgc_gt x y
  have z : (0 : Int32).toInt = 0 := by decide
  rw [fa_lt, z, fa_lt64] at h1
  rw [fa_lt, z, fa_lt64] at h2
  rw [fa_eq, z, fa_eq64]
  omega
theorem l_draws {t M x : Nat} (hC : CH σ 33 H) (hV : HV H) (ht : t ≤ 60) (hM : M = mkR H (H 4) 0 0) : ∀ (r n k z s v : Nat), k + r = t → r < n → z < 2147483647 → s < H 0 → v ≤ k → l_X2_nightsByDraws_25 N Q (nI t) (nI x) (nI M) E n (lN z) (nI s) (nI v) (nI k) σ = E (nI (dwR H r z s v).1) (nI (dwR H r z s v).2) σ := by
  have h0 := hV.1
  have h1 := hV.2.1
  have hMl : M < 2 ^ 12 := by
    rw [hM]
    exact mkR_lt hV _ _ _ (by decide)
  have l1 : (2147483647 : Int64) = lN 2147483647 := rfl
  have l2 : (16807 : Int64) = lN 16807 := rfl
  have l3 : (5 : Int64) = lN 5 := rfl
  have l0 : (0 : Int64) = lN 0 := rfl
  have n1 : (¬ (lN 2147483647) = lN 0) = True := eq_true (by decide)
  have n2 : (¬ (lN 5) = lN 0) = True := eq_true (by decide)
  intro r
  induction r with
  | zero =>
    intro n k z s v hk hn hz hs hv
    obtain ⟨n, rfl⟩ : ∃ j, n = j + 1 := ⟨n - 1, by omega⟩
    show b_X2_nightsByDraws_25 N Q (nI t) (nI x) (nI M) E _ (lN z) (nI s) (nI v) (nI k) σ = _
    unfold b_X2_nightsByDraws_25
    rw [if_pos ((z_le (by omega) (by omega)).mpr (by omega))]
    rfl
  | succ r ih =>
    intro n k z s v hk hn hz hs hv
    obtain ⟨n, rfl⟩ : ∃ j, n = j + 1 := ⟨n - 1, by omega⟩
    show b_X2_nightsByDraws_25 N Q (nI t) (nI x) (nI M) E _ (lN z) (nI s) (nI v) (nI k) σ = _
    unfold b_X2_nightsByDraws_25
    rw [if_neg (fun q => absurd ((z_le (by omega) (by omega)).mp q) (by omega))]
    have zl := dwZ_lt z
    have sl := dwS_lt hV (dwZ z) s
    have ek : nI k + 1 = nI (k + 1) := by rw [lit_1, nI_add]
    have ez : kremL (lN (z * 16807)) (lN 2147483647) = lN (dwZ z) := kremL_lN (by omega) (by omega) (by omega)
    have e5 : kremL (lN (dwZ z)) (lN 5) = lN (dwZ z % 5) := kremL_lN (by omega) (by omega) (by omega)
    simp only [l1, l2, l3, l0, n1, n2, true_and, lN_mul, ez, forall_eq, e5, lgc_eq, pk_lEQ (show dwZ z % 5 < 2 ^ 63 by omega) (show 0 < 2 ^ 63 by omega), lN_i]
    have hit : (nI M >>> (nI (dwS H (dwZ z) s) &&& 31)) &&& 1 = nI (if hitR H (dwS H (dwZ z) s) (H 4) 0 then 1 else 0) := by
      rw [bit_at hMl (by omega), hM, mkR_bit]
      simp
    have hd : ∀ x y, nI x + (nI M >>> (nI (dwS H (dwZ z) s) &&& 31) &&& 1) = y → nI (x + if hitR H (dwS H (dwZ z) s) (H 4) 0 then 1 else 0) = y := fun x y q => by
      rw [← q, hit, nI_add]
    have ar := fun x Q => t_around (N := N) (x := x) (Q := Q) hC.1 (show 0 < H 0 by omega) (show H 0 < 2 ^ 31 by omega)
    have vv : (v + if hitR H (dwS H (dwZ z) s) (H 4) 0 then 1 else 0) ≤ k + 1 := by
      split <;> omega
    have fi := ih n (k + 1) (dwZ z) (dwS H (dwZ z) s) (v + if hitR H (dwS H (dwZ z) s) (H 4) 0 then 1 else 0) (by omega) (by omega) zl sl vv
    have q1 := Nat.mod_lt (dwZ z) (show 0 < H 0 by omega)
    have q2 := Nat.mod_lt (s + dwZ z % H 0) (show 0 < H 0 by omega)
    have jj : ∀ s', (s' + H 1) % H 0 = dwS H (dwZ z) s → s' < 1000 → j_X2_nightsByDraws_76 N Q (nI t) (nI x) (lN (dwZ z)) (nI s') (nI M) (nI v) (nI k) (l_X2_nightsByDraws_25 N Q (nI t) (nI x) (nI M) E n) σ = E (nI (dwR H (r + 1) z s v).1) (nI (dwR H (r + 1) z s v).2) σ := fun s' e l => by
      unfold j_X2_nightsByDraws_76
      rw [hC.2.1, ar, nI_add, fov_nat (by omega), e]
      simp only [forall_eq, hit, nI_add, ek]
      exact fi
    by_cases d : dwZ z % 5 = 0
    · rw [if_pos d, ar, ar, fov_nat (by omega), nI_add, fov_nat (by omega)]
      refine jj _ ?_ (by omega)
      unfold dwS
      rw [if_pos d, Nat.mod_add_mod]
    · rw [if_neg d]
      refine jj _ ?_ (by omega)
      unfold dwS
      rw [if_neg d]
theorem l_drawn {t : Nat} {x3 : Int32} (hN : 5000 ≤ N) (hM : MH σ H) (hV : HV H) (ht : t ≤ 60) : ∀ (r n k z s v : Nat), k + r = t → r < n → z < 2147483647 → s < H 0 → v ≤ k → l_X7_drawn_65 N Q (nI t) x3 E n (lN z) (nI s) (nI v) (nI k) σ = E (nI (dwR H r z s v).1) (nI (dwR H r z s v).2) σ := by
  have h0 := hV.1
  have h1 := hV.2.1
  have h5 := hV.2.2.2.2.1
  have l1 : (2147483647 : Int64) = lN 2147483647 := rfl
  have l2 : (16807 : Int64) = lN 16807 := rfl
  have l3 : (5 : Int64) = lN 5 := rfl
  have l0 : (0 : Int64) = lN 0 := rfl
  have n1 : (¬ (lN 2147483647) = lN 0) = True := eq_true (by decide)
  have n2 : (¬ (lN 5) = lN 0) = True := eq_true (by decide)
  have eH : (nI (H 0)).toInt64 = lN (H 0) := by
    rw [fa_eq64, Int32.toInt_toInt64, nI_toInt (by omega), pk_lT (by omega)]
  have nH : (¬ lN (H 0) = lN 0) = True := eq_true (by
    rw [pk_lEQ (by omega) (by omega)]
    omega)
  intro r
  induction r with
  | zero =>
    intro n k z s v hk hn hz hs hv
    obtain ⟨n, rfl⟩ : ∃ j, n = j + 1 := ⟨n - 1, by omega⟩
    show b_X7_drawn_65 N Q (nI t) x3 E _ (lN z) (nI s) (nI v) (nI k) σ = _
    unfold b_X7_drawn_65
    rw [if_pos ((z_le (by omega) (by omega)).mpr (by omega))]
    rfl
  | succ r ih =>
    intro n k z s v hk hn hz hs hv
    obtain ⟨n, rfl⟩ : ∃ j, n = j + 1 := ⟨n - 1, by omega⟩
    show b_X7_drawn_65 N Q (nI t) x3 E _ (lN z) (nI s) (nI v) (nI k) σ = _
    unfold b_X7_drawn_65
    rw [if_neg (fun q => absurd ((z_le (by omega) (by omega)).mp q) (by omega))]
    have zl := dwZ_lt z
    have sl := dwS_lt hV (dwZ z) s
    have ek : nI k + 1 = nI (k + 1) := by rw [lit_1, nI_add]
    have ev : nI v + 1 = nI (v + 1) := by rw [lit_1, nI_add]
    have ez : kremL (lN (z * 16807)) (lN 2147483647) = lN (dwZ z) := kremL_lN (by omega) (by omega) (by omega)
    have e5 : kremL (lN (dwZ z)) (lN 5) = lN (dwZ z % 5) := kremL_lN (by omega) (by omega) (by omega)
    have eK : kremL (lN (dwZ z)) (lN (H 0)) = lN (dwZ z % H 0) := kremL_lN (by omega) (by omega) (by omega)
    simp only [l1, l2, l3, l0, n1, n2, true_and, lN_mul, ez, forall_eq, e5, lgc_eq, pk_lEQ (show dwZ z % 5 < 2 ^ 63 by omega) (show 0 < 2 ^ 63 by omega), cl0, vq0, cl1, vq1, cl2, vq2, cl3, vq3, cl4, vq4, cl5, vq5, hM 0 (show 0 < 57 by omega), eH, nH, eK, lN_i]
    have vv : (v + if hitR H (dwS H (dwZ z) s) (H 4) 0 then 1 else 0) ≤ k + 1 := by
      split <;> omega
    have fi := ih n (k + 1) (dwZ z) (dwS H (dwZ z) s) (v + if hitR H (dwS H (dwZ z) s) (H 4) 0 then 1 else 0) (by omega) (by omega) zl sl vv
    have q1 := Nat.mod_lt (dwZ z) (show 0 < H 0 by omega)
    have jj : ∀ a b, (b + a + H 1) % H 0 = dwS H (dwZ z) s → a < 1000 → b < 1000 → j_X7_drawn_111 N Q (nI t) x3 (lN (dwZ z)) (nI v) (nI k) (nI a) (nI b) (l_X7_drawn_65 N Q (nI t) x3 E n) σ = E (nI (dwR H (r + 1) z s v).1) (nI (dwR H (r + 1) z s v).2) σ := fun a b e la lb => by
      unfold j_X7_drawn_111
      simp only [forall_eq, cl0, vq0, cl1, vq1, cl2, vq2, cl3, vq3, cl4, vq4, cl5, vq5, true_and, hM 1 (show 1 < 57 by omega), nI_add, t_over (hM 0 (show 0 < 57 by omega)) (show 0 < H 0 by omega) (show H 0 < 2 ^ 31 by omega), fov_nat (show b + a + H 1 < 2 ^ 31 by omega), e, Int32.add_zero, ek, ev]
      refine (l_hit (N := N) hM hV sl (H 4) N 0 (by omega) (by omega)).2.trans ?_
      revert fi
      show (_ = E (nI (dwR H r (dwZ z) (dwS H (dwZ z) s) (v + if hitR H (dwS H (dwZ z) s) (H 4) 0 then 1 else 0)).1) (nI (dwR H r (dwZ z) (dwS H (dwZ z) s) (v + if hitR H (dwS H (dwZ z) s) (H 4) 0 then 1 else 0)).2) σ) → (_ = E (nI (dwR H r (dwZ z) (dwS H (dwZ z) s) (v + if hitR H (dwS H (dwZ z) s) (H 4) 0 then 1 else 0)).1) (nI (dwR H r (dwZ z) (dwS H (dwZ z) s) (v + if hitR H (dwS H (dwZ z) s) (H 4) 0 then 1 else 0)).2) σ)
      cases hitR H (dwS H (dwZ z) s) (H 4) 0 <;> simp
    by_cases d : dwZ z % 5 = 0
    · rw [if_pos d]
      refine jj _ _ ?_ (by omega) (by omega)
      unfold dwS
      rw [if_pos d]
    · rw [if_neg d]
      refine jj 0 _ ?_ (by omega) (by omega)
      unfold dwS
      rw [if_neg d]
      rfl
end DR
