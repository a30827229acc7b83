/-! ===== calls that change nothing, the second lot ===== -/
theorem rngA {x lo hi : Int32} {A B : Prop} (a b : Int) (ha : lo.toInt = a) (hb : hi.toInt = b) : (if x < lo then A else if x ≤ hi then B else A) = if a ≤ x.toInt ∧ x.toInt ≤ b then B else A := by
  subst ha; subst hb
  simp only [fa_lt, fa_le]
  by_cases h1 : x.toInt < lo.toInt
  · rw [if_pos h1, if_neg (by omega)]
  · rw [if_neg h1]
    by_cases h2 : x.toInt ≤ hi.toInt
    · rw [if_pos h2, if_pos (by omega)]
    · rw [if_neg h2, if_neg (by omega)]
theorem rngB {x lo hi : Int32} {A B : Prop} (a b : Int) (ha : lo.toInt = a) (hb : hi.toInt = b) : (if x < lo then A else if hi < x then A else B) = if a ≤ x.toInt ∧ x.toInt ≤ b then B else A := by
  subst ha; subst hb
  simp only [fa_lt]
  by_cases h1 : x.toInt < lo.toInt
  · rw [if_pos h1, if_neg (by omega)]
  · rw [if_neg h1]
    by_cases h2 : hi.toInt < x.toInt
    · rw [if_pos h2, if_neg (by omega)]
    · rw [if_neg h2, if_pos (by omega)]
theorem rngC {x : Int32} {n : Nat} {A B : Prop} (hn : n < 2 ^ 31) : (if x < 0 then A else if x < nI n then B else A) = if 0 ≤ x.toInt ∧ x.toInt < n then B else A := by
  have z : (0 : Int32).toInt = 0 := by decide
  simp only [fa_lt, nI_toInt hn, z]
  by_cases h1 : x.toInt < 0
  · rw [if_pos h1, if_neg (by omega)]
  · rw [if_neg h1]
    by_cases h2 : x.toInt < n
    · rw [if_pos h2, if_pos (by omega)]
    · rw [if_neg h2, if_neg (by omega)]
theorem arg_in2 {x : Int32} {a b : Nat} (h : (a : Int) ≤ x.toInt ∧ x.toInt ≤ b) : ∃ n : Nat, a ≤ n ∧ n ≤ b ∧ x = nI n := by
  obtain ⟨q, h1, h2, h3⟩ := nI_inv (x := x) (by omega)
  exact ⟨q, by omega, by omega, h2⟩
section R2
variable {N : Nat} {σ : kS} {H : Nat → Nat} {Q : Int32 → kS → Prop} {G : Int32 → Int32 → kS → Prop}
/-- nights as bits -/
def bitR (H : Nat → Nat) (a : Nat) : Nat → Nat → Int32 → Int32
  | 0, _, s => s
  | r + 1, k, s => bitR H a r (k + 1) (if sft H k = a then s ||| ((1 : Int32) <<< (nI k &&& 31)) else s)
theorem or_0 (x : Int32) : x ||| 0 = x := Int32.or_zero
theorem l_nightsAt {a t : Nat} (hC : CH σ 33 H) (hV : HV H) (ha : a < H 0) (ht : t ≤ 24) : ∀ (r n k : Nat) (s : Int32), k + r = t → r < n → l_X2_nightsAt_5 N Q (nI a) (nI t) n s (nI k) σ = Q (bitR H a r k s) σ := by
  have h0 := hV.1
  intro r
  induction r with
  | zero =>
    intro n k s hk hn
    obtain ⟨n, rfl⟩ : ∃ j, n = j + 1 := ⟨n - 1, by omega⟩
    show b_X2_nightsAt_5 N Q (nI a) (nI t) _ s (nI k) σ = _
    unfold b_X2_nightsAt_5
    simp (disch := omega) only [z_le]
    rw [if_pos (by omega)]
    rfl
  | succ r ih =>
    intro n k s hk hn
    obtain ⟨n, rfl⟩ : ∃ j, n = j + 1 := ⟨n - 1, by omega⟩
    show b_X2_nightsAt_5 N Q (nI a) (nI t) _ s (nI k) σ = _
    unfold b_X2_nightsAt_5
    have := sft_lt hV k
    simp (disch := omega) only [z_le]
    rw [if_neg (by omega)]
    simp (disch := omega) only [t_shiftBehind hC hV, z_eq, forall_eq, nI_1]
    rw [ih n (k + 1) _ (by omega) (by omega), ih n (k + 1) _ (by omega) (by omega)]
    show _ = Q (bitR H a r (k + 1) _) σ
    by_cases h : sft H k = a
    · rw [if_pos h, if_pos h]
    · rw [if_neg h, if_neg h]
theorem t_nightsAt {a t : Nat} (hN : 5000 ≤ N) (hC : CH σ 33 H) (hV : HV H) (ha : a < H 0) (ht : t ≤ 24) : w_X2_nightsAt N σ (nI a) (nI t) Q = Q (bitR H a t 0 0) σ := by
  unfold w_X2_nightsAt
  exact l_nightsAt hC hV ha ht t N 0 0 (by omega) (by omega)
theorem l_nightsOf {q t : Nat} (hM : MH σ H) (hV : HV H) (hq : q < H 4) (ht : t ≤ 24) : ∀ (r n k : Nat) (s : Int32), k + r = t → r < n → l_X7_nightsOf_28 N Q (nI q) (nI t) n s (nI k) σ = Q (bitR H (bi H q) r k s) σ := by
  have h0 := hV.1
  have hb := bi_lt hV q
  intro r
  induction r with
  | zero =>
    intro n k s hk hn
    obtain ⟨n, rfl⟩ : ∃ j, n = j + 1 := ⟨n - 1, by omega⟩
    show b_X7_nightsOf_28 N Q (nI q) (nI t) _ s (nI k) σ = _
    unfold b_X7_nightsOf_28
    simp (disch := omega) only [z_le]
    rw [if_pos (by omega)]
    rfl
  | succ r ih =>
    intro n k s hk hn
    obtain ⟨n, rfl⟩ : ∃ j, n = j + 1 := ⟨n - 1, by omega⟩
    show b_X7_nightsOf_28 N Q (nI q) (nI t) _ s (nI k) σ = _
    unfold b_X7_nightsOf_28
    have := sft_lt hV k
    simp (disch := omega) only [z_le]
    rw [if_neg (by omega)]
    simp (disch := omega) only [t_shiftIn hM hV, t_biasOfM hM hV hq, z_eq, forall_eq, nI_1, or_0]
    rw [ih n (k + 1) _ (by omega) (by omega), ih n (k + 1) _ (by omega) (by omega)]
    show _ = Q (bitR H (bi H q) r (k + 1) _) σ
    by_cases h : sft H k = bi H q
    · rw [if_pos h, if_pos h]
    · rw [if_neg h, if_neg h]
theorem P_nightsOf (hN : 5000 ≤ N) (hI : Inv σ) (x1 x2 : Int32) (hG : ∀ r τ, Inv τ → G r r τ) : w_X6_nightsOf N σ x1 x2 (fun r1 τ => w_X7_nightsOf N τ x1 x2 (fun r2 υ => G r1 r2 υ)) := by
  obtain ⟨H, ⟨hE, hC, hM, h4⟩, -⟩ := id hI
  simp only [w_X6_nightsOf, w_X7_nightsOf, t_hasPupil hC hE, rngA (x := x2) (lo := 1) (hi := 24) 1 24 rfl rfl]
  by_cases h : 0 ≤ x1.toInt ∧ x1.toInt < H 4
  · obtain ⟨q, hq, rfl⟩ := arg_in h
    have hV := hE.v4 hq
    simp only [h, and_self, if_true, z10, if_false]
    by_cases g : 1 ≤ x2.toInt ∧ x2.toInt ≤ 24
    · obtain ⟨t, t1, t2, rfl⟩ := arg_in2 (a := 1) (b := 24) g
      simp only [g, and_self, if_true, t_biasOf hC hV hq, t_nightsAt hN hC hV (bi_lt hV q) t2]
      simp only [t_isPupil hM hE, h, and_self, if_true, z10, if_false, t_in32 1 24 (show (1 : Int64).toInt = 1 by decide) (show (24 : Int64).toInt = 24 by decide), g]
      rw [lit_0, l_nightsOf hM hV hq t2 t N 0 _ (by omega) (by omega)]
      exact hG _ _ hI
    · simp only [g, if_false, t_isPupil hM hE, h, and_self, if_true, z10, t_in32 1 24 (show (1 : Int64).toInt = 1 by decide) (show (24 : Int64).toInt = 24 by decide), hG _ _ hI]
  · simp [h, hG _ _ hI, t_isPupil hM hE]
/-! another piano -/
def othR (H : Nat → Nat) (d s : Nat) : Nat → Nat → Int32
  | 0, _ => -1000000
  | r + 1, k => if sft H k = (s + k * d) % H 0 then nI k else othR H d s r (k + 1)
theorem l_alike {d s : Nat} (hC : CH σ 33 H) (hV : HV H) (hd : d < H 0) (hs : s < H 0) : ∀ (r n k : Nat), k + r = 101 → r < n → l_X2_firstNightAlike_2 N Q (nI d) (nI s) n (nI k) σ = Q (othR H d s r k) σ := by
  have h0 := hV.1
  intro r
  induction r with
  | zero =>
    intro n k hk hn
    obtain ⟨n, rfl⟩ : ∃ j, n = j + 1 := ⟨n - 1, by omega⟩
    show b_X2_firstNightAlike_2 N Q (nI d) (nI s) _ (nI k) σ = _
    unfold b_X2_firstNightAlike_2
    simp (disch := omega) only [lit_100, z_lt]
    rw [if_pos (by omega)]
    rfl
  | succ r ih =>
    intro n k hk hn
    obtain ⟨n, rfl⟩ : ∃ j, n = j + 1 := ⟨n - 1, by omega⟩
    show b_X2_firstNightAlike_2 N Q (nI d) (nI s) _ (nI k) σ = _
    unfold b_X2_firstNightAlike_2
    have l1 := sft_lt hV k
    have l2 : (s + k * d) % H 0 < H 0 := Nat.mod_lt _ (by omega)
    have l3 : k * d ≤ 200 * 12 := Nat.mul_le_mul (by omega) (by omega)
    simp (disch := omega) only [lit_100, z_lt]
    rw [if_neg (by omega)]
    simp (disch := omega) only [t_shiftBehind hC hV, t_around hC.1, pk_mul, nI_add, fov_nat, z_eq, forall_eq, nI_1]
    rw [ih n (k + 1) (by omega) (by omega)]
    show _ = Q (if sft H k = (s + k * d) % H 0 then nI k else othR H d s r (k + 1)) σ
    by_cases h : sft H k = (s + k * d) % H 0
    · rw [if_pos h, if_pos h]
    · rw [if_neg h, if_neg h]
theorem l_other {d s : Nat} (hM : MH σ H) (hV : HV H) (hd : d < H 0) (hs : s < H 0) : ∀ (r n k : Nat), k + r = 101 → r < n → l_X7_other_51 N Q (nI d) (nI s) n (nI k) σ = Q (othR H d s r k) σ := by
  have h0 := hV.1
  intro r
  induction r with
  | zero =>
    intro n k hk hn
    obtain ⟨n, rfl⟩ : ∃ j, n = j + 1 := ⟨n - 1, by omega⟩
    show b_X7_other_51 N Q (nI d) (nI s) _ (nI k) σ = _
    unfold b_X7_other_51
    simp (disch := omega) only [lit_100, z_lt]
    rw [if_pos (by omega)]
    rfl
  | succ r ih =>
    intro n k hk hn
    obtain ⟨n, rfl⟩ : ∃ j, n = j + 1 := ⟨n - 1, by omega⟩
    show b_X7_other_51 N Q (nI d) (nI s) _ (nI k) σ = _
    unfold b_X7_other_51
    have l1 := sft_lt hV k
    have l2 : (s + k * d) % H 0 < H 0 := Nat.mod_lt _ (by omega)
    have l3 : k * d ≤ 200 * 12 := Nat.mul_le_mul (by omega) (by omega)
    simp (disch := omega) only [lit_100, z_lt]
    rw [if_neg (by omega)]
    simp (disch := omega) only [t_shiftIn hM hV, t_over (hM 0 (by decide)), pk_mul, nI_add, fov_nat, z_eq, forall_eq, nI_1]
    rw [ih n (k + 1) (by omega) (by omega)]
    show _ = Q (if sft H k = (s + k * d) % H 0 then nI k else othR H d s r (k + 1)) σ
    by_cases h : sft H k = (s + k * d) % H 0
    · rw [if_pos h, if_pos h]
    · rw [if_neg h, if_neg h]
theorem there1 {H : Nat → Nat} (h : 0 < H 0) (h4 : σ 55 4 = nI (if H 0 = 0 then 0 else 1)) : ¬ σ 55 4 = 0 := by
  rw [h4, if_neg (by omega)]
  decide
theorem there0 {H : Nat → Nat} (h : ¬ 0 < H 0) (h4 : σ 55 4 = nI (if H 0 = 0 then 0 else 1)) : σ 55 4 = 0 := by
  rw [h4, if_pos (by omega)]
  rfl
theorem P_other (hN : 5000 ≤ N) (hI : Inv σ) (x1 x2 : Int32) (hG : ∀ r τ, Inv τ → G r r τ) : w_X6_other N σ x1 x2 (fun r1 τ => w_X7_other N τ x1 x2 (fun r2 υ => G r1 r2 υ)) := by
  obtain ⟨H, ⟨hE, hC, hM, h4⟩, -⟩ := id hI
  simp only [w_X6_other, t_isTold hC hE]
  by_cases h : 0 < H 0
  · have hV := hE.v0 h
    have h0 := hV.1
    simp only [h, if_true, z10, if_false, hC.1, rng_cl (x := x1) (n := H 0) (show H 0 < 2 ^ 31 by omega), rngC (x := x2) (n := H 0) (show H 0 < 2 ^ 31 by omega)]
    by_cases a : 0 ≤ x1.toInt ∧ x1.toInt < H 0
    · obtain ⟨d, hd, rfl⟩ := arg_in a
      simp only [a, and_self, if_true]
      by_cases b : 0 ≤ x2.toInt ∧ x2.toInt < H 0
      · obtain ⟨s, hs, rfl⟩ := arg_in b
        simp only [b, and_self, if_true, w_X2_firstNightAlike]
        rw [lit_0, l_alike hC hV hd hs 101 N 0 (by omega) (by omega)]
        simp (disch := omega) only [w_X7_other, there1 h h4, cl0, vq0, cl1, vq1, cl2, vq2, cl3, vq3, cl4, vq4, cl5, vq5, and_self, if_true, z10, if_false, true_and, hM 0 (by decide), t_rangeM, a, b]
        rw [lit_0, l_other hM hV hd hs 101 N 0 (by omega) (by omega)]
        exact hG _ _ hI
      · simp (disch := omega) only [b, if_false, w_X7_other, there1 h h4, cl0, vq0, cl1, vq1, cl2, vq2, cl3, vq3, cl4, vq4, cl5, vq5, and_self, if_true, z10, if_false, true_and, hM 0 (by decide), t_rangeM, a, hG _ _ hI]
    · simp (disch := omega) only [a, if_false, w_X7_other, there1 h h4, cl0, vq0, cl1, vq1, cl2, vq2, cl3, vq3, cl4, vq4, cl5, vq5, and_self, if_true, z10, if_false, true_and, hM 0 (by decide), t_rangeM, hG _ _ hI]
  · simp only [h, if_false, if_true, w_X7_other, there0 h h4, hG _ _ hI]
theorem P_strike (hI : Inv σ) (x1 : Int32) (hG : ∀ r τ, Inv τ → G r r τ) : w_X6_strike N σ x1 (fun r1 τ => w_X7_strike N τ x1 (fun r2 υ => G r1 r2 υ)) := by
  obtain ⟨H, ⟨hE, hC, hM, h4⟩, -⟩ := id hI
  simp only [w_X6_strike, t_isTold hC hE]
  by_cases h : 0 < H 0
  · have hV := hE.v0 h
    have h0 := hV.1
    simp only [h, if_true, z10, if_false, hC.1, rngC (x := x1) (n := H 0) (show H 0 < 2 ^ 31 by omega)]
    by_cases a : 0 ≤ x1.toInt ∧ x1.toInt < H 0
    · simp (disch := omega) only [a, and_self, if_true, z10, if_false, true_and, t_around hC.1, hC.2.2.1]
      simp (disch := omega) only [w_X7_strike, there1 h h4, cl0, vq0, cl1, vq1, cl2, vq2, cl3, vq3, cl4, vq4, cl5, vq5, and_self, if_true, z10, if_false, true_and, hM 0 (by decide), hM 2 (by decide), t_rangeM, a, t_over (hM 0 (by decide)), hG _ _ hI]
    · simp (disch := omega) only [a, and_self, if_true, z10, if_false, true_and, w_X7_strike, there1 h h4, cl0, vq0, cl1, vq1, cl2, vq2, cl3, vq3, cl4, vq4, cl5, vq5, hM 0 (by decide), t_rangeM, hG _ _ hI]
  · simp only [h, if_false, if_true, w_X7_strike, there0 h h4, hG _ _ hI]
theorem P_heard (hI : Inv σ) (x1 x2 x3 : Int32) (hG : ∀ r τ, Inv τ → G r r τ) : w_X6_heard N σ x1 x2 x3 (fun r1 τ => w_X7_heard N τ x1 x2 x3 (fun r2 υ => G r1 r2 υ)) := by
  obtain ⟨H, ⟨hE, hC, hM, h4⟩, -⟩ := id hI
  have hl := hE.le
  simp only [w_X6_heard, t_hasPupil hC hE, t_hasPiece hC hE]
  by_cases h : 0 ≤ x1.toInt ∧ x1.toInt < H 4
  · obtain ⟨q, hq, rfl⟩ := arg_in h
    have hV := hE.v4 hq
    have h0 := hV.1
    simp only [h, and_self, if_true, z10, if_false, true_and]
    by_cases g : 0 ≤ x2.toInt ∧ x2.toInt < H 3
    · obtain ⟨p, hp, rfl⟩ := arg_in g
      have h8 := hV.2.2.2.2.2.2.1 p hp
      have e6 : (6 : Int32) + nI p = nI (6 + p) := nI_add 6 p
      have hv4 : vp_in (nI p) 4 := vp_in_nI (by omega) (by decide)
      have hv6 : vp_in (nI (6 + p)) 57 := vp_in_nI (by omega) (by decide)
      have m6 : σ 59 (6 + p) = nI (H (6 + p)) := hM _ (by omega)
      have c6 : (nI (6 + p)).toNatClampNeg = 6 + p := nI_clamp (by omega)
      have cp : (nI p).toNatClampNeg = p := nI_clamp (by omega)
      simp only [g, and_self, if_true, z10, if_false, true_and, hv4, cp, hC.2.2.2.2.2.2.1 p hp, rngC (x := x3) (n := H (6 + p)) (show H (6 + p) < 2 ^ 31 by omega)]
      by_cases f : 0 ≤ x3.toInt ∧ x3.toInt < H (6 + p)
      · obtain ⟨k, hk, rfl⟩ := arg_in f
        simp (disch := omega) only [f, and_self, if_true, z10, if_false, true_and, t_stringOf hC hV hp hk, t_biasOf hC hV hq, w_X3_stringHeard, t_around hC.1, hC.2.2.1]
        have e1 : (10 : Int32) + 8 * nI p + nI k = nI (10 + 8 * p + k) := by rw [lit_8, lit_10, pk_mul, nI_add, nI_add]
        have hv1 : vp_in (nI (10 + 8 * p + k)) 57 := vp_in_nI (by omega) (by decide)
        have m1 : σ 59 (10 + 8 * p + k) = nI (H (10 + 8 * p + k)) := hM _ (by omega)
        have c1 : (nI (10 + 8 * p + k)).toNatClampNeg = 10 + 8 * p + k := nI_clamp (by omega)
        simp (disch := omega) only [w_X7_heard, t_isPupil hM hE, t_isPiece hM hE, h, g, and_self, if_true, z10, if_false, true_and, e6, hv6, c6, m6, t_rangeM, f, t_biasOfM hM hV hq, w_X7_heardBy, e1, hv1, c1, m1, cl0, vq0, cl1, vq1, cl2, vq2, cl3, vq3, cl4, vq4, cl5, vq5, hM 2 (by decide), t_over (hM 0 (by decide)), hG _ _ hI]
      · simp (disch := omega) only [f, and_self, if_true, z10, if_false, true_and, w_X7_heard, t_isPupil hM hE, t_isPiece hM hE, h, g, e6, hv6, c6, m6, t_rangeM, hG _ _ hI]
    · simp only [g, and_self, if_true, z10, if_false, true_and, w_X7_heard, t_isPupil hM hE, t_isPiece hM hE, h, hG _ _ hI]
  · simp only [h, and_self, if_true, z10, if_false, true_and, w_X7_heard, t_isPupil hM hE, hG _ _ hI]
theorem P_piece (hI : Inv σ) (x1 x2 : Int32) (hG : ∀ r τ, Inv τ → G r r τ) : w_X6_piece N σ x1 x2 (fun r1 τ => w_X7_piece N τ x1 x2 (fun r2 υ => G r1 r2 υ)) := by
  obtain ⟨H, ⟨hE, hC, hM, h4⟩, -⟩ := id hI
  have hl := hE.le
  simp only [w_X6_piece, t_hasPiece hC hE]
  by_cases g : 0 ≤ x1.toInt ∧ x1.toInt < H 3
  · obtain ⟨p, hp, rfl⟩ := arg_in g
    have hV := hE.v3 hp
    have h8 := hV.2.2.2.2.2.2.1 p hp
    have e6 : (6 : Int32) + nI p = nI (6 + p) := nI_add 6 p
    have hv4 : vp_in (nI p) 4 := vp_in_nI (by omega) (by decide)
    have hv6 : vp_in (nI (6 + p)) 57 := vp_in_nI (by omega) (by decide)
    have m6 : σ 59 (6 + p) = nI (H (6 + p)) := hM _ (by omega)
    have c6 : (nI (6 + p)).toNatClampNeg = 6 + p := nI_clamp (by omega)
    have cp : (nI p).toNatClampNeg = p := nI_clamp (by omega)
    simp only [g, and_self, if_true, z10, if_false, true_and, hv4, cp, hC.2.2.2.2.2.2.1 p hp]
    by_cases a : (-1 : Int32) ≤ x2
    · simp only [a, and_self, if_true, z10, if_false, true_and]
      by_cases b : x2 = -1
      · subst b
        have z : ¬ (0 : Int32) ≤ -1 := by decide
        have z2 : (-1 : Int32) ≤ -1 := by decide
        simp only [and_self, if_true, z10, if_false, true_and, w_X7_piece, t_isPiece hM hE, g, z2, e6, hv6, c6, m6, forall_eq, z, hG _ _ hI]
      · have b0 : 0 ≤ x2.toInt := by
          rw [fa_le] at a
          rw [fa_eq] at b
          have z : (-1 : Int32).toInt = -1 := by decide
          omega
        have b1 : (0 : Int32) ≤ x2 := by
          rw [fa_le]
          exact b0
        obtain ⟨k, hk, rfl, -⟩ := nI_inv b0
        by_cases f : nI (H (6 + p)) ≤ nI k
        · simp only [b, f, and_self, if_true, z10, if_false, true_and, w_X7_piece, t_isPiece hM hE, g, a, e6, hv6, c6, m6, forall_eq, b1, hG _ _ hI]
        · have f2 : k < H (6 + p) := by
            rw [nI_leI (by omega) (by omega)] at f
            omega
          have e1 : (10 : Int32) + 8 * nI p + nI k = nI (10 + 8 * p + k) := by rw [lit_8, lit_10, pk_mul, nI_add, nI_add]
          have hv1 : vp_in (nI (10 + 8 * p + k)) 57 := vp_in_nI (by omega) (by decide)
          have m1 : σ 59 (10 + 8 * p + k) = nI (H (10 + 8 * p + k)) := hM _ (by omega)
          have c1 : (nI (10 + 8 * p + k)).toNatClampNeg = 10 + 8 * p + k := nI_clamp (by omega)
          simp only [b, f, and_self, if_true, z10, if_false, true_and, t_stringOf hC hV hp f2]
          simp only [w_X7_piece, t_isPiece hM hE, g, a, and_self, if_true, z10, if_false, true_and, e6, hv6, c6, m6, forall_eq, b1, f, e1, hv1, c1, m1, hG _ _ hI]
    · simp only [a, and_self, if_true, z10, if_false, true_and, w_X7_piece, t_isPiece hM hE, g, hG _ _ hI]
  · simp only [g, and_self, if_true, z10, if_false, true_and, w_X7_piece, t_isPiece hM hE, hG _ _ hI]
end R2
