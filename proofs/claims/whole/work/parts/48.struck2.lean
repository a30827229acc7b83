/-! ===== struck and who ===== -/
def sdR (H : Nat → Nat) (f : Nat → Int32) (i p b : Nat) : Nat → Nat → Bool
  | 0, _ => true
  | r + 1, k => if f (i + k) = fov (H 0) (nI (H (10 + 8 * p + k)) - nI b + nI (H 2)) then sdR H f i p b r (k + 1) else false
def kdR (H : Nat → Nat) (f : Nat → Int32) (i p l : Nat) : Nat → Nat → Int32 → Int32
  | 0, _, s => s
  | r + 1, k, s => kdR H f i p l r (k + 1) (if sdR H f i p (bia H k l) (H (6 + p)) 0 then s ||| ((1 : Int32) <<< (nI k &&& 31)) else s)
section SU
variable {N : Nat} {σ : kS} {H : Nat → Nat} {f : Nat → Int32} {Q : Int32 → kS → Prop} {E : Int32 → kS → Prop} {G : Int32 → Int32 → kS → Prop}
theorem P_struck (hN : 5000 ≤ N) (hI : Inv σ) (x1 x2 x3 x4 : Int32) (hG : ∀ r τ, Inv τ → G r r τ) : w_X6_struck N σ x1 x2 x3 x4 (fun r1 τ => w_X7_struck N τ x1 x2 x3 x4 (fun r2 υ => G r1 r2 υ)) := by
  obtain ⟨H, ⟨hE, hC, hM, h4⟩, hR, hT, hTr, hIM, hA, hs⟩ := hI
  have hI : Inv σ := ⟨H, ⟨hE, hC, hM, h4⟩, hR, hT, hTr, hIM, hA, hs⟩
  simp only [w_X6_struck, t_isTold hC hE, t_isRow6, rngA (x := x4) (lo := 0) (hi := 1) 0 1 rfl rfl, rngB (x := x3) (lo := 1) (hi := 12) 1 12 rfl rfl]
  by_cases h : 0 < H 0
  · have hV := hE.v0 h
    have t4 : σ 55 4 = 1 := by
      rw [h4, if_neg (by omega)]
      rfl
    have q4 : ∀ v, ¬ st2 σ 0 8 v 55 4 = 0 := fun v => by
      rw [st_ne (by omega), t4]
      decide
    have q5 : ¬ σ 55 4 = 0 := by
      rw [t4]
      decide
    by_cases a : 0 ≤ x1.toInt ∧ x1.toInt < 8
    · by_cases b : 1 ≤ x3.toInt ∧ x3.toInt ≤ 12
      · by_cases d : 0 ≤ x4.toInt ∧ x4.toInt ≤ 1
        · obtain ⟨r, hr, rfl⟩ := arg_in8 a
          obtain ⟨m, m1, m2, rfl⟩ := arg_in2 (a := 1) (b := 12) b
          have hv : vp_in (nI r) 8 := vp_in_nI hr (by decide)
          have cr : (nI r).toNatClampNeg = r := nI_clamp (by omega)
          have em : (2 : Int32) * nI m = nI (2 * m) := by rw [lit_2, pk_mul]
          have e2 : (nI (2 * m)).toInt = 2 * m := by
            rw [nI_toInt (by omega)]
            omega
          simp only [h, a, b, d, and_self, if_true, z10, if_false, true_and, hv, cr, t_miss, em]
          rcases hR r hr with ⟨o1, o2⟩ | ⟨l, n, h1, h2, h3, h4', h5, h6, h7⟩
          · have e57 : st2 σ 0 8 1 57 r = -1 := by rw [st_ne (by omega), o2]
            simp only [o1, and_self, if_true, z10, if_false, true_and, t_found, w_X7_struck, q4, t_isRow7, a, t_in32 1 12 (show (1 : Int64).toInt = 1 by decide) (show (12 : Int64).toInt = 12 by decide), b, t_in32 0 1 (show (0 : Int64).toInt = 0 by decide) (show (1 : Int64).toInt = 1 by decide), d, t_lacks1 hr e57, l11]
            exact hG _ _ (Inv_stat hI 1)
          · simp only [h3, nIm1 (show l < 2 ^ 31 by omega), and_self, if_true, z10, if_false, true_and, t_places h5 h2, e2]
            by_cases g : 0 ≤ x2.toInt ∧ x2.toInt + 2 * m ≤ n
            · have g' : 0 ≤ x2.toInt ∧ (0 : Int) ≤ 2 * m ∧ x2.toInt + 2 * m ≤ n := by omega
              obtain ⟨i, i1, rfl, i2⟩ := nI_inv g.1
              have hi : i + 2 * m ≤ 40 := by omega
              have w1 : ∀ Q, w_X2_shiftsBy N σ (2 + 2 * r + 1) (nI i) (nI m) x4 Q = _ := fun Q => l_shiftsBy (N := N) (Q := Q) (c := 2 + 2 * r + 1) (f := fun j => σ (2 + 2 * r + 1) j) hN hC.1 hV.1 (fun j hj => rfl) hi (H 0) N 0 0 (by omega) (by have := hV.1; omega)
              simp only [g', and_self, if_true, z10, if_false, true_and, w1, t_fine]
              have e57 : st2 σ 0 8 0 57 r = nI n := by rw [st_ne (by omega), h6]
              have w2 := fun Q E => l_struck68 (N := N) (Q := Q) (E := E) (σ := st2 σ 0 8 0) (a := r) (t := x4) (K := H 0) (f := fun j => σ (2 + 2 * r + 1) j) hN hr (by rw [st_ne (by omega), hM 0 (by omega)]) hV.1 (fun j hj => by rw [st_ne (by omega)]; exact (h7 j hj).symm) hi (H 0) N 0 0 (by omega) (by have := hV.1; omega)
              have g2 : 0 ≤ (nI i).toInt ∧ (nI i).toInt + (2 * m : Nat) ≤ n := by omega
              simp only [w_X7_struck, q4, t_isRow7, a, t_in32 1 12 (show (1 : Int64).toInt = 1 by decide) (show (12 : Int64).toInt = 12 by decide), b, t_in32 0 1 (show (0 : Int64).toInt = 0 by decide) (show (1 : Int64).toInt = 1 by decide), d, em, t_lacks hr e57 h2 (show 2 * m ≤ 40 by omega), g2, and_self, if_true, z10, if_false, true_and, l10]
              refine Eq.mpr (w2 _ _) ?_
              rw [t_well]
              exact hG _ _ (Inv_stat hI 0)
            · have g' : ¬ (0 ≤ x2.toInt ∧ (0 : Int) ≤ 2 * m ∧ x2.toInt + 2 * m ≤ n) := by omega
              have g2 : ¬ (0 ≤ x2.toInt ∧ x2.toInt + (2 * m : Nat) ≤ n) := by omega
              have e57 : st2 σ 0 8 2 57 r = nI n := by rw [st_ne (by omega), h6]
              simp only [g', and_self, if_true, z10, if_false, true_and, t_found, w_X7_struck, q4, t_isRow7, a, t_in32 1 12 (show (1 : Int64).toInt = 1 by decide) (show (12 : Int64).toInt = 12 by decide), b, t_in32 0 1 (show (0 : Int64).toInt = 0 by decide) (show (1 : Int64).toInt = 1 by decide), d, em, t_lacks hr e57 h2 (show 2 * m ≤ 40 by omega), g2, l12]
              exact hG _ _ (Inv_stat hI 2)
        · simp only [h, a, b, d, and_self, if_true, z10, if_false, true_and, w_X7_struck, q5, t_isRow7, t_in32 1 12 (show (1 : Int64).toInt = 1 by decide) (show (12 : Int64).toInt = 12 by decide), t_in32 0 1 (show (0 : Int64).toInt = 0 by decide) (show (1 : Int64).toInt = 1 by decide), hG _ _ hI]
      · simp only [h, a, b, and_self, if_true, z10, if_false, true_and, w_X7_struck, q5, t_isRow7, t_in32 1 12 (show (1 : Int64).toInt = 1 by decide) (show (12 : Int64).toInt = 12 by decide), hG _ _ hI]
    · simp only [h, a, and_self, if_true, z10, if_false, true_and, w_X7_struck, q5, t_isRow7, hG _ _ hI]
  · have q4 : σ 55 4 = 0 := by
      rw [h4, if_pos (by omega)]
      rfl
    simp only [h, and_self, if_true, z10, if_false, true_and, w_X7_struck, q4, hG _ _ hI]
theorem l_sounds {c i p b : Nat} (hC : CH σ 33 H) (hV : HV H) (hp : p < H 3) (hf : ∀ j, j < 40 → σ c j = f j) (hi : i + H (6 + p) ≤ 40) : ∀ (r n k : Nat), k + r = H (6 + p) → r < n → l_X2_soundsAs_3 N Q c (nI b) (nI p) (nI i) n (nI k) σ = Q (if sdR H f i p b r k then 1 else 0) σ := by
  have h0 := hV.1
  have h3 := hV.2.2.2.1
  have hv4 : vp_in (nI p) 4 := vp_in_nI (by omega) (by decide)
  have cp : (nI p).toNatClampNeg = p := nI_clamp (by omega)
  have h34 := hC.2.2.2.2.2.2.1 p hp
  intro r
  induction r with
  | zero =>
    intro n k hk hn
    obtain ⟨n, rfl⟩ : ∃ j, n = j + 1 := ⟨n - 1, by omega⟩
    show b_X2_soundsAs_3 N Q c (nI b) (nI p) (nI i) _ (nI k) σ = _
    unfold b_X2_soundsAs_3
    simp only [hv4, cp, true_and, h34]
    rw [if_pos ((z_le (by omega) (by omega)).mpr (by omega))]
    rfl
  | succ r ih =>
    intro n k hk hn
    obtain ⟨n, rfl⟩ : ∃ j, n = j + 1 := ⟨n - 1, by omega⟩
    show b_X2_soundsAs_3 N Q c (nI b) (nI p) (nI i) _ (nI k) σ = _
    unfold b_X2_soundsAs_3
    have ei : nI i + nI k = nI (i + k) := by rw [nI_add]
    have ek : nI k + 1 = nI (k + 1) := by rw [lit_1, nI_add]
    have hv : vp_in (nI (i + k)) 40 := vp_in_nI (by omega) (by decide)
    have ci : (nI (i + k)).toNatClampNeg = i + k := nI_clamp (by omega)
    simp only [hv4, cp, true_and, h34]
    rw [if_neg (fun q => absurd ((z_le (by omega) (by omega)).mp q) (by omega))]
    simp only [ei, hv, ci, true_and, t_stringOf hC hV hp (show k < H (6 + p) by omega), w_X3_stringHeard, hC.2.2.1, t_around hC.1 (show 0 < H 0 by omega) (show H 0 < 2 ^ 31 by omega), hf _ (show i + k < 40 by omega), forall_eq, ek, ih n (k + 1) (show k + 1 + r = H (6 + p) by omega) (show r < n by omega)]
    show _ = Q (if (if f (i + k) = fov (H 0) (nI (H (10 + 8 * p + k)) - nI b + nI (H 2)) then sdR H f i p b r (k + 1) else false) then 1 else 0) σ
    by_cases d : f (i + k) = fov (H 0) (nI (H (10 + 8 * p + k)) - nI b + nI (H 2))
    · rw [if_pos d, if_pos d]
    · rw [if_neg d, if_neg d]
      rfl
theorem l_kinds {c i p q : Nat} (hN : 5000 ≤ N) (hC : CH σ 33 H) (hV : HV H) (hq : q < H 4) (hp : p < H 3) (hf : ∀ j, j < 40 → σ c j = f j) (hi : i + H (6 + p) ≤ 40) : ∀ (r n k : Nat) (s : Int32), k + r = 6 → 1 ≤ k → r < n → l_X2_kindsHeard_6 N Q c (nI q) (nI p) (nI i) n s (nI k) σ = Q (kdR H f i p (H (47 + q)) r k s) σ := by
  have h8 := (hV.2.2.2.2.2.2.1 p hp).2
  have h5 := hV.2.2.2.2.1
  have h7 := (hV.2.2.2.2.2.2.2.2 q hq).2.1
  have hv5 : vp_in (nI q) 5 := vp_in_nI (by omega) (by decide)
  have cq : (nI q).toNatClampNeg = q := nI_clamp (by omega)
  have d7 : σ 37 q = nI (H (47 + q)) := (hC.2.2.2.2.2.2.2.2 q hq).2.1
  intro r
  induction r with
  | zero =>
    intro n k s hk hk1 hn
    obtain ⟨n, rfl⟩ : ∃ j, n = j + 1 := ⟨n - 1, by omega⟩
    show b_X2_kindsHeard_6 N Q c (nI q) (nI p) (nI i) _ s (nI k) σ = _
    unfold b_X2_kindsHeard_6
    rw [if_pos (by rw [lit_5, z_lt (by omega) (by omega)]; omega)]
    rfl
  | succ r ih =>
    intro n k s hk hk1 hn
    obtain ⟨n, rfl⟩ : ∃ j, n = j + 1 := ⟨n - 1, by omega⟩
    show b_X2_kindsHeard_6 N Q c (nI q) (nI p) (nI i) _ s (nI k) σ = _
    unfold b_X2_kindsHeard_6
    rw [if_neg (by rw [lit_5, z_lt (by omega) (by omega)]; omega)]
    have ek : nI k + 1 = nI (k + 1) := by rw [lit_1, nI_add]
    have w : ∀ Q, w_X2_soundsAs N σ (nI (bia H k (H (47 + q)))) (nI p) c (nI i) Q = _ := fun Q => l_sounds (N := N) (Q := Q) hC hV hp hf hi (H (6 + p)) N 0 (by omega) (by omega)
    simp only [hv5, cq, d7, true_and, t_biasAs hC hV (show 1 ≤ k ∧ k ≤ 5 by omega) h7, w, forall_eq, ek, ih n (k + 1) _ (show k + 1 + r = 6 by omega) (show 1 ≤ k + 1 by omega) (show r < n by omega)]
    show _ = Q (kdR H f i p (H (47 + q)) r (k + 1) (if sdR H f i p (bia H k (H (47 + q))) (H (6 + p)) 0 then s ||| ((1 : Int32) <<< (nI k &&& 31)) else s)) σ
    cases sdR H f i p (bia H k (H (47 + q))) (H (6 + p)) 0 <;> simp
theorem l_who0 {x1 x6 x7 x8 : Int32} {a i p : Nat} (hM : MH σ H) (hV : HV H) (hp : p < H 3) : ∀ (r n k : Nat), k + r = H (6 + p) → r < n → l_X7_who_87 N Q x1 (nI p) (nI a) (nI i) x6 x7 x8 E n 0 (nI k) σ = E 0 σ := by
  have h8 := (hV.2.2.2.2.2.2.1 p hp).2
  have h3 := hV.2.2.2.1
  have e6 : (6 : Int32) + nI p = nI (6 + p) := nI_add 6 p
  have hv6 : vp_in (nI (6 + p)) 57 := vp_in_nI (by omega) (by decide)
  have m6 : σ 59 (6 + p) = nI (H (6 + p)) := hM _ (by omega)
  have c6 : (nI (6 + p)).toNatClampNeg = 6 + p := nI_clamp (by omega)
  intro r
  induction r with
  | zero =>
    intro n k hk hn
    obtain ⟨n, rfl⟩ : ∃ j, n = j + 1 := ⟨n - 1, by omega⟩
    show b_X7_who_87 N Q x1 (nI p) (nI a) (nI i) x6 x7 x8 E _ 0 (nI k) σ = _
    unfold b_X7_who_87
    simp only [e6, hv6, c6, m6, true_and]
    rw [if_pos ((z_le (by omega) (by omega)).mpr (by omega))]
  | succ r ih =>
    intro n k hk hn
    obtain ⟨n, rfl⟩ : ∃ j, n = j + 1 := ⟨n - 1, by omega⟩
    show b_X7_who_87 N Q x1 (nI p) (nI a) (nI i) x6 x7 x8 E _ 0 (nI k) σ = _
    unfold b_X7_who_87
    have ek : nI k + 1 = nI (k + 1) := by rw [lit_1, nI_add]
    simp only [e6, hv6, c6, m6, true_and]
    rw [if_neg (fun q => absurd ((z_le (by omega) (by omega)).mp q) (by omega)), if_pos trivial]
    simp only [forall_eq, ek]
    exact ih n (k + 1) (by omega) (by omega)
theorem l_who1 {x1 x6 x7 : Int32} {a i p b : Nat} (hM : MH σ H) (hV : HV H) (hp : p < H 3) (ha : a < 8) (hf : ∀ j, j < 40 → σ 58 (40 * a + j) = f j) (hi : i + H (6 + p) ≤ 40) : ∀ (r n k : Nat), k + r = H (6 + p) → r < n → l_X7_who_87 N Q x1 (nI p) (nI a) (nI i) x6 x7 (nI b) E n 1 (nI k) σ = E (if sdR H f i p b r k then 1 else 0) σ := by
  have h0 := hV.1
  have h8 := (hV.2.2.2.2.2.2.1 p hp).2
  have h3 := hV.2.2.2.1
  have e6 : (6 : Int32) + nI p = nI (6 + p) := nI_add 6 p
  have hv6 : vp_in (nI (6 + p)) 57 := vp_in_nI (by omega) (by decide)
  have m6 : σ 59 (6 + p) = nI (H (6 + p)) := hM _ (by omega)
  have c6 : (nI (6 + p)).toNatClampNeg = 6 + p := nI_clamp (by omega)
  intro r
  induction r with
  | zero =>
    intro n k hk hn
    obtain ⟨n, rfl⟩ : ∃ j, n = j + 1 := ⟨n - 1, by omega⟩
    show b_X7_who_87 N Q x1 (nI p) (nI a) (nI i) x6 x7 (nI b) E _ 1 (nI k) σ = _
    unfold b_X7_who_87
    simp only [e6, hv6, c6, m6, true_and]
    rw [if_pos ((z_le (by omega) (by omega)).mpr (by omega))]
    rfl
  | succ r ih =>
    intro n k hk hn
    obtain ⟨n, rfl⟩ : ∃ j, n = j + 1 := ⟨n - 1, by omega⟩
    show b_X7_who_87 N Q x1 (nI p) (nI a) (nI i) x6 x7 (nI b) E _ 1 (nI k) σ = _
    unfold b_X7_who_87
    have ek : nI k + 1 = nI (k + 1) := by rw [lit_1, nI_add]
    have e0 : 40 * nI a + nI i + nI k = nI (40 * a + (i + k)) := by rw [lit_40, pk_mul, nI_add, nI_add, Nat.add_assoc]
    have hv0 : vp_in (nI (40 * a + (i + k))) 320 := vp_in_nI (by omega) (by decide)
    have c0 : (nI (40 * a + (i + k))).toNatClampNeg = 40 * a + (i + k) := nI_clamp (by omega)
    have e1 : (10 : Int32) + 8 * nI p + nI k = nI (10 + 8 * p + k) := by rw [lit_8, lit_10, pk_mul, nI_add, nI_add]
    have hv1 : vp_in (nI (10 + 8 * p + k)) 57 := vp_in_nI (by omega) (by decide)
    have m1 : σ 59 (10 + 8 * p + k) = nI (H (10 + 8 * p + k)) := hM _ (by omega)
    have c1 : (nI (10 + 8 * p + k)).toNatClampNeg = 10 + 8 * p + k := nI_clamp (by omega)
    simp only [e6, hv6, c6, m6, true_and]
    rw [if_neg (fun q => absurd ((z_le (by omega) (by omega)).mp q) (by omega))]
    simp only [and_self, if_true, z10, if_false, true_and, e0, hv0, c0, w_X7_heardBy, e1, hv1, m1, c1, cl0, vq0, cl1, vq1, cl2, vq2, cl3, vq3, cl4, vq4, cl5, vq5, hM 2 (by omega), t_over (hM 0 (by omega)) (show 0 < H 0 by omega) (show H 0 < 2 ^ 31 by omega), hf _ (show i + k < 40 by omega), forall_eq, ek, ih n (k + 1) (show k + 1 + r = H (6 + p) by omega) (show r < n by omega), l_who0 (N := N) (Q := Q) (E := E) (x1 := x1) (x6 := x6) (x7 := x7) (x8 := nI b) (a := a) (i := i) hM hV hp r n (k + 1) (show k + 1 + r = H (6 + p) by omega) (show r < n by omega)]
    show _ = E (if (if f (i + k) = fov (H 0) (nI (H (10 + 8 * p + k)) - nI b + nI (H 2)) then sdR H f i p b r (k + 1) else false) then 1 else 0) σ
    by_cases d : f (i + k) = fov (H 0) (nI (H (10 + 8 * p + k)) - nI b + nI (H 2))
    · rw [if_pos d, if_pos d]
    · rw [if_neg d, if_neg d]
      rfl
theorem l_who58 {a i p q : Nat} (hN : 5000 ≤ N) (hM : MH σ H) (hV : HV H) (hq : q < H 4) (hp : p < H 3) (ha : a < 8) (hf : ∀ j, j < 40 → σ 58 (40 * a + j) = f j) (hi : i + H (6 + p) ≤ 40) : ∀ (r n k : Nat) (s : Int32), k + r = 6 → 1 ≤ k → r < n → l_X7_who_58 N Q (nI q) (nI p) (nI a) (nI i) E n s (nI k) σ = E (kdR H f i p (H (47 + q)) r k s) σ := by
  have h8 := (hV.2.2.2.2.2.2.1 p hp).2
  have h5 := hV.2.2.2.2.1
  have h7 := (hV.2.2.2.2.2.2.2.2 q hq).2.1
  have e47 : (47 : Int32) + nI q = nI (47 + q) := by rw [lit_47, nI_add]
  have hv47 : vp_in (nI (47 + q)) 57 := vp_in_nI (by omega) (by decide)
  have c47 : (nI (47 + q)).toNatClampNeg = 47 + q := nI_clamp (by omega)
  have m7 : σ 59 (47 + q) = nI (H (47 + q)) := hM _ (by omega)
  intro r
  induction r with
  | zero =>
    intro n k s hk hk1 hn
    obtain ⟨n, rfl⟩ : ∃ j, n = j + 1 := ⟨n - 1, by omega⟩
    show b_X7_who_58 N Q (nI q) (nI p) (nI a) (nI i) E _ s (nI k) σ = _
    unfold b_X7_who_58
    rw [if_pos (by rw [lit_5, z_lt (by omega) (by omega)]; omega)]
    rfl
  | succ r ih =>
    intro n k s hk hk1 hn
    obtain ⟨n, rfl⟩ : ∃ j, n = j + 1 := ⟨n - 1, by omega⟩
    show b_X7_who_58 N Q (nI q) (nI p) (nI a) (nI i) E _ s (nI k) σ = _
    unfold b_X7_who_58
    rw [if_neg (by rw [lit_5, z_lt (by omega) (by omega)]; omega)]
    have ek : nI k + 1 = nI (k + 1) := by rw [lit_1, nI_add]
    simp only [e47, hv47, c47, m7, true_and, t_biasBy hM hV (show 1 ≤ k ∧ k ≤ 5 by omega) h7]
    refine (l_who1 (N := N) (Q := Q) (x1 := nI q) (x6 := s) (x7 := nI k) hM hV hp ha hf hi (H (6 + p)) N 0 (by omega) (by omega)).trans ?_
    simp only [forall_eq, ek, or_0, ih n (k + 1) _ (show k + 1 + r = 6 by omega) (show 1 ≤ k + 1 by omega) (show r < n by omega)]
    show _ = E (kdR H f i p (H (47 + q)) r (k + 1) (if sdR H f i p (bia H k (H (47 + q))) (H (6 + p)) 0 then s ||| ((1 : Int32) <<< (nI k &&& 31)) else s)) σ
    cases sdR H f i p (bia H k (H (47 + q))) (H (6 + p)) 0 <;> simp
theorem P_who (hN : 5000 ≤ N) (hI : Inv σ) (x1 x2 x3 x4 : Int32) (hG : ∀ r τ, Inv τ → G r r τ) : w_X6_who N σ x1 x2 x3 x4 (fun r1 τ => w_X7_who N τ x1 x2 x3 x4 (fun r2 υ => G r1 r2 υ)) := by
  obtain ⟨H, ⟨hE, hC, hM, h4⟩, hR, hT, hTr, hIM, hA, hs⟩ := hI
  have hI : Inv σ := ⟨H, ⟨hE, hC, hM, h4⟩, hR, hT, hTr, hIM, hA, hs⟩
  simp only [w_X6_who, t_hasPupil hC hE, t_hasPiece hC hE, t_isRow6]
  by_cases a : 0 ≤ x1.toInt ∧ x1.toInt < H 4
  · by_cases b : 0 ≤ x2.toInt ∧ x2.toInt < H 3
    · by_cases d : 0 ≤ x3.toInt ∧ x3.toInt < 8
      · obtain ⟨q, hq, rfl⟩ := arg_in a
        obtain ⟨p, hp, rfl⟩ := arg_in b
        obtain ⟨r, hr, rfl⟩ := arg_in8 d
        have hV := hE.v4 hq
        have h0 := hV.1
        have h3' := hV.2.2.2.1
        have h8 := hV.2.2.2.2.2.2.1 p hp
        have hv : vp_in (nI r) 8 := vp_in_nI hr (by decide)
        have cr : (nI r).toNatClampNeg = r := nI_clamp (by omega)
        have hv4 : vp_in (nI p) 4 := vp_in_nI (by omega) (by decide)
        have cp : (nI p).toNatClampNeg = p := nI_clamp (by omega)
        have e6 : (6 : Int32) + nI p = nI (6 + p) := nI_add 6 p
        have hv6 : vp_in (nI (6 + p)) 57 := vp_in_nI (by omega) (by decide)
        have c6 : (nI (6 + p)).toNatClampNeg = 6 + p := nI_clamp (by omega)
        have e2 : (nI (H (6 + p))).toInt = H (6 + p) := nI_toInt (by omega)
        have hMf : ∀ v, MH (st2 σ 0 8 v) H := fun v i hi => by rw [st_ne (by omega), hM i hi]
        simp only [a, b, d, and_self, if_true, z10, if_false, true_and, hv, cr, t_miss, hv4, cp, hC.2.2.2.2.2.2.1 p hp]
        rcases hR r hr with ⟨o1, o2⟩ | ⟨l, n, h1, h2, h3, h4', h5, h6, h7⟩
        · have e57 : st2 σ 0 8 1 57 r = -1 := by rw [st_ne (by omega), o2]
          simp only [o1, and_self, if_true, z10, if_false, true_and, t_found, w_X7_who, t_isPupil (hMf _) hE, t_isPiece (hMf _) hE, t_isRow7, a, b, d, e6, hv6, c6, t_lacks1 hr e57, l11]
          exact hG _ _ (Inv_stat hI 1)
        · simp only [h3, nIm1 (show l < 2 ^ 31 by omega), and_self, if_true, z10, if_false, true_and, t_places h5 h2, e2]
          by_cases g : 0 ≤ x4.toInt ∧ x4.toInt + H (6 + p) ≤ n
          · have g' : 0 ≤ x4.toInt ∧ (0 : Int) ≤ H (6 + p) ∧ x4.toInt + H (6 + p) ≤ n := by omega
            obtain ⟨i, i1, rfl, i2⟩ := nI_inv g.1
            have hi : i + H (6 + p) ≤ 40 := by omega
            have w1 : ∀ Q, w_X2_kindsHeard N σ (nI q) (nI p) (2 + 2 * r + 1) (nI i) Q = _ := fun Q => l_kinds (N := N) (Q := Q) (c := 2 + 2 * r + 1) (f := fun j => σ (2 + 2 * r + 1) j) hN hC hV hq hp (fun j hj => rfl) hi 5 N 1 0 (by omega) (by omega) (by omega)
            simp only [g', and_self, if_true, z10, if_false, true_and, w1, t_fine]
            have e57 : st2 σ 0 8 0 57 r = nI n := by rw [st_ne (by omega), h6]
            have w2 := fun Q E => l_who58 (N := N) (Q := Q) (E := E) (σ := st2 σ 0 8 0) (a := r) (f := fun j => σ (2 + 2 * r + 1) j) hN (hMf 0) hV hq hp hr (fun j hj => by rw [st_ne (by omega)]; exact (h7 j hj).symm) hi 5 N 1 0 (by omega) (by omega) (by omega)
            simp only [w_X7_who, t_isPupil (hMf _) hE, t_isPiece (hMf _) hE, t_isRow7, a, b, d, e6, hv6, c6, hMf _ (6 + p) (show 6 + p < 57 by omega), t_lacks hr e57 h2 (show H (6 + p) ≤ 40 by omega), g, and_self, if_true, z10, if_false, true_and, l10]
            refine Eq.mpr (w2 _ _) ?_
            rw [t_well]
            exact hG _ _ (Inv_stat hI 0)
          · have g' : ¬ (0 ≤ x4.toInt ∧ (0 : Int) ≤ H (6 + p) ∧ x4.toInt + H (6 + p) ≤ n) := by omega
            have e57 : st2 σ 0 8 2 57 r = nI n := by rw [st_ne (by omega), h6]
            simp only [g', and_self, if_true, z10, if_false, true_and, t_found, w_X7_who, t_isPupil (hMf _) hE, t_isPiece (hMf _) hE, t_isRow7, a, b, d, e6, hv6, c6, hMf _ (6 + p) (show 6 + p < 57 by omega), t_lacks hr e57 h2 (show H (6 + p) ≤ 40 by omega), g, l12]
            exact hG _ _ (Inv_stat hI 2)
      · simp only [a, b, d, and_self, if_true, z10, if_false, true_and, w_X7_who, t_isPupil hM hE, t_isPiece hM hE, t_isRow7, hG _ _ hI]
    · simp only [a, b, and_self, if_true, z10, if_false, true_and, w_X7_who, t_isPupil hM hE, t_isPiece hM hE, hG _ _ hI]
  · simp only [a, and_self, if_true, z10, if_false, true_and, w_X7_who, t_isPupil hM hE, hG _ _ hI]
end SU
