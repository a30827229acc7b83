section LS
variable {N : Nat} {σ τ : kS} {H : Nat → Nat} {Q : Int32 → kS → Prop} {E : Int32 → kS → Prop} {Es : kS → Prop} {G : Int32 → Int32 → kS → Prop}
theorem t_bitCount {x : Int32} : w_J6_bitCount_0f7a4 N σ x Q = Q (bcF x) σ := by
  unfold w_J6_bitCount_0f7a4
  simp only [forall_eq]
  rfl
theorem t_hasB {m k : Nat} (hm : m < 2 ^ 31) (hk : k < 31) : w_X7_has N σ (nI m) (nI k) Q = Q (if m.testBit k then 1 else 0) σ := by
  unfold w_X7_has
  rw [bit_atB hm hk]
  cases m.testBit k
  · rw [if_neg (by decide)]
    rfl
  · rw [if_pos (by decide)]
    rfl
theorem lsB_lt (hV : HV H) (s p : Nat) : lsB H s p < H 0 := bia_lt hV _ _
theorem l_les31 {x1 x3 : Int32} {s k : Nat} (hM : MH σ H) (hV : HV H) (hs : s < 32) (hk : k < 24) : ∀ (r n p : Nat) (b : Bool), p + r = H 4 → r < n → l_X7_isLesson_31 N Q x1 (nI s) x3 (nI k) E n (if b then 1 else 0) (nI p) σ = E (if (b || anL H s k r p) then 1 else 0) σ := by
  have h0 := hV.1
  have h2 := hV.2.2.1
  have h5 := hV.2.2.2.2.1
  intro r
  induction r with
  | zero =>
    intro n p b hp hn
    obtain ⟨n, rfl⟩ : ∃ j, n = j + 1 := ⟨n - 1, by omega⟩
    show b_X7_isLesson_31 N Q x1 (nI s) x3 (nI k) E _ _ (nI p) σ = _
    unfold b_X7_isLesson_31
    simp only [cl0, vq0, cl1, vq1, cl2, vq2, cl3, vq3, cl4, vq4, cl5, vq5, true_and, hM 4 (show 4 < 57 by omega)]
    rw [if_pos ((z_le (by omega) (by omega)).mpr (by omega))]
    show _ = E (if (b || false) then 1 else 0) σ
    rw [Bool.or_false]
  | succ r ih =>
    intro n p b hp hn
    obtain ⟨n, rfl⟩ : ∃ j, n = j + 1 := ⟨n - 1, by omega⟩
    show b_X7_isLesson_31 N Q x1 (nI s) x3 (nI k) E _ _ (nI p) σ = _
    unfold b_X7_isLesson_31
    have ep : nI p + 1 = nI (p + 1) := by rw [lit_1, nI_add]
    have e42 : (42 : Int32) + nI p = nI (42 + p) := nI_add 42 p
    have e47 : (47 : Int32) + nI p = nI (47 + p) := nI_add 47 p
    have v42 : vp_in (nI (42 + p)) 57 := vp_in_nI (by omega) (by decide)
    have v47 : vp_in (nI (47 + p)) 57 := vp_in_nI (by omega) (by decide)
    have c42 : (nI (42 + p)).toNatClampNeg = 42 + p := nI_clamp (by omega)
    have c47 : (nI (47 + p)).toNatClampNeg = 47 + p := nI_clamp (by omega)
    have m42 := hM (42 + p) (by omega)
    have m47 := hM (47 + p) (by omega)
    obtain ⟨k1, k2, -⟩ := hV.2.2.2.2.2.2.2.2 p (by omega)
    have sl := sft_lt hV k
    have j70 : ∀ l, l < H 0 → bia H (H (42 + p)) l = lsB H s p → j_X7_isLesson_70 N Q x1 (nI s) x3 (nI k) (if b then 1 else 0) (nI p) (nI l) (l_X7_isLesson_31 N Q x1 (nI s) x3 (nI k) E n) σ = E (if (b || anL H s k (r + 1) p) then 1 else 0) σ := by
      intro l hl e
      have bl := lsB_lt hV s p
      unfold j_X7_isLesson_70
      simp only [e42, v42, c42, m42, true_and, t_biasBy hM hV k1 hl, e, t_shiftIn hM hV (show k < 10000 by omega), forall_eq, ep, z_eq (show lsB H s p < 2 ^ 31 by omega) (show sft H k < 2 ^ 31 by omega)]
      have i1 := ih n (p + 1) true (by omega) (by omega)
      have i0 := ih n (p + 1) false (by omega) (by omega)
      simp only [Bool.false_eq_true, if_true, if_false, Bool.true_or, Bool.false_or] at i1 i0
      rw [i1, i0]
      show _ = E (if (b || (decide (lsB H s p = sft H k) || anL H s k r (p + 1))) then 1 else 0) σ
      cases b
      · by_cases f : lsB H s p = sft H k
        · simp [f]
        · simp [f]
      · simp
    simp only [cl0, vq0, cl1, vq1, cl2, vq2, cl3, vq3, cl4, vq4, cl5, vq5, true_and, hM 4 (show 4 < 57 by omega)]
    rw [if_neg (fun q => absurd ((z_le (by omega) (by omega)).mp q) (by omega)), t_hasB (by omega) (by omega)]
    simp only [e47, v47, c47, m47, cl0, vq0, cl1, vq1, cl2, vq2, cl3, vq3, cl4, vq4, cl5, vq5, true_and, hM 2 (show 2 < 57 by omega)]
    cases f : s.testBit p
    · simp only [Bool.false_eq_true, if_false, if_true]
      exact j70 _ k2 (by unfold lsB; rw [f]; rfl)
    · simp only [if_true, z10, if_false]
      exact j70 _ h2 (by unfold lsB; rw [f]; rfl)
theorem l_les5 {A s : Nat} (hN : 5000 ≤ N) (hM : MH σ H) (hV : HV H) (hA : A < 2 ^ 24) (hs : s < 32) : ∀ (r n k : Nat) (b : Bool), k + r = 24 → r < n → l_X7_isLesson_5 N Q (nI A) (nI s) n (if b then 1 else 0) (nI k) σ = Q (if (b && alL H A s r k) then 1 else 0) σ := by
  have h5 := hV.2.2.2.2.1
  intro r
  induction r with
  | zero =>
    intro n k b hk hn
    obtain ⟨n, rfl⟩ : ∃ j, n = j + 1 := ⟨n - 1, by omega⟩
    show b_X7_isLesson_5 N Q (nI A) (nI s) _ _ (nI k) σ = _
    unfold b_X7_isLesson_5
    rw [lit_24, if_pos ((z_le (by omega) (by omega)).mpr (by omega))]
    show _ = Q (if (b && true) then 1 else 0) σ
    cases b <;> simp
  | succ r ih =>
    intro n k b hk hn
    obtain ⟨n, rfl⟩ : ∃ j, n = j + 1 := ⟨n - 1, by omega⟩
    show b_X7_isLesson_5 N Q (nI A) (nI s) _ _ (nI k) σ = _
    unfold b_X7_isLesson_5
    have ek : nI k + 1 = nI (k + 1) := by rw [lit_1, nI_add]
    rw [lit_24, if_neg (fun q => absurd ((z_le (by omega) (by omega)).mp q) (by omega)), t_hasB (by omega) (by omega)]
    have i1 := ih n (k + 1) true (by omega) (by omega)
    have i0 := ih n (k + 1) false (by omega) (by omega)
    simp only [Bool.false_eq_true, if_true, if_false, Bool.true_and, Bool.false_and] at i1 i0
    have a1 := fun x3 E => l_les31 (N := N) (σ := σ) (Q := Q) (E := E) (x1 := nI A) (x3 := x3) hM hV hs (show k < 24 by omega) (H 4) N 0 true (by omega) (by omega)
    have a0 := fun x3 E => l_les31 (N := N) (σ := σ) (Q := Q) (E := E) (x1 := nI A) (x3 := x3) hM hV hs (show k < 24 by omega) (H 4) N 0 false (by omega) (by omega)
    simp only [Bool.false_eq_true, if_true, if_false, Bool.true_or, Bool.false_or] at a1 a0
    show _ = Q (if (b && ((!A.testBit k || anL H s k (H 4) 0) && alL H A s r (k + 1))) then 1 else 0) σ
    cases f : A.testBit k
    · simp only [Bool.false_eq_true, if_false, if_true]
      refine (a1 _ _).trans ?_
      simp only [forall_eq, ek]
      rw [i1, i0]
      cases b <;> simp [z10]
    · simp only [if_true, z10, if_false]
      refine (a0 _ _).trans ?_
      simp only [forall_eq, ek]
      rw [i1, i0]
      cases b <;> cases anL H s k (H 4) 0 <;> simp [z10]
theorem t_isLesson {A s : Nat} (hN : 5000 ≤ N) (hM : MH σ H) (hV : HV H) (hA : A < 2 ^ 24) (hs : s < 32) : w_X7_isLesson N σ (nI A) (nI s) Q = Q (if alL H A s 24 0 then 1 else 0) σ := by
  unfold w_X7_isLesson
  have := l_les5 (N := N) (σ := σ) (Q := Q) hN hM hV hA hs 24 N 0 true (by omega) (by omega)
  simp only [if_true, Bool.true_and] at this
  exact this
theorem l_les40 {x2 : Int32} {A : Nat} (hN : 5000 ≤ N) (hM : MH σ H) (hV : HV H) (hA : A < 2 ^ 24) : ∀ (r n s : Nat) (o : Option Nat), s + r = 2 ^ H 4 → r < n → smO o → l_X7_lessons_40 N Q (nI A) x2 E n (rcO o) (nI s) σ = E (rcO (bsR H A r s o)) σ := by
  have h5 := hV.2.2.2.2.1
  have p5 : 2 ^ H 4 ≤ 2 ^ 5 := Nat.pow_le_pow_right (by omega) h5
  have e0 : (1 : Int32) <<< (nI (H 4) &&& 31) = nI (2 ^ H 4) := shl1B (by omega)
  intro r
  induction r with
  | zero =>
    intro n s o hs hn ho
    obtain ⟨n, rfl⟩ : ∃ j, n = j + 1 := ⟨n - 1, by omega⟩
    show b_X7_lessons_40 N Q (nI A) x2 E _ (rcO o) (nI s) σ = _
    unfold b_X7_lessons_40
    simp only [cl0, vq0, cl1, vq1, cl2, vq2, cl3, vq3, cl4, vq4, cl5, vq5, true_and, hM 4 (show 4 < 57 by omega), e0]
    rw [if_pos ((z_le (by omega) (by omega)).mpr (by omega))]
    rfl
  | succ r ih =>
    intro n s o hs hn ho
    obtain ⟨n, rfl⟩ : ∃ j, n = j + 1 := ⟨n - 1, by omega⟩
    show b_X7_lessons_40 N Q (nI A) x2 E _ (rcO o) (nI s) σ = _
    unfold b_X7_lessons_40
    have es : nI s + 1 = nI (s + 1) := by rw [lit_1, nI_add]
    simp only [cl0, vq0, cl1, vq1, cl2, vq2, cl3, vq3, cl4, vq4, cl5, vq5, true_and, hM 4 (show 4 < 57 by omega), e0]
    rw [if_neg (fun q => absurd ((z_le (by omega) (by omega)).mp q) (by omega))]
    have st : ∀ o', smO o' → l_X7_lessons_40 N Q (nI A) x2 E n (rcO o') (nI (s + 1)) σ = E (rcO (bsR H A r (s + 1) o')) σ := fun o' h' => ih n (s + 1) o' (by omega) (by omega) h'
    have s1 : smO (some s) := fun b hb => by
      have := Option.some.inj hb
      omega
    have j69 : bet s o = true → j_X7_lessons_69 N Q (nI A) x2 (rcO o) (nI s) (l_X7_lessons_40 N Q (nI A) x2 E n) σ = E (rcO (bsR H A (r + 1) s o)) σ := by
      intro hb
      unfold j_X7_lessons_69
      rw [t_isLesson hN hM hV hA (by omega)]
      show _ = E (rcO (bsR H A r (s + 1) (if (alL H A s 24 0 && bet s o) = true then some s else o))) σ
      simp only [forall_eq, es]
      rw [hb, Bool.and_true]
      cases alL H A s 24 0
      · simp only [Bool.false_eq_true, if_false, if_true]
        exact st o ho
      · simp only [if_true, z10, if_false]
        exact st (some s) s1
    cases o with
    | none =>
      rw [if_pos (show rcO none < 0 by decide)]
      exact j69 rfl
    | some b =>
      have hb := ho b rfl
      have pb := popc_le b
      have ps := popc_le s
      rw [if_neg (show ¬ rcO (some b) < 0 from nI_pos (by omega))]
      show w_X7_ones N σ (nI s) (fun r_11 σ_10 => w_X7_ones N σ_10 (nI b) _) = _
      rw [t_ones hN (by omega), t_ones hN (by omega)]
      simp only [forall_eq, es, z_le (show popc b < 2 ^ 31 by omega) (show popc s < 2 ^ 31 by omega)]
      by_cases f : popc b ≤ popc s
      · rw [if_pos f]
        have bf : bet s (some b) = false := decide_eq_false (by omega)
        show _ = E (rcO (bsR H A r (s + 1) (if (alL H A s 24 0 && bet s (some b)) = true then some s else some b))) σ
        rw [bf, Bool.and_false]
        simp only [Bool.false_eq_true, if_false]
        exact st (some b) ho
      · rw [if_neg f]
        exact j69 (decide_eq_true (by omega))
/-! the class -/
theorem Sc.CH (h : Sc σ τ) {H : Nat → Nat} (hC : CH σ 33 H) : CH τ 33 H := CH_cong (fun d k h1 h2 => h d k (by unfold scr; omega)) hC
theorem Sc.MH (h : Sc σ τ) {H : Nat → Nat} (hM : MH σ H) : MH τ H := fun i hi => by rw [h 59 i (by unfold scr; omega), hM i hi]
theorem t_nights24 {a : Nat} (hN : 5000 ≤ N) (hC : CH σ 33 H) (hV : HV H) (ha : a < H 0) : w_X2_nightsAt N σ (nI a) 24 Q = Q (nI (nbF H a 24 0 0)) σ := by
  rw [lit_24, t_nightsAt hN hC hV ha (by omega), lit_0, nb_eq 24 0 0 (by omega)]
def taF (H : Nat → Nat) (q : Nat) : Nat := nbF H (bia H (H (42 + q)) (H 2)) 24 0 0
def unF (H : Nat → Nat) (q : Nat) : Nat := nbF H (bi H q) 24 0 0
theorem l_ft2 {x1 : Int32} (hN : 5000 ≤ N) (hC : CH σ 33 H) (hV : HV H) (kk : ∀ υ, Sc σ υ → (∀ q, q < H 4 → υ 50 q = nI (unF H q) ∧ υ 51 q = nI (taF H q)) → Es υ) : ∀ (r n k : Nat) (τ : kS), k + r = H 4 → r < n → Sc σ τ → (∀ q, q < k → τ 50 q = nI (unF H q) ∧ τ 51 q = nI (taF H q)) → l_X2_fewestTaught_2 N Q x1 Es n (nI k) τ := by
  have h0 := hV.1
  have h2 := hV.2.2.1
  have h5 := hV.2.2.2.2.1
  intro r
  induction r with
  | zero =>
    intro n k τ hk hn hS hF
    obtain ⟨n, rfl⟩ : ∃ j, n = j + 1 := ⟨n - 1, by omega⟩
    show b_X2_fewestTaught_2 N Q x1 Es _ (nI k) τ
    unfold b_X2_fewestTaught_2
    have hC' := hS.CH hC
    rw [hC'.2.2.2.2.1, if_pos ((z_le (by omega) (by omega)).mpr (by omega))]
    exact kk τ hS (fun q hq => hF q (by omega))
  | succ r ih =>
    intro n k τ hk hn hS hF
    obtain ⟨n, rfl⟩ : ∃ j, n = j + 1 := ⟨n - 1, by omega⟩
    show b_X2_fewestTaught_2 N Q x1 Es _ (nI k) τ
    unfold b_X2_fewestTaught_2
    have hC' := hS.CH hC
    have hk4 : k < H 4 := by omega
    obtain ⟨k1, k2, -⟩ := hV.2.2.2.2.2.2.2.2 k hk4
    have ek : nI k + 1 = nI (k + 1) := by rw [lit_1, nI_add]
    have vk : vp_in (nI k) 5 := vp_in_nI (by omega) (by decide)
    have ck : (nI k).toNatClampNeg = k := nI_clamp (by omega)
    have hS1 : Sc σ (st2 τ 50 k (nI (unF H k))) := hS.st (by unfold scr; omega)
    have hS2 : Sc σ (st2 (st2 τ 50 k (nI (unF H k))) 51 k (nI (taF H k))) := hS1.st (by unfold scr; omega)
    rw [hC'.2.2.2.2.1, if_neg (fun q => absurd ((z_le (by omega) (by omega)).mp q) (by omega))]
    have e1 : nI (nbF H (bi H k) 24 0 0) = nI (unF H k) := rfl
    have e2 : nI (nbF H (bia H (H (42 + k)) (H 2)) 24 0 0) = nI (taF H k) := rfl
    simp only [vk, ck, true_and, (hC'.2.2.2.2.2.2.2.2 k hk4).1, hC'.2.2.1, t_biasAs hC' hV k1 h2, t_biasOf hC' hV hk4, t_nights24 hN hC' hV (bi_lt hV k), forall_eq, e1, t_nights24 hN (hS1.CH hC) hV (bia_lt hV (H (42 + k)) (H 2)), e2, ek]
    refine ih n (k + 1) _ (by omega) (by omega) hS2 (fun q hq => ?_)
    rw [st2_app, st2_app, st2_app, st2_app]
    by_cases f : q = k
    · subst f
      simp
    · have := hF q (by omega)
      simp [f, this]
theorem l_nit {s : Nat} (hC : CH τ 33 H) (hV : HV H) (hs : s < 32) (hF : ∀ q, q < H 4 → τ 50 q = nI (unF H q) ∧ τ 51 q = nI (taF H q)) : ∀ (r n k m : Nat), k + r = H 4 → r < n → l_X2_nightsIfTaught_4 N Q (nI s) n (nI m) (nI k) τ = Q (nI (orL H s r k m)) τ := by
  have h5 := hV.2.2.2.2.1
  intro r
  induction r with
  | zero =>
    intro n k m hk hn
    obtain ⟨n, rfl⟩ : ∃ j, n = j + 1 := ⟨n - 1, by omega⟩
    show b_X2_nightsIfTaught_4 N Q (nI s) _ (nI m) (nI k) τ = _
    unfold b_X2_nightsIfTaught_4
    rw [hC.2.2.2.2.1, if_pos ((z_le (by omega) (by omega)).mpr (by omega))]
    rfl
  | succ r ih =>
    intro n k m hk hn
    obtain ⟨n, rfl⟩ : ∃ j, n = j + 1 := ⟨n - 1, by omega⟩
    show b_X2_nightsIfTaught_4 N Q (nI s) _ (nI m) (nI k) τ = _
    unfold b_X2_nightsIfTaught_4
    have ek : nI k + 1 = nI (k + 1) := by rw [lit_1, nI_add]
    have vk : vp_in (nI k) 5 := vp_in_nI (by omega) (by decide)
    have ck : (nI k).toNatClampNeg = k := nI_clamp (by omega)
    obtain ⟨f1, f2⟩ := hF k (by omega)
    rw [hC.2.2.2.2.1, if_neg (fun q => absurd ((z_le (by omega) (by omega)).mp q) (by omega))]
    simp only [bit_is (show s < 2 ^ 31 by omega) (show k < 31 by omega), j_X2_nightsIfTaught_29, vk, ck, true_and, f1, f2, fa_or, forall_eq, ek, z10, if_false, if_true]
    show _ = Q (nI (orL H s r (k + 1) (m ||| nbF H (lsB H s k) 24 0 0))) τ
    rw [← ih n (k + 1) _ (by omega) (by omega)]
    cases f : s.testBit k
    · simp only [Bool.false_eq_true, if_false]
      have : nbF H (lsB H s k) 24 0 0 = unF H k := by
        unfold lsB unF bi
        rw [f]
        rfl
      rw [this]
    · simp only [if_true]
      have : nbF H (lsB H s k) 24 0 0 = taF H k := by
        unfold lsB taF
        rw [f]
        rfl
      rw [this]
theorem l_ft92 {A : Nat} (hN : 5000 ≤ N) (hC : CH τ 33 H) (hV : HV H) (hA : A < 2 ^ 24) (hF : ∀ q, q < H 4 → τ 50 q = nI (unF H q) ∧ τ 51 q = nI (taF H q)) : ∀ (r n s : Nat) (o : Option Nat), s + r = 2 ^ H 4 → r < n → smO o → l_X2_fewestTaught_92 N Q (nI A) n (bcO o) (fcO (H 4) o) (nI s) τ = Q (bcO (bsR H A r s o)) τ := by
  have h5 := hV.2.2.2.2.1
  have p5 : 2 ^ H 4 ≤ 2 ^ 5 := Nat.pow_le_pow_right (by omega) h5
  have e0 : (1 : Int32) <<< (nI (H 4) &&& 31) = nI (2 ^ H 4) := shl1B (by omega)
  intro r
  induction r with
  | zero =>
    intro n s o hs hn ho
    obtain ⟨n, rfl⟩ : ∃ j, n = j + 1 := ⟨n - 1, by omega⟩
    show b_X2_fewestTaught_92 N Q (nI A) _ (bcO o) (fcO (H 4) o) (nI s) τ = _
    unfold b_X2_fewestTaught_92
    rw [hC.2.2.2.2.1, e0, if_pos ((z_le (by omega) (by omega)).mpr (by omega))]
    rfl
  | succ r ih =>
    intro n s o hs hn ho
    obtain ⟨n, rfl⟩ : ∃ j, n = j + 1 := ⟨n - 1, by omega⟩
    show b_X2_fewestTaught_92 N Q (nI A) _ (bcO o) (fcO (H 4) o) (nI s) τ = _
    unfold b_X2_fewestTaught_92
    have es : nI s + 1 = nI (s + 1) := by rw [lit_1, nI_add]
    rw [hC.2.2.2.2.1, e0, if_neg (fun q => absurd ((z_le (by omega) (by omega)).mp q) (by omega))]
    have nt : ∀ Q, w_X2_nightsIfTaught N τ (nI s) Q = Q (nI (orL H s (H 4) 0 0)) τ := fun Q => l_nit hC hV (by omega) hF (H 4) N 0 0 (by omega) (by omega)
    rw [nt]
    have ps := popc_le s
    have pk := popc_32 (H 4) (by omega) s (by omega)
    simp only [les_iff hA, j_X2_fewestTaught_124, t_bitCount, bcF_ok s (show s < 32 by omega), forall_eq, es, z10, if_true, if_false]
    have fc : (fcO (H 4) o ≤ nI (popc s)) ↔ bet s o = false := by
      cases o with
      | none =>
        show nI (H 4 + 1) ≤ nI (popc s) ↔ true = false
        rw [z_le (by omega) (by omega)]
        constructor
        · intro q; omega
        · intro q; exact absurd q (by decide)
      | some b =>
        have pb := popc_le b
        show nI (popc b) ≤ nI (popc s) ↔ decide (popc s < popc b) = false
        rw [z_le (by omega) (by omega), decide_eq_false_iff_not]
        omega
    have i1 := ih n (s + 1) o (by omega) (by omega) ho
    have i2 := ih n (s + 1) (some s) (by omega) (by omega) (fun b hb => by
      have := Option.some.inj hb
      omega)
    show _ = Q (bcO (bsR H A r (s + 1) (if (alL H A s 24 0 && bet s o) = true then some s else o))) τ
    simp only [fc]
    cases alL H A s 24 0
    · simp only [Bool.false_eq_true, if_false, Bool.false_and]
      exact i1
    · cases bet s o
      · simp only [if_true, Bool.and_false, Bool.false_eq_true, if_false]
        exact i1
      · simp only [if_true, Bool.and_true, Bool.true_eq_false, if_false]
        exact i2
theorem P_lessons (hN : 5000 ≤ N) (hI : Inv σ) (x1 x2 : Int32) (hG : ∀ r τ, Inv τ → G r r τ) : w_X6_lessons N σ x1 x2 (fun r1 τ => w_X7_lessons N τ x1 x2 (fun r2 υ => G r1 r2 υ)) := by
  obtain ⟨H, ⟨hE, hC, hM, h4⟩, -⟩ := id hI
  have iA := fun N σ x Q => t_in32 (N := N) (σ := σ) (x := x) (Q := Q) 0 16777215 (show (0 : Int64).toInt = 0 by decide) (show (16777215 : Int64).toInt = 16777215 by decide)
  have i1 := fun N σ x Q => t_in32 (N := N) (σ := σ) (x := x) (Q := Q) 0 1 (show (0 : Int64).toInt = 0 by decide) (show (1 : Int64).toInt = 1 by decide)
  simp only [w_X6_lessons, t_isTold hC hE, rngA (x := x2) (lo := 0) (hi := 1) 0 1 rfl rfl, rngB (x := x1) (lo := 0) (hi := 16777215) 0 16777215 rfl rfl]
  by_cases h : 0 < H 0
  · have hV := hE.v0 h
    have h5 := hV.2.2.2.2.1
    have p5 : 2 ^ H 4 ≤ 2 ^ 5 := Nat.pow_le_pow_right (by omega) h5
    have q5 := there1 h h4
    by_cases a : 0 ≤ x1.toInt ∧ x1.toInt ≤ 16777215
    · by_cases b : 0 ≤ x2.toInt ∧ x2.toInt ≤ 1
      · obtain ⟨A, -, A2, rfl⟩ := arg_in2 (a := 0) (b := 16777215) a
        simp only [h, a, b, and_self, if_true, z10, if_false, true_and]
        unfold w_X2_fewestTaught
        rw [lit_0]
        refine l_ft2 hN hC hV (fun υ hS hF => ?_) (H 4) N 0 σ (by omega) (by omega) Sc.rf (fun q hq => by omega)
        have hCu := hS.CH hC
        have hMu := hS.MH hM
        have hIu := hI.sc hS
        have u5 : ¬ υ 55 4 = 0 := by
          rw [hS 55 4 (by unfold scr; omega)]
          exact q5
        simp only [forall_eq, hCu.2.2.2.2.1]
        rw [show nI (H 4) + 1 = fcO (H 4) none from nI_add _ 1]
        rw [show (-1000000 : Int32) = bcO none from rfl]
        rw [l_ft92 hN hCu hV (by omega) hF (2 ^ H 4) N 0 none (by omega) (by omega) (fun b hb => by cases hb)]
        have sm := bsR_sm (H := H) (A := A) (2 ^ H 4) 0 none (by omega) (fun b hb => by cases hb)
        have rr : ∀ r, (if 0 ≤ rcO (bsR H A (2 ^ H 4) 0 none) then (if x2 = 0 then w_X7_ones N υ (rcO (bsR H A (2 ^ H 4) 0 none)) (fun r_18 σ_17 => G r r_18 σ_17) else G r (rcO (bsR H A (2 ^ H 4) 0 none)) υ) else G r (-1000000) υ) → w_X7_lessons N υ (nI A) x2 (fun r2 υ => G r r2 υ) := by
          intro r hr
          simp only [w_X7_lessons, u5, if_false, iA, i1, a, b, and_self, if_true, z10, if_false, true_and]
          rw [lit_0, show (-1 : Int32) = rcO none from rfl]
          refine Eq.mpr (l_les40 hN hMu hV (by omega) (2 ^ H 4) N 0 none (by omega) (by omega) (fun b hb => by cases hb)) ?_
          exact hr
        cases e : bsR H A (2 ^ H 4) 0 none with
        | none =>
          rw [e] at rr
          rw [if_pos rfl]
          refine rr _ ?_
          rw [if_neg (by decide)]
          exact hG _ _ hIu
        | some bb =>
          rw [e] at rr
          have hb := sm bb e
          have pb := popc_le bb
          have n1 : ¬ bcO (some bb) = bcO none := by
            show ¬ nI bb = (-1000000 : Int32)
            rw [fa_eq, nI_toInt (by omega)]
            have : (-1000000 : Int32).toInt = -1000000 := by decide
            omega
          have n2 : (0 : Int32) ≤ rcO (some bb) := nI_pos' (by omega)
          rw [if_neg n1]
          by_cases f : x2 = 0
          · subst f
            rw [lit_0] at rr ⊢
            rw [if_pos rfl, t_bitCount]
            show w_X7_lessons N υ (nI A) (nI 0) (fun r2 υ => G (bcF (nI bb)) r2 υ)
            rw [bcF_ok bb hb]
            refine rr _ ?_
            rw [if_pos (show nI 0 ≤ rcO (some bb) from n2), if_pos rfl]
            show w_X7_ones N υ (nI bb) _
            rw [t_ones hN (by omega)]
            exact hG _ _ hIu
          · rw [if_neg (show ¬ x2 = nI 0 from f)]
            refine rr _ ?_
            rw [if_pos n2, if_neg f]
            exact hG _ _ hIu
      · simp only [h, a, b, and_self, if_true, z10, if_false, true_and, w_X7_lessons, q5, iA, i1, hG _ _ hI]
    · simp only [h, a, and_self, if_true, z10, if_false, true_and, w_X7_lessons, q5, iA, hG _ _ hI]
  · simp only [h, if_false, if_true, w_X7_lessons, there0 h h4, hG _ _ hI]
end LS
