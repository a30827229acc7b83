/-! ===== programme: the reference ===== -/
theorem ag2.rf {σ : kS} : ag2 σ σ := fun _ _ _ => rfl
theorem ag2.tr {σ τ υ : kS} (h : ag2 σ τ) (g : ag2 τ υ) : ag2 σ υ := fun c k q => (g c k q).trans (h c k q)
theorem m1sub (m : Nat) : nI m + (-1) = nI m - 1 := by rw [Int32.sub_eq_add_neg]
theorem rngD {x : Int32} {A B : Prop} : (if x < -1 then A else if x < 4 then B else A) = if -1 ≤ x.toInt ∧ x.toInt ≤ 3 then B else A := by
  have z1 : (-1 : Int32).toInt = -1 := by decide
  have z2 : (4 : Int32).toInt = 4 := by decide
  simp only [fa_lt, z1, z2]
  by_cases h1 : x.toInt < -1
  · rw [if_pos h1, if_neg (by omega)]
  · rw [if_neg h1]
    by_cases h2 : x.toInt < 4
    · rw [if_pos h2, if_pos (by omega)]
    · rw [if_neg h2, if_neg (by omega)]
def okR (H : Nat → Nat) (n r : Nat) : Bool := rBk (pnF H n) n (H 3) r 0 true
section PR
variable {N : Nat} {σ τ : kS} {H : Nat → Nat} {Q : Int32 → kS → Prop} {E : Int32 → kS → Prop} {E2 : Int32 → Int32 → kS → Prop} {G : Int32 → Int32 → kS → Prop}
theorem l_isN {p j : Nat} (hN : 5000 ≤ N) (hM : MH σ H) (hV : HV H) (hp : p < H 3) (hj : j < 10) : ∀ (r f q : Nat) (b : Bool) (τ : kS), q + r = H 4 → r < f → ag2 σ τ → (∀ υ, ag2 σ υ → Q (if (b || igR H p j r q) = true then 1 else 0) υ) → l_X7_isNight_5 N Q (nI p) (nI j) f (if b = true then 1 else 0) (nI q) τ := by
  have h0 := hV.1
  have h5 := hV.2.2.2.2.1
  intro r
  induction r with
  | zero =>
    intro f q b τ hq hf hA kk
    obtain ⟨f, rfl⟩ : ∃ j, f = j + 1 := ⟨f - 1, by omega⟩
    show b_X7_isNight_5 N Q (nI p) (nI j) _ _ (nI q) τ
    unfold b_X7_isNight_5
    simp only [cl0, vq0, cl1, vq1, cl2, vq2, cl3, vq3, cl4, vq4, cl5, vq5, true_and, (hA.MH hM) 4 (show 4 < 57 by omega)]
    rw [if_pos ((z_le (by omega) (by omega)).mpr (by omega))]
    have := kk τ hA
    rw [show igR H p j 0 q = false from rfl, Bool.or_false] at this
    refine ⟨?_, this⟩
    cases b
    · left; rfl
    · right; rfl
  | succ r ih =>
    intro f q b τ hq hf hA kk
    obtain ⟨f, rfl⟩ : ∃ j, f = j + 1 := ⟨f - 1, by omega⟩
    show b_X7_isNight_5 N Q (nI p) (nI j) _ _ (nI q) τ
    unfold b_X7_isNight_5
    have hMt := hA.MH hM
    have eq1 : nI q + 1 = nI (q + 1) := by rw [lit_1, nI_add]
    have hq4 : q < H 4 := by omega
    have sl := sft_lt hV j
    have bl := bi_lt hV q
    simp only [cl0, vq0, cl1, vq1, cl2, vq2, cl3, vq3, cl4, vq4, cl5, vq5, true_and, hMt 4 (show 4 < 57 by omega)]
    rw [if_neg (fun q => absurd ((z_le (by omega) (by omega)).mp q) (by omega))]
    have i1 := ih f (q + 1) true
    have i0 := ih f (q + 1) false
    simp only [if_true, Bool.false_eq_true, if_false, Bool.true_or, Bool.false_or] at i1 i0
    have kk2 : ∀ υ, ag2 σ υ → Q (if (b || ((decide (sft H j = bi H q) && rch H q p) || igR H p j r (q + 1))) = true then 1 else 0) υ := kk
    cases b
    · simp only [Bool.false_eq_true, if_false, if_true, Bool.false_or] at kk2 ⊢
      rw [t_shiftIn hMt hV (by omega), t_biasOfM hMt hV hq4]
      simp only [forall_eq, eq1, z_eq (show sft H j < 2 ^ 31 by omega) (show bi H q < 2 ^ 31 by omega)]
      by_cases e : sft H j = bi H q
      · rw [if_pos e]
        simp only [e, decide_true, Bool.true_and] at kk2
        refine t_reachesM hN hMt hV hq4 hp (fun υ u1 _ _ => ?_)
        cases c : rch H q p
        · rw [c] at kk2
          simp only [Bool.false_eq_true, if_false, if_true, Bool.false_or] at kk2 ⊢
          exact i0 υ (by omega) (by omega) (hA.tr u1) kk2
        · rw [c] at kk2
          simp only [if_true, z10, if_false, Bool.true_or] at kk2 ⊢
          exact i1 υ (by omega) (by omega) (hA.tr u1) kk2
      · rw [if_neg e]
        simp only [e, decide_false, Bool.false_and, Bool.false_or] at kk2
        exact i0 τ (by omega) (by omega) hA kk2
    · simp only [if_true, Bool.true_or, z10, if_false, forall_eq, eq1] at kk2 ⊢
      exact i1 τ (by omega) (by omega) hA kk2
theorem t_isNight {p j : Nat} (hN : 5000 ≤ N) (hM : MH σ H) (hV : HV H) (hp : p < H 3) (hj : j < 10) (kk : ∀ υ, ag2 σ υ → Q (if igR H p j (H 4) 0 = true then 1 else 0) υ) : w_X7_isNight N σ (nI p) (nI j) Q := by
  have h5 := hV.2.2.2.2.1
  unfold w_X7_isNight
  have := l_isN (N := N) (Q := Q) hN hM hV hp hj (H 4) N 0 false σ (by omega) (by omega) ag2.rf (by
    simp only [Bool.false_or]
    exact kk)
  simp only [Bool.false_eq_true, if_false] at this
  exact this
theorem l_pr101 {n : Nat} {x2 x4 x5 x6 : Int32} (hN : 5000 ≤ N) (hM : MH σ H) (hV : HV H) (h1 : 1 ≤ n) (hn : n ≤ 6) : ∀ (m f rest used : Nat) (b : Bool) (τ : kS), m ≤ H 3 → m < f → ag2 σ τ → rest < 2 ^ 31 → used < 2 ^ 6 → (∀ υ, ag2 σ υ → E (if rBk (pnF H n) n m rest used b = true then 1 else 0) υ) → l_X7_programme_101 N Q (nI n) x2 x4 x5 x6 E f (nI rest) (nI used) (if b = true then 1 else 0) (nI m - 1) τ := by
  have h4 := hV.2.2.2.1
  intro m
  induction m with
  | zero =>
    intro f rest used b τ hm hf hA hr hu kk
    obtain ⟨f, rfl⟩ : ∃ j, f = j + 1 := ⟨f - 1, by omega⟩
    show b_X7_programme_101 N Q (nI n) x2 x4 x5 x6 E _ _ _ _ _ τ
    unfold b_X7_programme_101
    rw [if_pos (by decide)]
    exact kk τ hA
  | succ m ih =>
    intro f rest used b τ hm hf hA hr hu kk
    obtain ⟨f, rfl⟩ : ∃ j, f = j + 1 := ⟨f - 1, by omega⟩
    show b_X7_programme_101 N Q (nI n) x2 x4 x5 x6 E _ _ _ _ _ τ
    unfold b_X7_programme_101
    have dl := Nat.mod_lt rest (show 0 < n by omega)
    have ql := Nat.div_le_self rest n
    have n0 : ¬ nI n = 0 := nI_ne0 (by omega) (by omega)
    have ul : used ||| 2 ^ (rest % n) < 2 ^ 6 := Nat.or_lt_two_pow hu (Nat.pow_lt_pow_right (by omega) (by omega))
    rw [nI_pred, if_neg (nI_pos (by omega)), krem_nI hr (by omega) (by omega), pk_div hr (by omega) (by omega)]
    simp only [n0, not_false_eq_true, true_and, forall_eq, shl1B (show rest % n < 31 by omega), fa_or, m1sub]
    have i1 := ih f (rest / n) (used ||| 2 ^ (rest % n)) true
    have i0 := ih f (rest / n) (used ||| 2 ^ (rest % n)) false
    simp only [if_true, Bool.false_eq_true, if_false] at i1 i0
    have kk2 : ∀ υ, ag2 σ υ → E (if rBk (pnF H n) n m (rest / n) (used ||| 2 ^ (rest % n)) (b && !used.testBit (rest % n) && (pnF H n m).testBit (rest % n)) = true then 1 else 0) υ := kk
    cases b
    · simp only [Bool.false_eq_true, if_false, if_true, Bool.false_and] at kk2 ⊢
      exact i0 τ (by omega) (by omega) hA (by omega) ul kk2
    · simp only [if_true, z10, if_false, Bool.true_and] at kk2 ⊢
      rw [t_hasB (by omega) (by omega)]
      cases c : used.testBit (rest % n)
      · rw [c] at kk2
        simp only [Bool.false_eq_true, if_false, if_true, Bool.not_false, Bool.true_and] at kk2 ⊢
        refine t_isNight hN (hA.MH hM) hV (by omega) (by omega) (fun υ u1 => ?_)
        rw [pnF_bit dl] at kk2
        cases d : igR H m (rest % n) (H 4) 0
        · rw [d] at kk2
          simp only [Bool.false_eq_true, if_false, if_true]
          exact i0 υ (by omega) (by omega) (hA.tr u1) (by omega) ul kk2
        · rw [d] at kk2
          simp only [if_true, z10, if_false]
          exact i1 υ (by omega) (by omega) (hA.tr u1) (by omega) ul kk2
      · rw [c] at kk2
        simp only [if_true, z10, if_false, Bool.not_true, Bool.false_and] at kk2 ⊢
        exact i0 τ (by omega) (by omega) hA (by omega) ul kk2
theorem l_pr76 {n : Nat} {x2 : Int32} (hN : 5000 ≤ N) (hM : MH σ H) (hV : HV H) (h1 : 1 ≤ n) (hn : n ≤ 6) : ∀ (m f c ft : Nat) (τ : kS), m ≤ 1296 → m < f → ag2 σ τ → (∀ υ, ag2 σ υ → E2 (nI (c + fb_ct (okR H n) m)) (nI (fsR (okR H n) m ft)) υ) → l_X7_programme_76 N Q (nI n) x2 E2 f (nI c) (nI ft) (nI m - 1) τ := by
  have h4 := hV.2.2.2.1
  intro m
  induction m with
  | zero =>
    intro f c ft τ hm hf hA kk
    obtain ⟨f, rfl⟩ : ∃ j, f = j + 1 := ⟨f - 1, by omega⟩
    show b_X7_programme_76 N Q (nI n) x2 E2 _ _ _ _ τ
    unfold b_X7_programme_76
    rw [if_pos (by decide)]
    exact kk τ hA
  | succ m ih =>
    intro f c ft τ hm hf hA kk
    obtain ⟨f, rfl⟩ : ∃ j, f = j + 1 := ⟨f - 1, by omega⟩
    show b_X7_programme_76 N Q (nI n) x2 E2 _ _ _ _ τ
    unfold b_X7_programme_76
    rw [nI_pred, if_neg (nI_pos (by omega))]
    simp only [cl0, vq0, cl1, vq1, cl2, vq2, cl3, vq3, cl4, vq4, cl5, vq5, true_and, (hA.MH hM) 3 (show 3 < 57 by omega), forall_eq]
    have kk2 : ∀ υ, ag2 σ υ → E2 (nI (c + (fb_ct (okR H n) m + if okR H n m = true then 1 else 0))) (nI (fsR (okR H n) m (if okR H n m = true then m else ft))) υ := kk
    have := l_pr101 (N := N) (Q := Q) (x2 := x2) (x4 := nI c) (x5 := nI ft) (x6 := nI m) (E := fun (x9_29 : Int32) (σ_30 : kS) => if x9_29 = 0 then (j_X7_programme_178 N Q (nI n) x2 (nI ft) (nI m) x9_29 0 (nI c) (l_X7_programme_76 N Q (nI n) x2 E2 f) σ_30) else (j_X7_programme_178 N Q (nI n) x2 (nI ft) (nI m) x9_29 1 (nI c) (l_X7_programme_76 N Q (nI n) x2 E2 f) σ_30)) hN hM hV h1 hn (H 3) N m 0 true τ (by omega) (by omega) hA (by omega) (by omega) (fun υ u1 => ?_)
    · simp only [if_true] at this
      exact this
    · show if (if okR H n m = true then (1 : Int32) else 0) = 0 then _ else _
      cases o : okR H n m
      · rw [o] at kk2
        simp only [Bool.false_eq_true, if_false, if_true, Nat.add_zero] at kk2 ⊢
        unfold j_X7_programme_178
        have o2 : rBk (pnF H n) n (H 3) m 0 true = false := o
        simp only [forall_eq, o2, Bool.false_eq_true, if_false, if_true, m1sub, Int32.add_zero]
        exact ih f c ft υ (by omega) (by omega) u1 kk2
      · rw [o] at kk2
        simp only [if_true, z10, if_false] at kk2 ⊢
        unfold j_X7_programme_178
        have ec : nI c + 1 = nI (c + 1) := by rw [lit_1, nI_add]
        have o2 : rBk (pnF H n) n (H 3) m 0 true = true := o
        simp only [forall_eq, o2, if_true, z10, if_false, m1sub, ec]
        refine ih f (c + 1) m υ (by omega) (by omega) u1 (fun υ u => ?_)
        rw [show c + 1 + fb_ct (okR H n) m = c + (fb_ct (okR H n) m + 1) by omega]
        exact kk2 υ u
theorem l_pr44 {n : Nat} {x2 : Int32} (hM : MH σ H) (hV : HV H) : ∀ (r f i : Nat), i + r = H 3 → r < f → l_X7_programme_44 N Q (nI n) x2 E f (nI (n ^ i)) (nI i) σ = E (nI (n ^ H 3)) σ := by
  have h4 := hV.2.2.2.1
  intro r
  induction r with
  | zero =>
    intro f i hi hf
    obtain ⟨f, rfl⟩ : ∃ j, f = j + 1 := ⟨f - 1, by omega⟩
    show b_X7_programme_44 N Q (nI n) x2 E _ _ (nI i) σ = _
    unfold b_X7_programme_44
    simp only [cl0, vq0, cl1, vq1, cl2, vq2, cl3, vq3, cl4, vq4, cl5, vq5, true_and, hM 3 (show 3 < 57 by omega)]
    rw [if_pos ((z_le (by omega) (by omega)).mpr (by omega)), show i = H 3 by omega]
  | succ r ih =>
    intro f i hi hf
    obtain ⟨f, rfl⟩ : ∃ j, f = j + 1 := ⟨f - 1, by omega⟩
    show b_X7_programme_44 N Q (nI n) x2 E _ _ (nI i) σ = _
    unfold b_X7_programme_44
    have ei : nI i + 1 = nI (i + 1) := by rw [lit_1, nI_add]
    simp only [cl0, vq0, cl1, vq1, cl2, vq2, cl3, vq3, cl4, vq4, cl5, vq5, true_and, hM 3 (show 3 < 57 by omega)]
    rw [if_neg (fun q => absurd ((z_le (by omega) (by omega)).mp q) (by omega))]
    simp only [forall_eq, pk_mul, ei]
    rw [← Nat.pow_succ]
    exact ih f (i + 1) (by omega) (by omega)
theorem l_pr242 {n k : Nat} (h1 : 1 ≤ n) (hn : n ≤ 6) (hk : k < 1000) : ∀ (u f i a : Nat), i = k + u → u < f → u < 1000 → a < 2 ^ 31 → l_X7_programme_242 N Q (nI n) (nI k) f (nI a) (nI i) τ = Q (nI (a / n ^ u % n)) τ := by
  have n0 : ¬ nI n = 0 := nI_ne0 (by omega) (by omega)
  intro u
  induction u with
  | zero =>
    intro f i a hi hf hu ha
    obtain ⟨f, rfl⟩ : ∃ j, f = j + 1 := ⟨f - 1, by omega⟩
    show b_X7_programme_242 N Q (nI n) (nI k) _ (nI a) (nI i) τ = _
    unfold b_X7_programme_242
    rw [if_pos ((z_le (by omega) (by omega)).mpr (by omega)), krem_nI ha (by omega) (by omega), Nat.pow_zero, Nat.div_one]
    simp only [n0, not_false_eq_true, true_and]
  | succ u ih =>
    intro f i a hi hf hu ha
    obtain ⟨f, rfl⟩ : ∃ j, f = j + 1 := ⟨f - 1, by omega⟩
    show b_X7_programme_242 N Q (nI n) (nI k) _ (nI a) (nI i) τ = _
    unfold b_X7_programme_242
    have ql := Nat.div_le_self a n
    have e : nI i + (-1) = nI (k + u) := by rw [hi, ← Nat.add_assoc, pk_m1]
    rw [if_neg (fun q => absurd ((z_le (by omega) (by omega)).mp q) (by omega)), pk_div ha (by omega) (by omega)]
    simp only [n0, not_false_eq_true, true_and, forall_eq, e]
    rw [ih f (k + u) (a / n) rfl (by omega) (by omega) (by omega), Nat.div_div_eq_div_mul, Nat.pow_succ, Nat.mul_comm n]
theorem t_prM {n : Nat} {x2 : Int32} (hN : 5000 ≤ N) (hM : MH τ H) (hV : HV H) (h4 : ¬ τ 55 4 = 0) (h1 : 1 ≤ n) (hn : n ≤ 6) (hx : -1 ≤ x2.toInt ∧ x2.toInt ≤ 3) (kk : ∀ υ, ag2 τ υ → (if x2 < 0 then (j_X7_programme_220 N Q x2 (nI (fb_ct (okR H n) (n ^ H 3))) υ) else (if nI (fb_ct (okR H n) (n ^ H 3)) = 0 then (j_X7_programme_220 N Q x2 (nI (fb_ct (okR H n) (n ^ H 3))) υ) else (if x2 < nI (H 3) then (l_X7_programme_242 N Q (nI n) x2 N (nI (fsR (okR H n) (n ^ H 3) 0)) (nI (H 3) - 1) υ) else (j_X7_programme_220 N Q x2 (nI (fb_ct (okR H n) (n ^ H 3))) υ))))) : w_X7_programme N τ (nI n) x2 Q := by
  have h3 := hV.2.2.2.1
  have hp : n ^ H 3 ≤ 6 ^ 4 := Nat.le_trans (Nat.pow_le_pow_left hn _) (Nat.pow_le_pow_right (by omega) h3)
  have hx1 : 1 ≤ (nI n).toInt ∧ (nI n).toInt ≤ 6 := by
    rw [nI_toInt (by omega)]
    omega
  simp only [w_X7_programme, h4, if_false, t_in32 1 6 (show (1 : Int64).toInt = 1 by decide) (show (6 : Int64).toInt = 6 by decide), hx1, t_in32 (-1) 3 (show (-1 : Int64).toInt = -1 by decide) (show (3 : Int64).toInt = 3 by decide), hx, and_self, if_true, z10, if_false, true_and]
  have e44 := fun E => l_pr44 (N := N) (Q := Q) (E := E) (n := n) (x2 := x2) hM hV (H 3) N 0 (by omega) (by omega)
  rw [Nat.pow_zero] at e44
  refine Eq.mpr (e44 _) ?_
  simp only [forall_eq]
  refine l_pr76 hN hM hV h1 hn (n ^ H 3) N 0 0 τ (by omega) (by omega) ag2.rf (fun υ u1 => ?_)
  have := kk υ u1
  rw [Nat.zero_add]
  simp only [cl0, vq0, cl1, vq1, cl2, vq2, cl3, vq3, cl4, vq4, cl5, vq5, true_and, (u1.MH hM) 3 (show 3 < 57 by omega), forall_eq]
  exact this
theorem P_programme (hN : 5000 ≤ N) (hI : Inv σ) (x1 x2 : Int32) (hG : ∀ r τ, Inv τ → G r r τ) : w_X6_programme N σ x1 x2 (fun r1 τ => w_X7_programme N τ x1 x2 (fun r2 υ => G r1 r2 υ)) := by
  obtain ⟨H, ⟨hE, hC, hM, h4⟩, -⟩ := id hI
  have i1 := fun N σ x Q => t_in32 (N := N) (σ := σ) (x := x) (Q := Q) 1 6 (show (1 : Int64).toInt = 1 by decide) (show (6 : Int64).toInt = 6 by decide)
  have i2 := fun N σ x Q => t_in32 (N := N) (σ := σ) (x := x) (Q := Q) (-1) 3 (show (-1 : Int64).toInt = -1 by decide) (show (3 : Int64).toInt = 3 by decide)
  simp only [w_X6_programme, t_isTold hC hE, rngD (x := x2), rngB (x := x1) (lo := 1) (hi := 6) 1 6 rfl rfl]
  by_cases h : 0 < H 0
  · have hV := hE.v0 h
    have h3 := hV.2.2.2.1
    have q5 := there1 h h4
    by_cases a : 1 ≤ x1.toInt ∧ x1.toInt ≤ 6
    · by_cases b : -1 ≤ x2.toInt ∧ x2.toInt ≤ 3
      · obtain ⟨n, n1, n2, rfl⟩ := arg_in2 (a := 1) (b := 6) a
        have hp : n ^ H 3 ≤ 6 ^ 4 := Nat.le_trans (Nat.pow_le_pow_left n2 _) (Nat.pow_le_pow_right (by omega) h3)
        have p6 : 2 ^ n ≤ 2 ^ 6 := Nat.pow_le_pow_right (by omega) n2
        have p1 : 1 ≤ 2 ^ n := Nat.one_le_two_pow
        have ef : (1 : Int32) <<< (nI n &&& 31) - 1 = nI (2 ^ n - 1) := by rw [shl1B (by omega), lit_1, pk_sub p1]
        have ctl := fb_ct_le (okR H n) (n ^ H 3)
        have wy : wyN (pnF H n) (H 3) 0 (2 ^ n - 1) = fb_ct (okR H n) (n ^ H 3) := by
          rw [wy_ct n1 n2 (pnF_lt H n)]
          exact fb_ct_cong (fun k hk => (rB_okD n1 n2 hk).symm)
        simp only [h, a, b, and_self, if_true, z10, if_false, true_and]
        by_cases e : x2 = -1
        · subst e
          simp only [if_true, w_X2_programmes, w_X2_findPieceNights]
          rw [lit_0]
          refine l_fpn2 hN hC hV n2 (fun υ hS hF => ?_) (H 3) N 0 σ (by omega) (by omega) Sc.rf (fun i hi => by omega)
          have hu4 : ¬ υ 55 4 = 0 := by
            rw [hS 55 4 (by unfold scr; omega)]
            exact q5
          rw [ef, t_ways hN (hS.CH hC) hV hF (H 3) 6 0 (2 ^ n - 1) _ (by omega) (by omega) (by omega), wy]
          refine t_prM hN (hS.MH hM) hV hu4 n1 n2 b (fun ω w1 => ?_)
          rw [if_pos (by decide)]
          unfold j_X7_programme_220
          rw [if_neg (by decide)]
          exact hG _ _ (hI.sc (hS.tr w1.sc))
        · have b0 : 0 ≤ x2.toInt ∧ x2.toInt ≤ 3 := by
            rw [fa_eq] at e
            have z : (-1 : Int32).toInt = -1 := by decide
            omega
          obtain ⟨k, -, k2, rfl⟩ := arg_in2 (a := 0) (b := 3) b0
          have kn : ¬ nI k < 0 := nI_pos (by omega)
          have kp : (0 : Int32) ≤ nI k := nI_pos' (by omega)
          simp only [e, if_false, w_X2_nightOfPiece, hC.2.2.2.1, z_lt (show k < 2 ^ 31 by omega) (show H 3 < 2 ^ 31 by omega)]
          by_cases f : k < H 3
          · simp only [f, if_true, w_X2_findPieceNights]
            rw [lit_0]
            refine l_fpn2 hN hC hV n2 (fun υ hS hF => ?_) (H 3) N 0 σ (by omega) (by omega) Sc.rf (fun i hi => by omega)
            have hu4 : ¬ υ 55 4 = 0 := by
              rw [hS 55 4 (by unfold scr; omega)]
              exact q5
            have hCu := hS.CH hC
            simp only [forall_eq, ef]
            obtain ⟨m, hm⟩ : ∃ m, H 3 = m + 1 := ⟨H 3 - 1, by omega⟩
            have okq : ∀ r, r < n ^ H 3 → okR H n r = okD (pnF H n) n (m + 1) 0 (2 ^ n - 1) r := fun r hr => by
              have := rB_okD (g := pnF H n) n1 n2 hr
              unfold okR
              rw [this, hm]
            by_cases ex : ∃ r, r < n ^ H 3 ∧ okR H n r = true
            · obtain ⟨r1, r2, r3⟩ := fs_least (n ^ H 3) 0 ex
              have cp : ¬ nI (fb_ct (okR H n) (n ^ H 3)) = 0 := nI_ne0 (fb_ct_pos.mpr ex) (by omega)
              rw [l_nop hN hCu hV hF n1 n2 (pnF_lt H n) f k 0 m N (2 ^ n - 1) (fsR (okR H n) (n ^ H 3) 0) _ (by omega) (by omega) (by omega) (by omega) (by rw [← hm]; exact r1) (by rw [← okq _ r1]; exact r2) (fun s hs => by rw [← okq s (by omega)]; exact r3 s hs)]
              refine t_prM hN (hS.MH hM) hV hu4 n1 n2 b (fun ω w1 => ?_)
              rw [if_neg kn, if_neg cp, if_pos ((z_lt (by omega) (by omega)).mpr f), lit_1, pk_sub (by omega), l_pr242 n1 n2 (by omega) (H 3 - 1 - k) N (H 3 - 1) _ (by omega) (by omega) (by omega) (by omega)]
              exact hG _ _ (hI.sc (hS.tr w1.sc))
            · have no : ∀ r, r < n ^ H 3 → okR H n r = false := by
                intro r hr
                cases c : okR H n r
                · rfl
                · exact absurd ⟨r, hr, c⟩ ex
              have ct0 : fb_ct (okR H n) (n ^ H 3) = 0 := fb_ct_zero.mpr no
              have wz : fb_sm (fun j => if (pnF H n 0 &&& (2 ^ n - 1)).testBit j = true then wyN (pnF H n) m (0 + 1) (clr (2 ^ n - 1) (2 ^ j)) else 0) 6 = 0 := by
                rw [hm] at wy ct0
                exact wy.trans ct0
              have hl : ∀ i, i < 6 → (pnF H n 0 &&& (2 ^ n - 1)).testBit i = true → wyN (pnF H n) m (0 + 1) (clr (2 ^ n - 1) (2 ^ i)) = 0 := fun i hi hb => by
                have := fb_sm_zero wz i hi
                simp only [hb, if_true] at this
                exact this
              obtain ⟨N', hN'⟩ : ∃ j, N = j + 1 := ⟨N - 1, by omega⟩
              have lz : ∀ Q, l_X2_nightOfPiece_32 N Q (nI k) N (nI (2 ^ n - 1)) (-1000000) (nI 0) υ = Q (-1000000) υ := fun Q => by
                have vp : vp_in (nI 0) 4 := vp_in_nI (by omega) (by decide)
                have cp : (nI 0).toNatClampNeg = 0 := nI_clamp (by omega)
                have fn := fun Q => l_fnfN (N := N) (Q := Q) hN hCu hV hF (show 0 + (m + 1) = H 3 by omega) (show 2 ^ n - 1 < 2 ^ 6 by omega) hl 6 N 0 (by omega) (by omega)
                have st : l_X2_nightOfPiece_32 N Q (nI k) N (nI (2 ^ n - 1)) (-1000000) (nI 0) υ = b_X2_nightOfPiece_32 N Q (nI k) (l_X2_nightOfPiece_32 N Q (nI k) N') (nI (2 ^ n - 1)) (-1000000) (nI 0) υ := by
                  conv => lhs; rw [show l_X2_nightOfPiece_32 N Q (nI k) N = l_X2_nightOfPiece_32 N Q (nI k) (N' + 1) by rw [← hN']]
                  rfl
                rw [st]
                unfold b_X2_nightOfPiece_32
                rw [if_neg (fun q => absurd ((z_lt (by omega) (by omega)).mp q) (by omega))]
                unfold w_X2_firstNightFor
                simp only [vp, cp, true_and, forall_eq, hF 0 (by omega), fa_and]
                rw [lit_0, fn, if_pos rfl]
              rw [lz]
              refine t_prM hN (hS.MH hM) hV hu4 n1 n2 b (fun ω w1 => ?_)
              rw [if_neg kn, ct0, if_pos nI_0]
              unfold j_X7_programme_220
              rw [if_pos kp]
              exact hG _ _ (hI.sc (hS.tr w1.sc))
          · simp only [f, if_false]
            refine t_prM hN hM hV q5 n1 n2 b (fun ω w1 => ?_)
            have kl : ¬ nI k < nI (H 3) := fun q => f ((z_lt (by omega) (by omega)).mp q)
            rw [if_neg kn, if_neg kl]
            unfold j_X7_programme_220
            rw [if_pos kp]
            have g := hG (-1000000) _ (hI.sc w1.sc)
            split
            · exact g
            · exact g
      · simp only [h, a, b, and_self, if_true, z10, if_false, true_and, w_X7_programme, q5, i1, i2, hG _ _ hI]
    · simp only [h, a, and_self, if_true, z10, if_false, true_and, w_X7_programme, q5, i1, hG _ _ hI]
  · simp only [h, if_false, if_true, w_X7_programme, there0 h h4, hG _ _ hI]
end PR
