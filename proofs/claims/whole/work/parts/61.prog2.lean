/-! ===== programme: the class ===== -/
theorem none_ne {a : Nat} (h : a < 2 ^ 31) : ¬ nI a = -1000000 := by
  rw [fa_eq, nI_toInt h]
  have : (-1000000 : Int32).toInt = -1000000 := by decide
  omega
section PC
variable {N : Nat} {σ τ : kS} {H : Nat → Nat} {Q : Int32 → kS → Prop} {Qv : kS → Prop} {Es : kS → Prop}
theorem l_fpn22 {n p : Nat} (hN : 5000 ≤ N) (hV : HV H) (hp : p < H 3) (hn : n ≤ 6) : ∀ (r f q m : Nat) (τ : kS), q + r = H 4 → r < f → CH τ 33 H → τ 52 p = nI m → (∀ υ, (∀ c k, ¬ (c = 52 ∧ k = p) → υ c k = τ c k) → υ 52 p = nI (pnR H n p r q m) → Es υ) → l_X2_findPieceNights_22 N Qv (nI n) (nI p) Es f (nI q) τ := by
  have h0 := hV.1
  have h4 := hV.2.2.2.1
  have h5 := hV.2.2.2.2.1
  intro r
  induction r with
  | zero =>
    intro f q m τ hq hf hC hm kk
    obtain ⟨f, rfl⟩ : ∃ j, f = j + 1 := ⟨f - 1, by omega⟩
    show b_X2_findPieceNights_22 N Qv (nI n) (nI p) Es _ (nI q) τ
    unfold b_X2_findPieceNights_22
    rw [hC.2.2.2.2.1, if_pos ((z_le (by omega) (by omega)).mpr (by omega))]
    exact kk τ (fun _ _ _ => rfl) hm
  | succ r ih =>
    intro f q m τ hq hf hC hm kk
    obtain ⟨f, rfl⟩ : ∃ j, f = j + 1 := ⟨f - 1, by omega⟩
    show b_X2_findPieceNights_22 N Qv (nI n) (nI p) Es _ (nI q) τ
    unfold b_X2_findPieceNights_22
    have hq4 : q < H 4 := by omega
    have eq1 : nI q + 1 = nI (q + 1) := by rw [lit_1, nI_add]
    have vp : vp_in (nI p) 4 := vp_in_nI (by omega) (by decide)
    have cp : (nI p).toNatClampNeg = p := nI_clamp (by omega)
    rw [hC.2.2.2.2.1, if_neg (fun q => absurd ((z_le (by omega) (by omega)).mp q) (by omega)), t_reaches (by omega) hC hV hq4 hp]
    have nn : ∀ Q, w_X2_nightsAt N τ (nI (bi H q)) (nI n) Q = Q (nI (nbF H (bi H q) n 0 0)) τ := fun Q => by
      rw [t_nightsAt hN hC hV (bi_lt hV q) (by omega), lit_0, nb_eq n 0 0 (by omega)]
    simp only [vp, cp, true_and, t_biasOf hC hV hq4, nn, forall_eq, eq1, hm, fa_or]
    cases e : rch H q p
    · simp only [Bool.false_eq_true, if_false, if_true]
      refine ih f (q + 1) m τ (by omega) (by omega) hC hm (fun υ u1 u2 => kk υ u1 ?_)
      rw [u2]
      show _ = nI (pnR H n p r (q + 1) (if rch H q p = true then m ||| nbF H (bi H q) n 0 0 else m))
      rw [e, if_neg (by decide)]
    · simp only [if_true, z10, if_false]
      refine ih f (q + 1) (m ||| nbF H (bi H q) n 0 0) _ (by omega) (by omega) (CH_cong (fun d k h1 h2 => by rw [st2_app, if_neg (by omega)]) hC) (by rw [st2_app, if_pos ⟨rfl, rfl⟩]) (fun υ u1 u2 => kk υ (fun c k h => ?_) ?_)
      · rw [u1 c k h, st2_app, if_neg h]
      · rw [u2]
        show _ = nI (pnR H n p r (q + 1) (if rch H q p = true then m ||| nbF H (bi H q) n 0 0 else m))
        rw [e, if_pos rfl]
theorem l_fpn2 {n : Nat} (hN : 5000 ≤ N) (hC : CH σ 33 H) (hV : HV H) (hn : n ≤ 6) (kk : ∀ υ, Sc σ υ → (∀ p, p < H 3 → υ 52 p = nI (pnF H n p)) → Qv υ) : ∀ (r f p : Nat) (τ : kS), p + r = H 3 → r < f → Sc σ τ → (∀ i, i < p → τ 52 i = nI (pnF H n i)) → l_X2_findPieceNights_2 N Qv (nI n) f (nI p) τ := by
  have h4 := hV.2.2.2.1
  have h5 := hV.2.2.2.2.1
  intro r
  induction r with
  | zero =>
    intro f p τ hp hf hS hF
    obtain ⟨f, rfl⟩ : ∃ j, f = j + 1 := ⟨f - 1, by omega⟩
    show b_X2_findPieceNights_2 N Qv (nI n) _ (nI p) τ
    unfold b_X2_findPieceNights_2
    rw [(hS.CH hC).2.2.2.1, if_pos ((z_le (by omega) (by omega)).mpr (by omega))]
    exact kk τ hS (fun i hi => hF i (by omega))
  | succ r ih =>
    intro f p τ hp hf hS hF
    obtain ⟨f, rfl⟩ : ∃ j, f = j + 1 := ⟨f - 1, by omega⟩
    show b_X2_findPieceNights_2 N Qv (nI n) _ (nI p) τ
    unfold b_X2_findPieceNights_2
    have ep : nI p + 1 = nI (p + 1) := by rw [lit_1, nI_add]
    have vp : vp_in (nI p) 4 := vp_in_nI (by omega) (by decide)
    have cp : (nI p).toNatClampNeg = p := nI_clamp (by omega)
    have hS1 : Sc σ (st2 τ 52 p 0) := hS.st (by unfold scr; omega)
    rw [(hS.CH hC).2.2.2.1, if_neg (fun q => absurd ((z_le (by omega) (by omega)).mp q) (by omega))]
    simp only [vp, cp, true_and, forall_eq, ep]
    rw [lit_0]
    refine l_fpn22 hN hV (by omega) hn (H 4) N 0 0 _ (by omega) (by omega) (hS1.CH hC) (by rw [st2_app, if_pos ⟨rfl, rfl⟩]) (fun υ u1 u2 => ?_)
    refine ih f (p + 1) υ (by omega) (by omega) (hS1.tr (fun c k h => u1 c k (fun q => h (by unfold scr; omega)))) (fun i hi => ?_)
    by_cases e : i = p
    · subst e
      exact u2
    · rw [u1 52 i (by omega), st2_app, if_neg (by omega)]
      exact hF i (by omega)
theorem and_lt6 {a F : Nat} (h : F < 2 ^ 6) : a &&& F < 2 ^ 6 := Nat.and_lt_two_pow _ h
theorem t_ways {g : Nat → Nat} (hN : 5000 ≤ N) (hC : CH τ 33 H) (hV : HV H) (hF : ∀ p, p < H 3 → τ 52 p = nI (g p)) : ∀ (m d p F : Nat) (Q : Int32 → kS → Prop), p + m = H 3 → m < d → F < 2 ^ 6 → w_X2_waysFrom N d τ (nI p) (nI F) Q = Q (nI (wyN g m p F)) τ := by
  have h4 := hV.2.2.2.1
  intro m
  induction m with
  | zero =>
    intro d p F Q hp hd hf
    obtain ⟨d, rfl⟩ : ∃ j, d = j + 1 := ⟨d - 1, by omega⟩
    show b_X2_waysFrom N _ τ (nI p) (nI F) Q = _
    unfold b_X2_waysFrom
    rw [hC.2.2.2.1, if_neg (fun q => absurd ((z_lt (by omega) (by omega)).mp q) (by omega))]
    rfl
  | succ m ih =>
    intro d p F Q hp hd hf
    obtain ⟨d, rfl⟩ : ∃ j, d = j + 1 := ⟨d - 1, by omega⟩
    show b_X2_waysFrom N (w_X2_waysFrom N d) τ (nI p) (nI F) Q = _
    unfold b_X2_waysFrom
    have vp : vp_in (nI p) 4 := vp_in_nI (by omega) (by decide)
    have cp : (nI p).toNatClampNeg = p := nI_clamp (by omega)
    have ep : nI p + 1 = nI (p + 1) := by rw [lit_1, nI_add]
    rw [hC.2.2.2.1, if_pos ((z_lt (by omega) (by omega)).mpr (by omega))]
    simp only [vp, cp, true_and, forall_eq, hF p (by omega), fa_and]
    have lp : ∀ (r f j : Nat), j + r = 6 → r < f → l_X2_waysFrom_28 N Q (w_X2_waysFrom N d) (nI p) (nI F) (nI (g p &&& F)) f (nI (fb_sm (fun j => if (g p &&& F).testBit j = true then wyN g m (p + 1) (clr F (2 ^ j)) else 0) j)) (nI j) τ = Q (nI (wyN g (m + 1) p F)) τ := by
      intro r
      induction r with
      | zero =>
        intro f j hj hf2
        obtain ⟨f, rfl⟩ : ∃ j, f = j + 1 := ⟨f - 1, by omega⟩
        show b_X2_waysFrom_28 N Q (w_X2_waysFrom N d) (nI p) (nI F) (nI (g p &&& F)) _ _ (nI j) τ = _
        unfold b_X2_waysFrom_28
        rw [lit_6, if_pos ((z_le (by omega) (by omega)).mpr (by omega)), show j = 6 by omega]
        rfl
      | succ r ih2 =>
        intro f j hj hf2
        obtain ⟨f, rfl⟩ : ∃ j, f = j + 1 := ⟨f - 1, by omega⟩
        show b_X2_waysFrom_28 N Q (w_X2_waysFrom N d) (nI p) (nI F) (nI (g p &&& F)) _ _ (nI j) τ = _
        unfold b_X2_waysFrom_28
        have ej : nI j + 1 = nI (j + 1) := by rw [lit_1, nI_add]
        have cl := clr_le F (2 ^ j)
        rw [lit_6, if_neg (fun q => absurd ((z_le (by omega) (by omega)).mp q) (by omega))]
        simp only [forall_eq, shl1B (show j < 31 by omega), fa_bit (show j < 31 by omega), ej, ep, nclr, ih d (p + 1) (clr F (2 ^ j)) _ (show p + 1 + m = H 3 by omega) (show m < d by omega) (show clr F (2 ^ j) < 2 ^ 6 by omega), nI_add]
        rw [← ih2 f (j + 1) (by omega) (by omega), fb_sm_succ]
        cases (g p &&& F).testBit j
        · simp only [if_true, Bool.false_eq_true, if_false]
          rfl
        · simp only [Bool.true_eq_false, if_true, if_false]
    exact lp 6 N 0 (by omega) (by omega)
theorem l_fnf {g : Nat → Nat} {m p F j : Nat} (hN : 5000 ≤ N) (hC : CH τ 33 H) (hV : HV H) (hF : ∀ p, p < H 3 → τ 52 p = nI (g p)) (hp : p + (m + 1) = H 3) (hf : F < 2 ^ 6) (hj : j < 6) (hb : (g p &&& F).testBit j = true) (hw : 0 < wyN g m (p + 1) (clr F (2 ^ j))) (hl : ∀ i, i < j → (g p &&& F).testBit i = true → wyN g m (p + 1) (clr F (2 ^ i)) = 0) : ∀ (r f i : Nat), i + r = j → r < f → l_X2_firstNightFor_12 N Q (nI p) (nI F) (nI (g p &&& F)) f (nI i) τ = Q (nI j) τ := by
  have h4 := hV.2.2.2.1
  have ep : nI p + 1 = nI (p + 1) := by rw [lit_1, nI_add]
  have bd : ∀ i, wyN g m (p + 1) (clr F (2 ^ i)) < 2 ^ 31 := fun i => by
    have := wy_le g m (p + 1) (clr F (2 ^ i))
    have : 6 ^ m ≤ 6 ^ 4 := Nat.pow_le_pow_right (by omega) (by omega)
    omega
  intro r
  induction r with
  | zero =>
    intro f i hi hff
    obtain ⟨f, rfl⟩ : ∃ j, f = j + 1 := ⟨f - 1, by omega⟩
    have : i = j := by omega
    subst this
    have cl := clr_le F (2 ^ i)
    show b_X2_firstNightFor_12 N Q (nI p) (nI F) (nI (g p &&& F)) _ (nI i) τ = _
    unfold b_X2_firstNightFor_12
    rw [lit_6, if_neg (fun q => absurd ((z_le (by omega) (by omega)).mp q) (by omega))]
    simp only [forall_eq, shl1B (show i < 31 by omega), fa_bit (show i < 31 by omega), hb, ep, nclr, t_ways hN hC hV hF m 6 (p + 1) (clr F (2 ^ i)) _ (show p + 1 + m = H 3 by omega) (show m < 6 by omega) (show clr F (2 ^ i) < 2 ^ 6 by omega), Bool.true_eq_false, if_false]
    rw [if_neg]
    rw [lit_0, z_le (bd i) (by omega)]
    omega
  | succ r ih =>
    intro f i hi hff
    obtain ⟨f, rfl⟩ : ∃ j, f = j + 1 := ⟨f - 1, by omega⟩
    have cl := clr_le F (2 ^ i)
    show b_X2_firstNightFor_12 N Q (nI p) (nI F) (nI (g p &&& F)) _ (nI i) τ = _
    unfold b_X2_firstNightFor_12
    have ei : nI i + 1 = nI (i + 1) := by rw [lit_1, nI_add]
    rw [lit_6, if_neg (fun q => absurd ((z_le (by omega) (by omega)).mp q) (by omega))]
    simp only [forall_eq, shl1B (show i < 31 by omega), fa_bit (show i < 31 by omega), ei, ep, nclr, t_ways hN hC hV hF m 6 (p + 1) (clr F (2 ^ i)) _ (show p + 1 + m = H 3 by omega) (show m < 6 by omega) (show clr F (2 ^ i) < 2 ^ 6 by omega), ih f (i + 1) (show i + 1 + r = j by omega) (show r < f by omega)]
    cases c : (g p &&& F).testBit i
    · rw [if_pos rfl]
    · rw [if_neg (by decide), hl i (by omega) c, if_pos (by decide)]
theorem l_fnfN {g : Nat → Nat} {m p F : Nat} (hN : 5000 ≤ N) (hC : CH τ 33 H) (hV : HV H) (hF : ∀ p, p < H 3 → τ 52 p = nI (g p)) (hp : p + (m + 1) = H 3) (hf : F < 2 ^ 6) (hl : ∀ i, i < 6 → (g p &&& F).testBit i = true → wyN g m (p + 1) (clr F (2 ^ i)) = 0) : ∀ (r f i : Nat), i + r = 6 → r < f → l_X2_firstNightFor_12 N Q (nI p) (nI F) (nI (g p &&& F)) f (nI i) τ = Q (-1000000) τ := by
  have h4 := hV.2.2.2.1
  have ep : nI p + 1 = nI (p + 1) := by rw [lit_1, nI_add]
  intro r
  induction r with
  | zero =>
    intro f i hi hff
    obtain ⟨f, rfl⟩ : ∃ j, f = j + 1 := ⟨f - 1, by omega⟩
    show b_X2_firstNightFor_12 N Q (nI p) (nI F) (nI (g p &&& F)) _ (nI i) τ = _
    unfold b_X2_firstNightFor_12
    rw [lit_6, if_pos ((z_le (by omega) (by omega)).mpr (by omega))]
  | succ r ih =>
    intro f i hi hff
    obtain ⟨f, rfl⟩ : ∃ j, f = j + 1 := ⟨f - 1, by omega⟩
    have cl := clr_le F (2 ^ i)
    show b_X2_firstNightFor_12 N Q (nI p) (nI F) (nI (g p &&& F)) _ (nI i) τ = _
    unfold b_X2_firstNightFor_12
    have ei : nI i + 1 = nI (i + 1) := by rw [lit_1, nI_add]
    rw [lit_6, if_neg (fun q => absurd ((z_le (by omega) (by omega)).mp q) (by omega))]
    simp only [forall_eq, shl1B (show i < 31 by omega), fa_bit (show i < 31 by omega), ei, ep, nclr, t_ways hN hC hV hF m 6 (p + 1) (clr F (2 ^ i)) _ (show p + 1 + m = H 3 by omega) (show m < 6 by omega) (show clr F (2 ^ i) < 2 ^ 6 by omega), ih f (i + 1) (show i + 1 + r = 6 by omega) (show r < f by omega)]
    cases c : (g p &&& F).testBit i
    · rw [if_pos rfl]
    · rw [if_neg (by decide), hl i (by omega) c, if_pos (by decide)]
theorem l_nop {g : Nat → Nat} {n k : Nat} (hN : 5000 ≤ N) (hC : CH τ 33 H) (hV : HV H) (hF : ∀ p, p < H 3 → τ 52 p = nI (g p)) (h1 : 1 ≤ n) (hn : n ≤ 6) (hg : ∀ p, g p < 2 ^ n) (hk : k < H 3) : ∀ (u i m f F r : Nat) (c : Int32), i + u = k → i + (m + 1) = H 3 → u + 1 < f → F < 2 ^ 6 → r < n ^ (m + 1) → okD g n (m + 1) i F r = true → (∀ s, s < r → okD g n (m + 1) i F s = false) → l_X2_nightOfPiece_32 N Q (nI k) f (nI F) c (nI i) τ = Q (nI (dgt n r (H 3 - 1 - k))) τ := by
  have h4 := hV.2.2.2.1
  intro u
  induction u with
  | zero =>
    intro i m f F r c hi hm hff hf hr ho hl
    obtain ⟨f, rfl⟩ : ∃ j, f = j + 1 := ⟨f - 1, by omega⟩
    obtain ⟨f, rfl⟩ : ∃ j, f = j + 1 := ⟨f - 1, by omega⟩
    obtain ⟨g1, g2, g3, g4, -⟩ := gr_step h1 hn hg hr ho hl
    show b_X2_nightOfPiece_32 N Q (nI k) _ (nI F) c (nI i) τ = _
    unfold b_X2_nightOfPiece_32
    have vp : vp_in (nI i) 4 := vp_in_nI (by omega) (by decide)
    have cp : (nI i).toNatClampNeg = i := nI_clamp (by omega)
    have ei : nI i + 1 = nI (i + 1) := by rw [lit_1, nI_add]
    rw [if_neg (fun q => absurd ((z_lt (by omega) (by omega)).mp q) (by omega))]
    unfold w_X2_firstNightFor
    simp only [vp, cp, true_and, forall_eq, hF i (by omega), fa_and]
    rw [lit_0, l_fnf hN hC hV hF hm hf (by omega) g2 g3 g4 (r / n ^ m) N 0 (by omega) (by omega), if_neg]
    · simp only [shl1B (show r / n ^ m < 31 by omega), nclr, ei]
      show b_X2_nightOfPiece_32 N Q (nI k) _ (nI (clr F (2 ^ (r / n ^ m)))) (nI (r / n ^ m)) (nI (i + 1)) τ = _
      unfold b_X2_nightOfPiece_32
      rw [if_pos ((z_lt (by omega) (by omega)).mpr (by omega))]
      rw [show H 3 - 1 - k = m by omega, dgt_top hr]
    · exact none_ne (by omega)
  | succ u ih =>
    intro i m f F r c hi hm hff hf hr ho hl
    obtain ⟨f, rfl⟩ : ∃ j, f = j + 1 := ⟨f - 1, by omega⟩
    obtain ⟨g1, g2, g3, g4, g5, g6, g7⟩ := gr_step h1 hn hg hr ho hl
    obtain ⟨m, rfl⟩ : ∃ j, m = j + 1 := ⟨m - 1, by omega⟩
    show b_X2_nightOfPiece_32 N Q (nI k) _ (nI F) c (nI i) τ = _
    unfold b_X2_nightOfPiece_32
    have vp : vp_in (nI i) 4 := vp_in_nI (by omega) (by decide)
    have cp : (nI i).toNatClampNeg = i := nI_clamp (by omega)
    have ei : nI i + 1 = nI (i + 1) := by rw [lit_1, nI_add]
    have cl := clr_le F (2 ^ (r / n ^ (m + 1)))
    rw [if_neg (fun q => absurd ((z_lt (by omega) (by omega)).mp q) (by omega))]
    unfold w_X2_firstNightFor
    simp only [vp, cp, true_and, forall_eq, hF i (by omega), fa_and]
    rw [lit_0, l_fnf hN hC hV hF hm hf (by omega) g2 g3 g4 (r / n ^ (m + 1)) N 0 (by omega) (by omega), if_neg]
    · simp only [shl1B (show r / n ^ (m + 1) < 31 by omega), nclr, ei]
      rw [ih (i + 1) m f (clr F (2 ^ (r / n ^ (m + 1)))) (r % n ^ (m + 1)) _ (by omega) (by omega) (by omega) (by omega) g5 g6 g7, dgt_mod (by omega)]
    · exact none_ne (by omega)
end PC
