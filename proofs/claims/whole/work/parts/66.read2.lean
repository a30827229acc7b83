/-! ===== hall: the class reads pieces, and all ===== -/
def C1h (τ : kS) (H : Nat → Nat) : Prop := τ 39 5 = nI (H 0) ∧ τ 39 6 = nI (H 1) ∧ τ 39 7 = nI (H 2) ∧ τ 39 9 = nI (H 3) ∧ τ 39 8 = nI (H 5) ∧ (∀ p, p < H 3 → τ 40 p = nI (H (6 + p))) ∧ (∀ p k, p < H 3 → k < H (6 + p) → τ 41 (8 * p + k) = nI (H (10 + 8 * p + k)))
section RD
variable {N : Nat} {σ τ : kS} {t : Nat → Nat} {n i : Nat} {Q : Int32 → kS → Prop} {Qv : kS → Prop} {Es : kS → Prop} {E : Int32 → kS → Prop}
theorem C1h_CH {H : Nat → Nat} (h : C1h τ H) (h4 : H 4 = 0) : CH (st2 τ 39 10 (nI 0)) 39 H := by
  obtain ⟨a0, a1, a2, a3, a5, a6, a7⟩ := h
  refine ⟨?_, ?_, ?_, ?_, ?_, ?_, fun p hp => ?_, fun p k hp hk => ?_, fun q hq => ?_⟩
  · rw [st2_app, if_neg (by omega), a0]
  · rw [st2_app, if_neg (by omega), a1]
  · rw [st2_app, if_neg (by omega), a2]
  · rw [st2_app, if_neg (by omega), a3]
  · rw [st2_app, if_pos ⟨rfl, rfl⟩, h4]
  · rw [st2_app, if_neg (by omega), a5]
  · rw [st2_app, if_neg (by omega)]
    exact a6 p hp
  · rw [st2_app, if_neg (by omega)]
    exact a7 p k hp hk
  · omega
theorem rpup_ok {H : Nat → Nat} (hN : 5000 ≤ N) (hB : BTc σ t n) (hS : Sc σ τ) (h1 : τ 31 1 = nI i) (h2 : τ 31 2 = 0) (hi : i ≤ n) (hV : HV H) (h4 : H 4 = 0) (hC : C1h τ H) (hK : CK σ (ppR t n 5 0 i H) Q) : w_X5_readPupils N τ 39 (eC N Q) := by
  unfold w_X5_readPupils
  simp only [forall_eq]
  rw [lit_0]
  refine l_pup hN hB 5 0 i N H _ (by omega) (by omega) (hS.st (by unfold scr; omega)) ?_ ?_ hi hV h4 (C1h_CH hC h4) hK
  · rw [st2_app, if_neg (by omega), h1]
  · rw [st2_app, if_neg (by omega), h2]
theorem l_str {K p i0 : Nat} {τ0 : kS} (hB : BTc σ t n) (hp : p < 4) (hK : K ≤ 12) : ∀ (r l f : Nat) (τ : kS), r + l = 8 → r < f → Sc σ τ → τ 31 1 = nI (i0 + l) → τ 31 2 = 0 → i0 + l ≤ n → τ 39 5 = nI K → (∀ c j, ¬ (c = 31 ∧ j = 1) → ¬ (c = 41 ∧ 8 * p ≤ j ∧ j < 8 * p + 8) → τ c j = τ0 c j) → (∀ k, k < l → τ 41 (8 * p + k) = nI (t (i0 + k) - 97)) → (∀ υ, Sc σ υ → υ 31 1 = nI (i0 + slR t n K i0 r l) → υ 31 2 = 0 → (∀ c j, ¬ (c = 31 ∧ j = 1) → ¬ (c = 41 ∧ 8 * p ≤ j ∧ j < 8 * p + 8) → υ c j = τ0 c j) → (∀ k, k < slR t n K i0 r l → υ 41 (8 * p + k) = nI (t (i0 + k) - 97)) → E (nI (slR t n K i0 r l)) υ) → l_X5_readStrings_2 N Qv 39 (nI p) E f (nI l) τ := by
  have hn := hB.1
  intro r
  induction r with
  | zero =>
    intro l f τ hl hf hS h1 h2 hi h5 hF hs kk
    obtain ⟨f, rfl⟩ : ∃ j, f = j + 1 := ⟨f - 1, by omega⟩
    show b_X5_readStrings_2 N Qv 39 (nI p) E _ (nI l) τ
    unfold b_X5_readStrings_2
    rw [lit_8, if_pos ((z_le (by omega) (by omega)).mpr (by omega))]
    exact kk τ hS h1 h2 hF hs
  | succ r ih =>
    intro l f τ hl hf hS h1 h2 hi h5 hF hs kk
    obtain ⟨f, rfl⟩ : ∃ j, f = j + 1 := ⟨f - 1, by omega⟩
    have hBt := hB.sc hS
    show b_X5_readStrings_2 N Qv 39 (nI p) E _ (nI l) τ
    unfold b_X5_readStrings_2
    rw [lit_8, if_neg (fun q => absurd ((z_le (by omega) (by omega)).mp q) (by omega)), h5, t_seesSt hBt h1 (by omega) h2 hK]
    have sl : slR t n K i0 (r + 1) l = if i0 + l < n ∧ 97 ≤ t (i0 + l) ∧ t (i0 + l) < 97 + K then slR t n K i0 r (l + 1) else l := rfl
    rw [sl] at kk
    by_cases e : i0 + l < n ∧ 97 ≤ t (i0 + l) ∧ t (i0 + l) < 97 + K
    · rw [if_pos e] at kk ⊢
      have tl := (hB.2.2 _ e.1).2
      have e1 : nI p * nI 8 + nI l = nI (8 * p + l) := by rw [pk_mul, nI_add, Nat.mul_comm]
      have v1 : vp_in (nI (8 * p + l)) 32 := vp_in_nI (by omega) (by decide)
      have c1 : (nI (8 * p + l)).toNatClampNeg = 8 * p + l := nI_clamp (by omega)
      have e2 : nI (t (i0 + l)) - 97 = nI (t (i0 + l) - 97) := by rw [lit_97, pk_sub (by omega)]
      have el : nI l + 1 = nI (l + 1) := by rw [lit_1, nI_add]
      have ep : nI (i0 + l) + 1 = nI (i0 + (l + 1)) := by rw [lit_1, nI_add, Nat.add_assoc]
      have o1 : st2 τ 41 (8 * p + l) (nI (t (i0 + l) - 97)) 31 1 = nI (i0 + l) := by rw [st2_app, if_neg (by omega), h1]
      simp only [z10, if_false]
      rw [t_bHere hBt h1 (by omega), if_pos e.1]
      simp only [e1, v1, c1, e2, true_and, forall_eq, show (39 + 2 : Nat) = 41 from rfl, o1, ep, el]
      refine ih (l + 1) f _ (by omega) (by omega) ((hS.st (by unfold scr; omega)).st (by unfold scr; omega)) ?_ ?_ (by omega) ?_ (fun c j q1 q2 => ?_) (fun k hk => ?_) kk
      · rw [st2_app, if_pos ⟨rfl, rfl⟩]
      · rw [st2_app, if_neg (by omega), st2_app, if_neg (by omega), h2]
      · rw [st2_app, if_neg (by omega), st2_app, if_neg (by omega), h5]
      · rw [st2_app, if_neg q1, st2_app, if_neg (fun q => q2 (by omega)), hF c j q1 q2]
      · rw [st2_app, if_neg (by omega), st2_app]
        by_cases f : k = l
        · subst f
          rw [if_pos ⟨rfl, rfl⟩]
        · rw [if_neg (by omega)]
          exact hs k (by omega)
    · rw [if_neg e] at kk ⊢
      rw [if_pos rfl]
      exact kk τ hS h1 h2 hF hs
theorem C1_pc {υ : kS} {H : Nat → Nat} {p S i0 : Nat} (hf : ∀ c j, 39 ≤ c → c ≤ 41 → ¬ (c = 39 ∧ j = 9) → ¬ (c = 40 ∧ j = p) → ¬ (c = 41 ∧ 8 * p ≤ j ∧ j < 8 * p + 8) → υ c j = τ c j) (e1 : υ 39 9 = nI (p + 1)) (e2 : υ 40 p = nI S) (e3 : ∀ k, k < S → υ 41 (8 * p + k) = nI (t (i0 + k) - 97)) (hC : C1h τ H) (hV : HV H) (h3 : H 3 = p) (hp : p < 4) (hS : S ≤ 8) : C1h υ (hPc t H p S i0) := by
  obtain ⟨a0, a1, a2, a3, a5, a6, a7⟩ := hC
  have en : hPc t H p S i0 (6 + p) = S := hPc_n.resolve_right (by omega)
  refine ⟨?_, ?_, ?_, ?_, ?_, fun p' hp' => ?_, fun p' k hp' hk => ?_⟩
  · rw [hf _ _ (by omega) (by omega) (by omega) (by omega) (by omega), hPc_o (by omega) (by omega) (by omega), a0]
  · rw [hf _ _ (by omega) (by omega) (by omega) (by omega) (by omega), hPc_o (by omega) (by omega) (by omega), a1]
  · rw [hf _ _ (by omega) (by omega) (by omega) (by omega) (by omega), hPc_o (by omega) (by omega) (by omega), a2]
  · rw [hPc_3, e1]
  · rw [hf _ _ (by omega) (by omega) (by omega) (by omega) (by omega), hPc_o (by omega) (by omega) (by omega), a5]
  · rw [hPc_3] at hp'
    by_cases e : p' = p
    · subst e
      rw [en, e2]
    · rw [hf _ _ (by omega) (by omega) (by omega) (by omega) (by omega), hPc_o (by omega) (by omega) (by omega), a6 p' (by omega)]
  · rw [hPc_3] at hp'
    by_cases e : p' = p
    · subst e
      rw [en] at hk
      rw [hPc_s hk, e3 k hk]
    · rw [hPc_o (by omega) (by omega) (by omega)] at hk
      have := (hV.2.2.2.2.2.2.1 p' (by omega)).2
      rw [hf _ _ (by omega) (by omega) (by omega) (by omega) (by omega), hPc_o (by omega) (by omega) (by omega), a7 p' k (by omega) hk]
theorem pc_end {r p : Nat} {H : Nat → Nat} (hN : 5000 ≤ N) (hB : BTc σ t n) (hS : Sc σ τ) (h1 : τ 31 1 = nI i) (h2 : τ 31 2 = 0) (hi : i ≤ n) (hV : HV H) (h4 : H 4 = 0) (hC : C1h τ H) (hK : CK σ (pcR t n r p i H) Q) (hr : r = 0 ∨ ¬ (i < n ∧ t i = 116)) : j_X5_readPieces_55 N (fun (σ_5 : kS) => w_X5_readPupils N σ_5 39 (eC N Q)) 39 τ := by
  have hn := hB.1
  unfold j_X5_readPieces_55
  rw [lit_116, t_sees (hB.sc hS) h1 (by omega) h2 (by omega)]
  by_cases e : i < n ∧ t i = 116
  · rcases hr with hr | hr
    · subst hr
      have eR : pcR t n 0 p i H = (3, i, zFn) := by
        unfold pcR; rw [if_pos e]
      rw [eR] at hK
      rw [if_pos e]
      have r1 : w_X5_refuse N τ 3 (fun σ_15 => w_X5_readPupils N σ_15 39 (eC N Q)) = w_X5_readPupils N (fltS τ 3 i) 39 (eC N Q) := t_refuse (k := 3) h1 h2
      have hz := FZ_mk (k := 3) hB hS h1 (by omega) (by omega)
      simp only [z10, if_false]
      rw [r1, rpupF hN hz.2.2.2, eCF (by rw [FB_39]; exact hz.2.2.2)]
      exact hK.f rfl rfl (by omega) (hz.st (by omega))
    · exact absurd e hr
  · have eR : pcR t n r p i H = ppR t n 5 0 i H := by
      cases r with
      | zero => unfold pcR; rw [if_neg e]
      | succ r => unfold pcR; rw [if_neg e]
    rw [eR] at hK
    rw [if_neg e, if_pos rfl]
    exact rpup_ok hN hB hS h1 h2 hi hV h4 hC hK
theorem l_pcs (hN : 5000 ≤ N) (hB : BTc σ t n) : ∀ (r p i f : Nat) (H : Nat → Nat) (τ : kS), r + p = 4 → r < f → Sc σ τ → τ 31 1 = nI i → τ 31 2 = 0 → i ≤ n → HV H → H 3 = p → H 4 = 0 → C1h τ H → CK σ (pcR t n r p i H) Q → l_X5_readPieces_7 N (fun (σ_5 : kS) => w_X5_readPupils N σ_5 39 (eC N Q)) 39 (fun (σ_12 : kS) => j_X5_readPieces_55 N (fun (σ_5 : kS) => w_X5_readPupils N σ_5 39 (eC N Q)) 39 σ_12) f (nI p) τ := by
  have hn := hB.1
  intro r
  induction r with
  | zero =>
    intro p i f H τ hp hf hS h1 h2 hi hV h3 h4 hC hK
    obtain ⟨f, rfl⟩ : ∃ j, f = j + 1 := ⟨f - 1, by omega⟩
    show b_X5_readPieces_7 N _ 39 _ _ (nI p) τ
    unfold b_X5_readPieces_7
    rw [lit_4, if_pos ((z_le (by omega) (by omega)).mpr (by omega))]
    exact pc_end hN hB hS h1 h2 hi hV h4 hC hK (Or.inl rfl)
  | succ r ih =>
    intro p i f H τ hp hf hS h1 h2 hi hV h3 h4 hC hK
    obtain ⟨f, rfl⟩ : ∃ j, f = j + 1 := ⟨f - 1, by omega⟩
    obtain ⟨g, hg⟩ : ∃ j, f = j + 1 := ⟨f - 1, by omega⟩
    have hBt := hB.sc hS
    have h0 := hV.1
    show b_X5_readPieces_7 N _ 39 _ _ (nI p) τ
    unfold b_X5_readPieces_7
    rw [lit_4, if_neg (fun q => absurd ((z_le (by omega) (by omega)).mp q) (by omega)), lit_116, t_sees hBt h1 (by omega) h2 (by omega)]
    by_cases e : i < n ∧ t i = 116
    · rw [if_pos e]
      simp only [z10, if_false]
      rw [t_takeB hBt h1 (by omega) h2 (by omega), if_pos e]
      obtain ⟨S, hSd⟩ : ∃ S, S = slR t n (H 0) (i + 1) 8 0 := ⟨_, rfl⟩
      have hK2 : CK σ (if S = 0 then (1, i + 1, zFn) else pBy t n 59 (i + 1 + S) (fun i2 => pcR t n r (p + 1) i2 (hPc t H p S (i + 1)))) Q := by
        have : pcR t n (r + 1) p i H = if i < n ∧ t i = 116 then (if slR t n (H 0) (i + 1) 8 0 = 0 then (1, i + 1, zFn) else pBy t n 59 (i + 1 + slR t n (H 0) (i + 1) 8 0) (fun i2 => pcR t n r (p + 1) i2 (hPc t H p (slR t n (H 0) (i + 1) 8 0) (i + 1)))) else ppR t n 5 0 i H := rfl
        rw [this, if_pos e, ← hSd] at hK
        exact hK
      have so := sl_ok (t := t) (n := n) (K := H 0) (i0 := i + 1) 8 0 (fun k hk => by omega)
      rw [← hSd] at so
      obtain ⟨τ1, hτ1⟩ : ∃ τ1, τ1 = st2 τ 31 1 (nI (i + 1)) := ⟨_, rfl⟩
      rw [← hτ1]
      have S1 : Sc σ τ1 := by rw [hτ1]; exact hS.st (by unfold scr; omega)
      have p1 : τ1 31 1 = nI (i + 1) := by rw [hτ1, st2_app, if_pos ⟨rfl, rfl⟩]
      have f1 : τ1 31 2 = 0 := by rw [hτ1, st2_app, if_neg (by omega), h2]
      have k1 : τ1 39 5 = nI (H 0) := by rw [hτ1, st2_app, if_neg (by omega), hC.1]
      have vp : vp_in (nI p) 4 := vp_in_nI (by omega) (by decide)
      have cp : (nI p).toNatClampNeg = p := nI_clamp (by omega)
      have ep : nI p + 1 = nI (p + 1) := by rw [lit_1, nI_add]
      unfold w_X5_readStrings
      rw [lit_0]
      refine l_str (τ0 := τ1) (K := H 0) (i0 := i + 1) hB (by omega) (by omega) 8 0 N τ1 (by omega) (by omega) S1 p1 f1 (by omega) k1 (fun _ _ _ _ => rfl) (fun k hk => by omega) ?_
      rw [← hSd]
      intro υ uS u1 u2 uF us
      have hil : i + 1 + S ≤ n := by
        by_cases z : S = 0
        · omega
        · have := (so.2.2 (S - 1) (by omega)).1
          omega
      have u9 : υ 39 9 = nI p := by rw [uF 39 9 (by omega) (by omega), hτ1, st2_app, if_neg (by omega), hC.2.2.2.1, h3]
      unfold j_X5_readStrings_53
      by_cases z : S = 0
      · rw [if_pos z] at hK2
        rw [if_pos (by rw [z]; rfl)]
        have r1 : ∀ Qv, w_X5_refuse N υ 1 Qv = Qv (fltS υ 1 (i + 1 + S)) := fun Qv => t_refuse (k := 1) u1 u2
        have hz := FZ_mk (k := 1) hB uS u1 (by omega) (by omega)
        have hf' := hz.2.2.2
        subst hg
        rw [r1]
        simp only [vp, cp, true_and, forall_eq, t_takeBF, lpcF, j55F, rpupF hN, eCF, FB_39, FB_st (show 39 ≤ 39 + 1 by omega), hf']
        exact hK2.f rfl (show i + 1 = i + 1 + S by omega) (by omega) (((hz.st (by omega)).st (by omega)).st (by omega))
      · rw [if_neg z] at hK2
        rw [if_neg (nI_ne0 (show 0 < S by omega) (by omega))]
        simp only [vp, cp, true_and, forall_eq]
        try rw [show (39 + 1 : Nat) = 40 from rfl]
        obtain ⟨τ2, hτ2⟩ : ∃ τ2, τ2 = st2 υ 40 p (nI S) := ⟨_, rfl⟩
        rw [← hτ2]
        have S2 : Sc σ τ2 := by rw [hτ2]; exact uS.st (by unfold scr; omega)
        have p2 : τ2 31 1 = nI (i + 1 + S) := by rw [hτ2, st2_app, if_neg (by omega), u1]
        have f2 : τ2 31 2 = 0 := by rw [hτ2, st2_app, if_neg (by omega), u2]
        rw [lit_59, t_takeB (hB.sc S2) p2 (by omega) f2 (by omega)]
        by_cases a3 : i + 1 + S < n ∧ t (i + 1 + S) = 59
        · rw [if_pos a3]
          rw [pBy_t a3] at hK2
          have o5 : st2 τ2 31 1 (nI (i + 1 + S + 1)) 39 9 = nI p := by rw [st2_app, if_neg (by omega), hτ2, st2_app, if_neg (by omega), u9]
          try simp only [forall_eq]
          rw [o5, ep]
          refine ih (p + 1) (i + 1 + S + 1) f (hPc t H p S (i + 1)) _ (by omega) (by omega) ((S2.st (by unfold scr; omega)).st (by unfold scr; omega)) ?_ ?_ (by omega) (HV_pc hV h3 (by omega) h4 (by omega) (fun k hk => (so.2.2 k hk).2)) hPc_3 ?_ (C1_pc (τ := τ) (fun c j q1 q2 q3 q4 q5 => ?_) ?_ ?_ (fun k hk => ?_) hC hV h3 (by omega) (by omega)) hK2
          · rw [st2_app, if_neg (by omega), st2_app, if_pos ⟨rfl, rfl⟩]
          · rw [st2_app, if_neg (by omega), st2_app, if_neg (by omega), f2]
          · rw [hPc_o (by omega) (by omega) (by omega), h4]
          · rw [st2_app, if_neg (by omega), st2_app, if_neg (by omega), hτ2, st2_app, if_neg (by omega), uF c j (by omega) q5, hτ1, st2_app, if_neg (by omega)]
          · rw [st2_app, if_pos ⟨rfl, rfl⟩]
          · rw [st2_app, if_neg (by omega), st2_app, if_neg (by omega), hτ2, st2_app, if_pos ⟨rfl, rfl⟩]
          · rw [st2_app, if_neg (by omega), st2_app, if_neg (by omega), hτ2, st2_app, if_neg (by omega), us k hk]
        · rw [if_neg a3]
          rw [pBy_f a3] at hK2
          have hz := FZ_mk (k := 1) hB S2 p2 (by omega) (by omega)
          have hf' := hz.2.2.2
          subst hg
          simp only [forall_eq, lpcF, j55F, rpupF hN, eCF, FB_39, hf']
          exact hK2.f rfl rfl (by omega) ((hz.st (by omega)).st (by omega))
    · rw [if_neg e, if_pos rfl]
      exact pc_end hN hB hS h1 h2 hi hV h4 hC hK (Or.inr e)
theorem rpc_ok {H : Nat → Nat} (hN : 5000 ≤ N) (hB : BTc σ t n) (hS : Sc σ τ) (h1 : τ 31 1 = nI i) (h2 : τ 31 2 = 0) (hi : i ≤ n) (hV : HV H) (h3 : H 3 = 0) (h4 : H 4 = 0) (a0 : τ 39 5 = nI (H 0)) (a1 : τ 39 6 = nI (H 1)) (a2 : τ 39 7 = nI (H 2)) (a5 : τ 39 8 = nI (H 5)) (hK : CK σ (pcR t n 4 0 i H) Q) : w_X5_readPieces N τ 39 (fun (σ_5 : kS) => w_X5_readPupils N σ_5 39 (eC N Q)) := by
  unfold w_X5_readPieces
  simp only [forall_eq]
  rw [lit_0]
  refine l_pcs hN hB 4 0 i N H _ (by omega) (by omega) (hS.st (by unfold scr; omega)) ?_ ?_ hi hV h3 h4 ⟨?_, ?_, ?_, ?_, ?_, fun p hp => by omega, fun p k hp => by omega⟩ hK
  · rw [st2_app, if_neg (by omega), h1]
  · rw [st2_app, if_neg (by omega), h2]
  · rw [st2_app, if_neg (by omega), a0]
  · rw [st2_app, if_neg (by omega), a1]
  · rw [st2_app, if_neg (by omega), a2]
  · rw [st2_app, if_pos ⟨rfl, rfl⟩, h3]
  · rw [st2_app, if_neg (by omega), a5]
theorem rlaw_ok (hN : 5000 ≤ N) (hB : BTc σ t n) (hS : Sc σ τ) (h1 : τ 31 1 = nI 0) (h2 : τ 31 2 = 0) (hK : CK σ (prs t n) Q) : w_X5_readLaw N τ 39 (fun (σ_3 : kS) => w_X5_readPieces N σ_3 39 (fun (σ_5 : kS) => w_X5_readPupils N σ_5 39 (eC N Q))) := by
  have hn := hB.1
  unfold w_X5_readLaw
  unfold prs at hK
  rw [lit_107, t_takeB (hB.sc hS) h1 (by omega) h2 (by omega)]
  by_cases b1 : 0 < n ∧ t 0 = 107
  · rw [if_pos b1]
    rw [pBy_t b1] at hK
    obtain ⟨τ1, hτ1⟩ : ∃ τ1, τ1 = st2 τ 31 1 (nI (0 + 1)) := ⟨_, rfl⟩
    rw [← hτ1]
    have S1 : Sc σ τ1 := by rw [hτ1]; exact hS.st (by unfold scr; omega)
    have p1 : τ1 31 1 = nI (0 + 1) := by rw [hτ1, st2_app, if_pos ⟨rfl, rfl⟩]
    have f1 : τ1 31 2 = 0 := by rw [hτ1, st2_app, if_neg (by omega), h2]
    rw [lit_2, lit_12, t_takeN hN (hB.sc S1) p1 (by omega) f1 (by omega) (by omega)]
    by_cases c1 : figN t n (0 + 1) = 1 ∨ figN t n (0 + 1) = 2
    · rw [if_pos c1]
      by_cases d1 : 2 ≤ vlN t n (0 + 1) ∧ vlN t n (0 + 1) ≤ 12
      · rw [if_pos d1]
        rw [pNu_t c1 d1] at hK
        have il1 : 0 + 1 + figN t n (0 + 1) ≤ n := (fig_le (t := t) (n := n) (i := 0 + 1) (by omega)).resolve_right (by omega)
        obtain ⟨K, hKd⟩ : ∃ K, K = vlN t n (0 + 1) := ⟨_, rfl⟩
        obtain ⟨i2, hi2⟩ : ∃ i2, i2 = 0 + 1 + figN t n (0 + 1) := ⟨_, rfl⟩
        rw [← hKd, ← hi2] at hK ⊢
        rw [← hi2] at il1
        rw [← hKd] at d1
        try simp only [forall_eq]
        obtain ⟨τ2, hτ2⟩ : ∃ τ2, τ2 = st2 (st2 τ1 31 1 (nI i2)) 39 5 (nI K) := ⟨_, rfl⟩
        rw [← hτ2]
        have S2 : Sc σ τ2 := by rw [hτ2]; exact (S1.st (by unfold scr; omega)).st (by unfold scr; omega)
        have p2 : τ2 31 1 = nI i2 := by rw [hτ2, st2_app, if_neg (by omega), st2_app, if_pos ⟨rfl, rfl⟩]
        have f2 : τ2 31 2 = 0 := by rw [hτ2, st2_app, if_neg (by omega), st2_app, if_neg (by omega), f1]
        have g2 : τ2 39 5 = nI K := by rw [hτ2, st2_app, if_pos ⟨rfl, rfl⟩]
        rw [lit_44, t_takeB (hB.sc S2) p2 (by omega) f2 (by omega)]
        by_cases b2 : i2 < n ∧ t i2 = 44
        · rw [if_pos b2]
          rw [pBy_t b2] at hK
          obtain ⟨τ3, hτ3⟩ : ∃ τ3, τ3 = st2 τ2 31 1 (nI (i2 + 1)) := ⟨_, rfl⟩
          rw [← hτ3]
          have S3 : Sc σ τ3 := by rw [hτ3]; exact S2.st (by unfold scr; omega)
          have p3 : τ3 31 1 = nI (i2 + 1) := by rw [hτ3, st2_app, if_pos ⟨rfl, rfl⟩]
          have f3 : τ3 31 2 = 0 := by rw [hτ3, st2_app, if_neg (by omega), f2]
          have g3 : τ3 39 5 = nI K := by rw [hτ3, st2_app, if_neg (by omega), g2]
          have k3 : τ3 39 5 - 1 = nI (K - 1) := by rw [g3, lit_1, pk_sub (by omega)]
          rw [k3, lit_0, t_takeN hN (hB.sc S3) p3 (by omega) f3 (by omega) (by omega)]
          by_cases c2 : figN t n (i2 + 1) = 1 ∨ figN t n (i2 + 1) = 2
          · rw [if_pos c2]
            by_cases d2 : 0 ≤ vlN t n (i2 + 1) ∧ vlN t n (i2 + 1) ≤ K - 1
            · rw [if_pos d2]
              rw [pNu_t c2 d2] at hK
              have il2 : i2 + 1 + figN t n (i2 + 1) ≤ n := (fig_le (t := t) (n := n) (i := i2 + 1) (by omega)).resolve_right (by omega)
              obtain ⟨d, hd⟩ : ∃ d, d = vlN t n (i2 + 1) := ⟨_, rfl⟩
              obtain ⟨i4, hi4⟩ : ∃ i4, i4 = i2 + 1 + figN t n (i2 + 1) := ⟨_, rfl⟩
              rw [← hd, ← hi4] at hK ⊢
              rw [← hi4] at il2
              rw [← hd] at d2
              try simp only [forall_eq]
              obtain ⟨τ4, hτ4⟩ : ∃ τ4, τ4 = st2 (st2 τ3 31 1 (nI i4)) 39 6 (nI d) := ⟨_, rfl⟩
              rw [← hτ4]
              have S4 : Sc σ τ4 := by rw [hτ4]; exact (S3.st (by unfold scr; omega)).st (by unfold scr; omega)
              have p4 : τ4 31 1 = nI i4 := by rw [hτ4, st2_app, if_neg (by omega), st2_app, if_pos ⟨rfl, rfl⟩]
              have f4 : τ4 31 2 = 0 := by rw [hτ4, st2_app, if_neg (by omega), st2_app, if_neg (by omega), f3]
              have g4 : τ4 39 5 = nI K := by rw [hτ4, st2_app, if_neg (by omega), st2_app, if_neg (by omega), g3]
              have e4 : τ4 39 6 = nI d := by rw [hτ4, st2_app, if_pos ⟨rfl, rfl⟩]
              rw [t_takeB (hB.sc S4) p4 (by omega) f4 (by omega)]
              by_cases b3 : i4 < n ∧ t i4 = 44
              · rw [if_pos b3]
                rw [pBy_t b3] at hK
                obtain ⟨τ5, hτ5⟩ : ∃ τ5, τ5 = st2 τ4 31 1 (nI (i4 + 1)) := ⟨_, rfl⟩
                rw [← hτ5]
                have S5 : Sc σ τ5 := by rw [hτ5]; exact S4.st (by unfold scr; omega)
                have p5 : τ5 31 1 = nI (i4 + 1) := by rw [hτ5, st2_app, if_pos ⟨rfl, rfl⟩]
                have f5 : τ5 31 2 = 0 := by rw [hτ5, st2_app, if_neg (by omega), f4]
                have g5 : τ5 39 5 = nI K := by rw [hτ5, st2_app, if_neg (by omega), g4]
                have e5 : τ5 39 6 = nI d := by rw [hτ5, st2_app, if_neg (by omega), e4]
                have k5 : τ5 39 5 - 1 = nI (K - 1) := by rw [g5, lit_1, pk_sub (by omega)]
                rw [k5, t_takeN hN (hB.sc S5) p5 (by omega) f5 (by omega) (by omega)]
                by_cases c3 : figN t n (i4 + 1) = 1 ∨ figN t n (i4 + 1) = 2
                · rw [if_pos c3]
                  by_cases d3 : 0 ≤ vlN t n (i4 + 1) ∧ vlN t n (i4 + 1) ≤ K - 1
                  · rw [if_pos d3]
                    rw [pNu_t c3 d3] at hK
                    have il3 : i4 + 1 + figN t n (i4 + 1) ≤ n := (fig_le (t := t) (n := n) (i := i4 + 1) (by omega)).resolve_right (by omega)
                    obtain ⟨s, hs⟩ : ∃ s, s = vlN t n (i4 + 1) := ⟨_, rfl⟩
                    obtain ⟨i6, hi6⟩ : ∃ i6, i6 = i4 + 1 + figN t n (i4 + 1) := ⟨_, rfl⟩
                    rw [← hs, ← hi6] at hK ⊢
                    rw [← hi6] at il3
                    rw [← hs] at d3
                    try simp only [forall_eq]
                    obtain ⟨τ6, hτ6⟩ : ∃ τ6, τ6 = st2 (st2 τ5 31 1 (nI i6)) 39 7 (nI s) := ⟨_, rfl⟩
                    rw [← hτ6]
                    have S6 : Sc σ τ6 := by rw [hτ6]; exact (S5.st (by unfold scr; omega)).st (by unfold scr; omega)
                    have p6 : τ6 31 1 = nI i6 := by rw [hτ6, st2_app, if_neg (by omega), st2_app, if_pos ⟨rfl, rfl⟩]
                    have f6 : τ6 31 2 = 0 := by rw [hτ6, st2_app, if_neg (by omega), st2_app, if_neg (by omega), f5]
                    have g6 : τ6 39 5 = nI K := by rw [hτ6, st2_app, if_neg (by omega), st2_app, if_neg (by omega), g5]
                    have e6 : τ6 39 6 = nI d := by rw [hτ6, st2_app, if_neg (by omega), st2_app, if_neg (by omega), e5]
                    have s6 : τ6 39 7 = nI s := by rw [hτ6, st2_app, if_pos ⟨rfl, rfl⟩]
                    rw [lit_59, t_takeB (hB.sc S6) p6 (by omega) f6 (by omega)]
                    by_cases b4 : i6 < n ∧ t i6 = 59
                    · rw [if_pos b4]
                      rw [pBy_t b4] at hK
                      try simp only [forall_eq]
                      refine rpc_ok hN hB ((S6.st (by unfold scr; omega)).st (by unfold scr; omega)) (i := i6 + 1) ?_ ?_ (by omega) (HV_lw d1 (by omega) (by omega)) rfl rfl ?_ ?_ ?_ ?_ hK
                      · rw [st2_app, if_neg (by omega), st2_app, if_pos ⟨rfl, rfl⟩]
                      · rw [st2_app, if_neg (by omega), st2_app, if_neg (by omega), f6]
                      · rw [st2_app, if_neg (by omega), st2_app, if_neg (by omega), g6]
                        rfl
                      · rw [st2_app, if_neg (by omega), st2_app, if_neg (by omega), e6]
                        rfl
                      · rw [st2_app, if_neg (by omega), st2_app, if_neg (by omega), s6]
                        rfl
                      · rw [st2_app, if_pos ⟨rfl, rfl⟩]
                        rfl
                    · rw [if_neg b4]
                      rw [pBy_f b4] at hK
                      have hz := FZ_mk (k := 1) hB S6 p6 (by omega) (by omega)
                      have hf' := hz.2.2.2
                      simp only [forall_eq, rpcF hN, rpupF hN, eCF, FB_39, hf']
                      exact hK.f rfl rfl (by omega) (((hz.st (by omega)).st (by omega)).st (by omega))
                  · rw [if_neg d3]
                    rw [pNu_2 c3 d3] at hK
                    have hz := FZ_mk (k := 2) hB S5 p5 (by omega) (by omega)
                    have hf' := hz.2.2.2
                    simp only [forall_eq, t_takeBF, rpcF hN, rpupF hN, eCF, FB_39, hf']
                    exact hK.f rfl rfl (by omega) ((((hz.st (by omega)).st (by omega)).st (by omega)).st (by omega))
                · rw [if_neg c3]
                  rw [pNu_1 c3] at hK
                  have hz := FZ_mk (k := 1) hB S5 p5 (by omega) (by omega)
                  have hf' := hz.2.2.2
                  simp only [forall_eq, t_takeBF, rpcF hN, rpupF hN, eCF, FB_39, hf']
                  exact hK.f rfl rfl (by omega) ((((hz.st (by omega)).st (by omega)).st (by omega)).st (by omega))
              · rw [if_neg b3]
                rw [pBy_f b3] at hK
                have hz := FZ_mk (k := 1) hB S4 p4 (by omega) (by omega)
                have hf' := hz.2.2.2
                simp only [forall_eq, t_takeBF, t_takeNF hN, rpcF hN, rpupF hN, eCF, FB_39, hf']
                exact hK.f rfl rfl (by omega) ((((hz.st (by omega)).st (by omega)).st (by omega)).st (by omega))
            · rw [if_neg d2]
              rw [pNu_2 c2 d2] at hK
              have hz := FZ_mk (k := 2) hB S3 p3 (by omega) (by omega)
              have hf' := hz.2.2.2
              simp only [forall_eq, t_takeBF, t_takeNF hN, rpcF hN, rpupF hN, eCF, FB_39, hf']
              exact hK.f rfl rfl (by omega) (((((hz.st (by omega)).st (by omega)).st (by omega)).st (by omega)).st (by omega))
          · rw [if_neg c2]
            rw [pNu_1 c2] at hK
            have hz := FZ_mk (k := 1) hB S3 p3 (by omega) (by omega)
            have hf' := hz.2.2.2
            simp only [forall_eq, t_takeBF, t_takeNF hN, rpcF hN, rpupF hN, eCF, FB_39, hf']
            exact hK.f rfl rfl (by omega) (((((hz.st (by omega)).st (by omega)).st (by omega)).st (by omega)).st (by omega))
        · rw [if_neg b2]
          rw [pBy_f b2] at hK
          have hz := FZ_mk (k := 1) hB S2 p2 (by omega) (by omega)
          have hf' := hz.2.2.2
          simp only [forall_eq, t_takeBF, t_takeNF hN, rpcF hN, rpupF hN, eCF, FB_39, hf']
          exact hK.f rfl rfl (by omega) (((((hz.st (by omega)).st (by omega)).st (by omega)).st (by omega)).st (by omega))
      · rw [if_neg d1]
        rw [pNu_2 c1 d1] at hK
        have hz := FZ_mk (k := 2) hB S1 p1 (by omega) (by omega)
        have hf' := hz.2.2.2
        simp only [forall_eq, t_takeBF, t_takeNF hN, rpcF hN, rpupF hN, eCF, FB_39, hf']
        exact hK.f rfl rfl (by omega) ((((((hz.st (by omega)).st (by omega)).st (by omega)).st (by omega)).st (by omega)).st (by omega))
    · rw [if_neg c1]
      rw [pNu_1 c1] at hK
      have hz := FZ_mk (k := 1) hB S1 p1 (by omega) (by omega)
      have hf' := hz.2.2.2
      simp only [forall_eq, t_takeBF, t_takeNF hN, rpcF hN, rpupF hN, eCF, FB_39, hf']
      exact hK.f rfl rfl (by omega) ((((((hz.st (by omega)).st (by omega)).st (by omega)).st (by omega)).st (by omega)).st (by omega))
  · rw [if_neg b1]
    rw [pBy_f b1] at hK
    have hz := FZ_mk (k := 1) hB hS h1 (by omega) (by omega)
    have hf' := hz.2.2.2
    simp only [forall_eq, t_takeBF, t_takeNF hN, rpcF hN, rpupF hN, eCF, FB_39, hf']
    exact hK.f rfl rfl (by omega) ((((((hz.st (by omega)).st (by omega)).st (by omega)).st (by omega)).st (by omega)).st (by omega))
theorem t_readInto (hN : 5000 ≤ N) (hB : BTc σ t n) (hK : CK σ (prs t n) Q) : w_X5_readInto N σ 39 Q := by
  unfold w_X5_readInto
  simp only [forall_eq]
  refine rlaw_ok hN hB ((Sc.rf.st (by unfold scr; omega)).st (by unfold scr; omega)) ?_ ?_ hK
  · rw [st2_app, if_neg (by omega), st2_app, if_pos ⟨rfl, rfl⟩]
    rfl
  · rw [st2_app, if_pos ⟨rfl, rfl⟩]
end RD
