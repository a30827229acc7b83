/-! ===== hall: the class reads ===== -/
theorem pBy_t {t : Nat → Nat} {n c i : Nat} {f : Nat → PRs} (h : i < n ∧ t i = c) : pBy t n c i f = f (i + 1) := if_pos h
theorem pBy_f {t : Nat → Nat} {n c i : Nat} {f : Nat → PRs} (h : ¬ (i < n ∧ t i = c)) : pBy t n c i f = (1, i, zFn) := if_neg h
theorem pNu_t {t : Nat → Nat} {n lo hi i : Nat} {f : Nat → Nat → PRs} (h : figN t n i = 1 ∨ figN t n i = 2) (h2 : lo ≤ vlN t n i ∧ vlN t n i ≤ hi) : pNu t n lo hi i f = f (vlN t n i) (i + figN t n i) := (if_pos h).trans (if_pos h2)
theorem pNu_2 {t : Nat → Nat} {n lo hi i : Nat} {f : Nat → Nat → PRs} (h : figN t n i = 1 ∨ figN t n i = 2) (h2 : ¬ (lo ≤ vlN t n i ∧ vlN t n i ≤ hi)) : pNu t n lo hi i f = (2, i, zFn) := (if_pos h).trans (if_neg h2)
theorem pNu_1 {t : Nat → Nat} {n lo hi i : Nat} {f : Nat → Nat → PRs} (h : ¬ (figN t n i = 1 ∨ figN t n i = 2)) : pNu t n lo hi i f = (1, i, zFn) := if_neg h
def Fc (σ τ : kS) : Prop := ∀ c j, ¬ scr c j → ¬ (c = 31 ∧ j = 5) → τ c j = σ c j
def CK (σ : kS) (R : PRs) (Q : Int32 → kS → Prop) : Prop := (R.1 = 0 → ∀ υ, Sc σ υ → CH υ 39 R.2.2 → HV R.2.2 → Q 1 υ) ∧ (R.1 ≠ 0 → ∀ υ, Fc σ υ → υ 31 4 = nI R.2.1 → υ 31 5 = nI R.1 → Q 0 υ)
def FZ (σ τ : kS) (k i : Nat) : Prop := Fc σ τ ∧ τ 31 4 = nI i ∧ τ 31 5 = nI k ∧ FB τ
theorem FZ.st {σ τ : kS} {k i c j : Nat} {v : Int32} (hc : 39 ≤ c ∧ c ≤ 44) (h : FZ σ τ k i) : FZ σ (st2 τ c j v) k i := by
  obtain ⟨a, b, d, e⟩ := h
  refine ⟨fun c' j' h1 h2 => ?_, ?_, ?_, ?_⟩
  · rw [st2_app, if_neg (fun q => h1 (by unfold scr; omega)), a c' j' h1 h2]
  · rw [st2_app, if_neg (by omega), b]
  · rw [st2_app, if_neg (by omega), d]
  · rw [FB_st (by omega)]; exact e
theorem BTc.sc {σ τ : kS} {t : Nat → Nat} {n : Nat} (h : Sc σ τ) (hB : BTc σ t n) : BTc τ t n := by
  refine ⟨hB.1, ?_, fun i hi => ?_⟩
  · rw [h 31 3 (by unfold scr; omega), hB.2.1]
  · rw [h 32 i (by unfold scr; omega)]; exact hB.2.2 i hi
theorem FZ_mk {σ τ : kS} {t : Nat → Nat} {n k i : Nat} (hB : BTc σ t n) (hS : Sc σ τ) (h1 : τ 31 1 = nI i) (hi : i ≤ 120) (hk : 1 ≤ k ∧ k ≤ 3) : FZ σ (fltS τ k i) k i := by
  unfold fltS
  refine ⟨fun c j q1 q2 => ?_, ?_, ?_, t, n, i, ⟨hB.1, ?_, fun j hj => ?_⟩, hi, ?_, ?_⟩
  · rw [st2_app, if_neg q2, st2_app, if_neg (fun q => q1 (by unfold scr; omega)), st2_app, if_neg (fun q => q1 (by unfold scr; omega)), hS c j q1]
  · rw [st2_app, if_neg (by omega), st2_app, if_pos ⟨rfl, rfl⟩]
  · rw [st2_app, if_pos ⟨rfl, rfl⟩]
  · rw [st2_app, if_neg (by omega), st2_app, if_neg (by omega), st2_app, if_neg (by omega)]
    exact (hB.sc hS).2.1
  · rw [st2_app, if_neg (by omega), st2_app, if_neg (by omega), st2_app, if_neg (by omega)]
    exact (hB.sc hS).2.2 j hj
  · rw [st2_app, if_neg (by omega), st2_app, if_neg (by omega), st2_app, if_neg (by omega), h1]
  · rw [st2_app, if_neg (by omega), st2_app, if_neg (by omega), st2_app, if_pos ⟨rfl, rfl⟩]
    exact nI_ne0 (by omega) (by omega)
theorem CK.f {σ υ : kS} {R : PRs} {Q : Int32 → kS → Prop} {k i : Nat} (h : CK σ R Q) (e1 : R.1 = k) (e2 : R.2.1 = i) (hk : k ≠ 0) (hz : FZ σ υ k i) : Q 0 υ := by
  refine h.2 (by omega) υ hz.1 ?_ ?_
  · rw [e2]; exact hz.2.1
  · rw [e1]; exact hz.2.2.1
def eC (N : Nat) (Q : Int32 → kS → Prop) (σ : kS) : Prop := if (σ 31 2) = 0 then (if (σ 31 3) ≤ (σ 31 1) then (j_X5_readInto_48 N Q 39 σ) else (w_X5_refuse N σ 1 (fun (σ_9 : kS) => j_X5_readInto_48 N Q 39 σ_9))) else (j_X5_readInto_48 N Q 39 σ)
section RC
variable {N : Nat} {σ τ : kS} {t : Nat → Nat} {n i : Nat} {Q : Int32 → kS → Prop} {Qv : kS → Prop} {Es : kS → Prop}
theorem eCF (h : FB τ) : eC N Q τ = Q 0 τ := by
  unfold eC j_X5_readInto_48
  rw [if_neg h.f]
  exact if_neg h.f
theorem eC_ok (hB : BTc σ t n) (hS : Sc σ τ) (h1 : τ 31 1 = nI i) (h2 : τ 31 2 = 0) (hi : i ≤ n) : eC N Q τ = if i < n then Q 0 (fltS τ 1 i) else Q 1 τ := by
  have hn := hB.1
  unfold eC
  rw [if_pos h2, (hB.sc hS).2.1, h1]
  have hz := (FZ_mk (k := 1) hB hS h1 (by omega) (by omega)).2.2.2.f
  have r1 : w_X5_refuse N τ 1 (fun σ_9 => j_X5_readInto_48 N Q 39 σ_9) = j_X5_readInto_48 N Q 39 (fltS τ 1 i) := t_refuse (k := 1) h1 h2
  rw [r1]
  unfold j_X5_readInto_48
  rw [if_pos h2, if_neg hz]
  by_cases e : i < n
  · rw [if_neg (fun q => absurd ((z_le (by omega) (by omega)).mp q) (by omega)), if_pos e]
  · rw [if_pos ((z_le (by omega) (by omega)).mpr (by omega)), if_neg e]
theorem j100F (h : FB τ) : j_X5_readPupils_100 N Qv 39 τ = Qv τ := by
  unfold j_X5_readPupils_100
  rw [t_seesSoF h, if_pos rfl]
theorem lpupF {f : Nat} {x : Int32} (h : FB τ) : l_X5_readPupils_7 N Qv 39 Es (f + 1) x τ = Es τ := by
  show b_X5_readPupils_7 N Qv 39 Es _ x τ = _
  unfold b_X5_readPupils_7
  rw [t_seesSoF h, if_pos rfl]
  split <;> rfl
theorem rpupF (hN : 5000 ≤ N) (h : FB τ) : w_X5_readPupils N τ 39 Qv = Qv (st2 τ 39 10 0) := by
  obtain ⟨m, hm⟩ : ∃ m, N = m + 1 := ⟨N - 1, by omega⟩
  have h2 : FB (st2 τ 39 10 0) := by rw [FB_39]; exact h
  unfold w_X5_readPupils
  simp only [forall_eq]
  have e : ∀ E, l_X5_readPupils_7 N Qv 39 E N 0 (st2 τ 39 10 0) = E (st2 τ 39 10 0) := fun E => by
    conv => lhs; rw [show l_X5_readPupils_7 N Qv 39 E N = l_X5_readPupils_7 N Qv 39 E (m + 1) by rw [← hm]]
    exact lpupF h2
  rw [e, j100F h2]
theorem j55F (h : FB τ) : j_X5_readPieces_55 N Qv 39 τ = Qv τ := by
  unfold j_X5_readPieces_55
  rw [t_seesF' h, if_pos rfl]
theorem lpcF {f : Nat} {x : Int32} (h : FB τ) : l_X5_readPieces_7 N Qv 39 Es (f + 1) x τ = Es τ := by
  show b_X5_readPieces_7 N Qv 39 Es _ x τ = _
  unfold b_X5_readPieces_7
  rw [t_seesF' h, if_pos rfl]
  split <;> rfl
theorem rpcF (hN : 5000 ≤ N) (h : FB τ) : w_X5_readPieces N τ 39 Qv = Qv (st2 τ 39 9 0) := by
  obtain ⟨m, hm⟩ : ∃ m, N = m + 1 := ⟨N - 1, by omega⟩
  have h2 : FB (st2 τ 39 9 0) := by rw [FB_39]; exact h
  unfold w_X5_readPieces
  simp only [forall_eq]
  have e : ∀ E, l_X5_readPieces_7 N Qv 39 E N 0 (st2 τ 39 9 0) = E (st2 τ 39 9 0) := fun E => by
    conv => lhs; rw [show l_X5_readPieces_7 N Qv 39 E N = l_X5_readPieces_7 N Qv 39 E (m + 1) by rw [← hm]]
    exact lpcF h2
  rw [e, j55F h2]
theorem CH_pp {τ' : kS} {H : Nat → Nat} {q k v w : Nat} (hf : ∀ c j, 39 ≤ c → c ≤ 44 → ¬ (42 ≤ c ∧ j = q) → ¬ (c = 39 ∧ j = 10) → τ' c j = τ c j) (e1 : τ' 42 q = nI k) (e2 : τ' 43 q = nI v) (e3 : τ' 44 q = nI w) (e4 : τ' 39 10 = nI (q + 1)) (hC : CH τ 39 H) (hV : HV H) (h4 : H 4 = q) (hq : q < 5) : CH τ' 39 (hPp H q k v w) := by
  obtain ⟨a0, a1, a2, a3, a4, a5, a6, a7, a8⟩ := hC
  have h3 := hV.2.2.2.1
  have eo : ∀ j, j ≠ 42 + q → j ≠ 47 + q → j ≠ 52 + q → j ≠ 4 → hPp H q k v w j = H j := fun j h1 h2 h3 h4 => by
    unfold hPp
    rw [if_neg h1, if_neg h2, if_neg h3, if_neg h4]
  have p4 : hPp H q k v w 4 = q + 1 := by
    unfold hPp
    rw [if_neg (by omega), if_neg (by omega), if_neg (by omega), if_pos rfl]
  refine ⟨?_, ?_, ?_, ?_, ?_, ?_, fun p hp => ?_, fun p j hp hj => ?_, fun q' hq' => ?_⟩
  · rw [hf 39 5 (by omega) (by omega) (by omega) (by omega), eo _ (by omega) (by omega) (by omega) (by omega), a0]
  · rw [hf 39 6 (by omega) (by omega) (by omega) (by omega), eo _ (by omega) (by omega) (by omega) (by omega), a1]
  · rw [hf 39 7 (by omega) (by omega) (by omega) (by omega), eo _ (by omega) (by omega) (by omega) (by omega), a2]
  · rw [hf 39 9 (by omega) (by omega) (by omega) (by omega), eo _ (by omega) (by omega) (by omega) (by omega), a3]
  · rw [p4, e4]
  · rw [hf 39 8 (by omega) (by omega) (by omega) (by omega), eo _ (by omega) (by omega) (by omega) (by omega), a5]
  · rw [eo 3 (by omega) (by omega) (by omega) (by omega)] at hp
    rw [hf _ _ (by omega) (by omega) (by omega) (by omega), eo _ (by omega) (by omega) (by omega) (by omega), a6 p hp]
  · rw [eo 3 (by omega) (by omega) (by omega) (by omega)] at hp
    rw [eo _ (by omega) (by omega) (by omega) (by omega)] at hj
    have := (hV.2.2.2.2.2.2.1 p hp).2
    rw [hf _ _ (by omega) (by omega) (by omega) (by omega), eo _ (by omega) (by omega) (by omega) (by omega), a7 p j hp hj]
  · rw [p4] at hq'
    by_cases e : q' = q
    · subst e
      unfold hPp
      rw [if_pos rfl, if_neg (by omega), if_pos rfl, if_neg (by omega), if_neg (by omega), if_pos rfl]
      exact ⟨e1, e2, e3⟩
    · rw [eo _ (by omega) (by omega) (by omega) (by omega), eo _ (by omega) (by omega) (by omega) (by omega), eo _ (by omega) (by omega) (by omega) (by omega), hf _ _ (by omega) (by omega) (by omega) (by omega), hf _ _ (by omega) (by omega) (by omega) (by omega), hf _ _ (by omega) (by omega) (by omega) (by omega)]
      exact a8 q' (by omega)
/-- where no pupil more is seen, or there is no room -/
theorem pup_end {r q : Nat} {H : Nat → Nat} (hB : BTc σ t n) (hS : Sc σ τ) (h1 : τ 31 1 = nI i) (h2 : τ 31 2 = 0) (hi : i ≤ n) (hV : HV H) (hC : CH τ 39 H) (hK : CK σ (ppR t n r q i H) Q) (hr : r = 0 ∨ ¬ (i < n ∧ kdN (t i) ≠ 0)) : j_X5_readPupils_100 N (eC N Q) 39 τ := by
  have hn := hB.1
  unfold j_X5_readPupils_100
  rw [t_seesSo (hB.sc hS) h1 (by omega) h2]
  by_cases e : i < n
  · by_cases f : kdN (t i) = 0
    · have eR : ppR t n r q i H = (1, i, zFn) := by
        cases r with
        | zero => unfold ppR; rw [if_pos e, if_pos f]
        | succ r => unfold ppR; rw [if_pos e, if_pos f]
      rw [if_neg (fun q => q.2 f), if_pos rfl, eC_ok hB hS h1 h2 hi, if_pos e]
      rw [eR] at hK
      exact hK.f rfl rfl (by omega) (FZ_mk hB hS h1 (by omega) (by omega))
    · rcases hr with hr | hr
      · subst hr
        have eR : ppR t n 0 q i H = (3, i, zFn) := by
          unfold ppR; rw [if_pos e, if_neg f]
        rw [eR] at hK
        rw [if_pos ⟨e, f⟩]
        have r1 : w_X5_refuse N τ 3 (fun σ_15 => eC N Q σ_15) = eC N Q (fltS τ 3 i) := t_refuse (k := 3) h1 h2
        have hz := FZ_mk (k := 3) hB hS h1 (by omega) (by omega)
        simp only [z10, if_false]
        rw [r1, eCF hz.2.2.2]
        exact hK.f rfl rfl (by omega) hz
      · exact absurd ⟨e, f⟩ hr
  · have eR : ppR t n r q i H = (0, i, H) := by
      cases r with
      | zero => unfold ppR; rw [if_neg e]
      | succ r => unfold ppR; rw [if_neg e]
    rw [if_neg (fun q => e q.1), if_pos rfl, eC_ok hB hS h1 h2 hi, if_neg e]
    rw [eR] at hK
    exact hK.1 rfl τ hS hC hV
theorem l_pup (hN : 5000 ≤ N) (hB : BTc σ t n) : ∀ (r q i f : Nat) (H : Nat → Nat) (τ : kS), r + q = 5 → r < f → Sc σ τ → τ 31 1 = nI i → τ 31 2 = 0 → i ≤ n → HV H → H 4 = q → CH τ 39 H → CK σ (ppR t n r q i H) Q → l_X5_readPupils_7 N (eC N Q) 39 (fun (σ_25 : kS) => j_X5_readPupils_100 N (eC N Q) 39 σ_25) f (nI q) τ := by
  have hn := hB.1
  intro r
  induction r with
  | zero =>
    intro q i f H τ hq hf hS h1 h2 hi hV h4 hC hK
    obtain ⟨f, rfl⟩ : ∃ j, f = j + 1 := ⟨f - 1, by omega⟩
    show b_X5_readPupils_7 N (eC N Q) 39 _ _ (nI q) τ
    unfold b_X5_readPupils_7
    rw [lit_5, if_pos ((z_le (by omega) (by omega)).mpr (by omega))]
    exact pup_end hB hS h1 h2 hi hV hC hK (Or.inl rfl)
  | succ r ih =>
    intro q i f H τ hq hf hS h1 h2 hi hV h4 hC hK
    obtain ⟨f, rfl⟩ : ∃ j, f = j + 1 := ⟨f - 1, by omega⟩
    obtain ⟨g, hg⟩ : ∃ j, f = j + 1 := ⟨f - 1, by omega⟩
    have hBt := hB.sc hS
    have h0 := hV.1
    show b_X5_readPupils_7 N (eC N Q) 39 _ _ (nI q) τ
    unfold b_X5_readPupils_7
    rw [lit_5, if_neg (fun q => absurd ((z_le (by omega) (by omega)).mp q) (by omega)), t_seesSo hBt h1 (by omega) h2]
    by_cases e : i < n ∧ kdN (t i) ≠ 0
    · rw [if_pos e]
      have tl := (hB.2.2 i e.1).2
      have kl := kdN_le (t i)
      have vq : vp_in (nI q) 5 := vp_in_nI (by omega) (by decide)
      have cq : (nI q).toNatClampNeg = q := nI_clamp (by omega)
      have eq1 : nI q + 1 = nI (q + 1) := by rw [lit_1, nI_add]
      have ei1 : nI i + 1 = nI (i + 1) := by rw [lit_1, nI_add]
      simp only [z10, if_false]
      rw [t_bHere hBt h1 (by omega), if_pos e.1, t_kdOf tl]
      simp only [vq, cq, true_and, forall_eq]
      have hK2 : CK σ (pNu t n 0 (H 0 - 1) (i + 1) (fun v i1 => pBy t n 44 i1 (fun i2 => pNu t n 1 12 i2 (fun w i3 => pBy t n 59 i3 (fun i4 => ppR t n r (q + 1) i4 (hPp H q (kdN (t i)) v w)))))) Q := by
        have : ppR t n (r + 1) q i H = if i < n then (if kdN (t i) = 0 then (1, i, zFn) else pNu t n 0 (H 0 - 1) (i + 1) (fun v i1 => pBy t n 44 i1 (fun i2 => pNu t n 1 12 i2 (fun w i3 => pBy t n 59 i3 (fun i4 => ppR t n r (q + 1) i4 (hPp H q (kdN (t i)) v w)))))) else (0, i, H) := rfl
        rw [this, if_pos e.1, if_neg e.2] at hK
        exact hK
      have o1 : st2 τ 42 q (nI (kdN (t i))) 31 1 = nI i := by rw [st2_app, if_neg (by omega), h1]
      rw [show (39 + 3 : Nat) = 42 from rfl, o1, ei1]
      obtain ⟨τ1, hτ1⟩ : ∃ τ1, τ1 = st2 (st2 τ 42 q (nI (kdN (t i)))) 31 1 (nI (i + 1)) := ⟨_, rfl⟩
      rw [← hτ1]
      have S1 : Sc σ τ1 := by rw [hτ1]; exact (hS.st (by unfold scr; omega)).st (by unfold scr; omega)
      have p1 : τ1 31 1 = nI (i + 1) := by rw [hτ1, st2_app, if_pos ⟨rfl, rfl⟩]
      have f1 : τ1 31 2 = 0 := by rw [hτ1, st2_app, if_neg (by omega), st2_app, if_neg (by omega), h2]
      have k1 : τ1 39 5 - 1 = nI (H 0 - 1) := by rw [hτ1, st2_app, if_neg (by omega), st2_app, if_neg (by omega), hC.1, lit_1, pk_sub (by omega)]
      rw [k1, lit_0, t_takeN hN (hB.sc S1) p1 (by omega) f1 (by omega) (by omega)]
      by_cases a1 : figN t n (i + 1) = 1 ∨ figN t n (i + 1) = 2
      · rw [if_pos a1]
        by_cases a2 : 0 ≤ vlN t n (i + 1) ∧ vlN t n (i + 1) ≤ H 0 - 1
        · rw [if_pos a2]
          rw [pNu_t a1 a2] at hK2
          have il : i + 1 + figN t n (i + 1) ≤ n := (fig_le (t := t) (n := n) (i := i + 1) (by omega)).resolve_right (by omega)
          obtain ⟨v, hv⟩ : ∃ v, v = vlN t n (i + 1) := ⟨_, rfl⟩
          obtain ⟨i1, hi1⟩ : ∃ i1, i1 = i + 1 + figN t n (i + 1) := ⟨_, rfl⟩
          rw [← hv, ← hi1] at hK2 ⊢
          rw [← hi1] at il
          rw [← hv] at a2
          try simp only [vq, cq, true_and, forall_eq]
          try rw [show (39 + 4 : Nat) = 43 from rfl]
          obtain ⟨τ2, hτ2⟩ : ∃ τ2, τ2 = st2 (st2 τ1 31 1 (nI i1)) 43 q (nI v) := ⟨_, rfl⟩
          rw [← hτ2]
          have S2 : Sc σ τ2 := by rw [hτ2]; exact (S1.st (by unfold scr; omega)).st (by unfold scr; omega)
          have p2 : τ2 31 1 = nI i1 := by rw [hτ2, st2_app, if_neg (by omega), st2_app, if_pos ⟨rfl, rfl⟩]
          have f2 : τ2 31 2 = 0 := by rw [hτ2, st2_app, if_neg (by omega), st2_app, if_neg (by omega), f1]
          rw [lit_44, t_takeB (hB.sc S2) p2 (by omega) f2 (by omega)]
          by_cases a3 : i1 < n ∧ t i1 = 44
          · rw [if_pos a3]
            rw [pBy_t a3] at hK2
            obtain ⟨τ3, hτ3⟩ : ∃ τ3, τ3 = st2 τ2 31 1 (nI (i1 + 1)) := ⟨_, rfl⟩
            rw [← hτ3]
            have S3 : Sc σ τ3 := by rw [hτ3]; exact S2.st (by unfold scr; omega)
            have p3 : τ3 31 1 = nI (i1 + 1) := by rw [hτ3, st2_app, if_pos ⟨rfl, rfl⟩]
            have f3 : τ3 31 2 = 0 := by rw [hτ3, st2_app, if_neg (by omega), f2]
            rw [lit_1, lit_12, t_takeN hN (hB.sc S3) p3 (by omega) f3 (by omega) (by omega)]
            by_cases a4 : figN t n (i1 + 1) = 1 ∨ figN t n (i1 + 1) = 2
            · rw [if_pos a4]
              by_cases a5 : 1 ≤ vlN t n (i1 + 1) ∧ vlN t n (i1 + 1) ≤ 12
              · rw [if_pos a5]
                rw [pNu_t a4 a5] at hK2
                have il2 : i1 + 1 + figN t n (i1 + 1) ≤ n := (fig_le (t := t) (n := n) (i := i1 + 1) (by omega)).resolve_right (by omega)
                obtain ⟨w, hw⟩ : ∃ w, w = vlN t n (i1 + 1) := ⟨_, rfl⟩
                obtain ⟨i3, hi3⟩ : ∃ i3, i3 = i1 + 1 + figN t n (i1 + 1) := ⟨_, rfl⟩
                rw [← hw, ← hi3] at hK2 ⊢
                rw [← hi3] at il2
                rw [← hw] at a5
                try simp only [vq, cq, true_and, forall_eq]
                try rw [show (39 + 5 : Nat) = 44 from rfl]
                obtain ⟨τ4, hτ4⟩ : ∃ τ4, τ4 = st2 (st2 τ3 31 1 (nI i3)) 44 q (nI w) := ⟨_, rfl⟩
                rw [← hτ4]
                have S4 : Sc σ τ4 := by rw [hτ4]; exact (S3.st (by unfold scr; omega)).st (by unfold scr; omega)
                have p4 : τ4 31 1 = nI i3 := by rw [hτ4, st2_app, if_neg (by omega), st2_app, if_pos ⟨rfl, rfl⟩]
                have f4 : τ4 31 2 = 0 := by rw [hτ4, st2_app, if_neg (by omega), st2_app, if_neg (by omega), f3]
                rw [lit_59, t_takeB (hB.sc S4) p4 (by omega) f4 (by omega)]
                by_cases a6 : i3 < n ∧ t i3 = 59
                · rw [if_pos a6]
                  rw [pBy_t a6] at hK2
                  try simp only [forall_eq]
                  try rw [← lit_1]
                  have o5 : st2 τ4 31 1 (nI (i3 + 1)) 39 10 = nI q := by
                    rw [hτ4, hτ3, hτ2, hτ1]
                    simp only [st2_app]
                    simp
                    rw [hC.2.2.2.2.1, h4]
                  rw [o5, eq1]
                  refine ih (q + 1) (i3 + 1) f (hPp H q (kdN (t i)) v w) _ (by omega) (by omega) ((S4.st (by unfold scr; omega)).st (by unfold scr; omega)) ?_ ?_ (by omega) (HV_pp hV h4 (by omega) (by omega) (by omega) (by omega)) ?_ (CH_pp (τ := τ) (fun c j q1 q2 q3 q4 => ?_) ?_ ?_ ?_ ?_ hC hV h4 (by omega)) hK2
                  · rw [st2_app, if_neg (by omega), st2_app, if_pos ⟨rfl, rfl⟩]
                  · rw [st2_app, if_neg (by omega), st2_app, if_neg (by omega), f4]
                  · unfold hPp
                    rw [if_neg (by omega), if_neg (by omega), if_neg (by omega), if_pos rfl]
                  · rw [st2_app, if_neg (by omega), st2_app, if_neg (by omega), hτ4, st2_app, if_neg (by omega), st2_app, if_neg (by omega), hτ3, st2_app, if_neg (by omega), hτ2, st2_app, if_neg (by omega), st2_app, if_neg (by omega), hτ1, st2_app, if_neg (by omega), st2_app, if_neg (by omega)]
                  · rw [st2_app, if_neg (by omega), st2_app, if_neg (by omega), hτ4, st2_app, if_neg (by omega), st2_app, if_neg (by omega), hτ3, st2_app, if_neg (by omega), hτ2, st2_app, if_neg (by omega), st2_app, if_neg (by omega), hτ1, st2_app, if_neg (by omega), st2_app, if_pos ⟨rfl, rfl⟩]
                  · rw [st2_app, if_neg (by omega), st2_app, if_neg (by omega), hτ4, st2_app, if_neg (by omega), st2_app, if_neg (by omega), hτ3, st2_app, if_neg (by omega), hτ2, st2_app, if_pos ⟨rfl, rfl⟩]
                  · rw [st2_app, if_neg (by omega), st2_app, if_neg (by omega), hτ4, st2_app, if_pos ⟨rfl, rfl⟩]
                  · rw [st2_app, if_pos ⟨rfl, rfl⟩]
                · rw [if_neg a6]
                  rw [pBy_f a6] at hK2
                  have hz := FZ_mk (k := 1) hB S4 p4 (by omega) (by omega)
                  have hf' := hz.2.2.2
                  subst hg
                  simp only [forall_eq, lpupF, j100F, eCF, FB_39, hf']
                  exact hK2.f rfl rfl (by omega) (hz.st (by omega))
              · rw [if_neg a5]
                rw [pNu_2 a4 a5] at hK2
                have hz := FZ_mk (k := 2) hB S3 p3 (by omega) (by omega)
                have hf' := hz.2.2.2
                subst hg
                simp only [vq, cq, true_and, forall_eq, t_takeBF, lpupF, j100F, eCF, FB_39, FB_st (show 39 ≤ 39 + 5 by omega), hf']
                exact hK2.f rfl rfl (by omega) ((hz.st (by omega)).st (by omega))
            · rw [if_neg a4]
              rw [pNu_1 a4] at hK2
              have hz := FZ_mk (k := 1) hB S3 p3 (by omega) (by omega)
              have hf' := hz.2.2.2
              subst hg
              simp only [vq, cq, true_and, forall_eq, t_takeBF, lpupF, j100F, eCF, FB_39, FB_st (show 39 ≤ 39 + 5 by omega), hf']
              exact hK2.f rfl rfl (by omega) ((hz.st (by omega)).st (by omega))
          · rw [if_neg a3]
            rw [pBy_f a3] at hK2
            have hz := FZ_mk (k := 1) hB S2 p2 (by omega) (by omega)
            have hf' := hz.2.2.2
            subst hg
            simp only [vq, cq, true_and, forall_eq, t_takeBF, t_takeNF hN, lpupF, j100F, eCF, FB_39, FB_st (show 39 ≤ 39 + 5 by omega), hf']
            exact hK2.f rfl rfl (by omega) ((hz.st (by omega)).st (by omega))
        · rw [if_neg a2]
          rw [pNu_2 a1 a2] at hK2
          have hz := FZ_mk (k := 2) hB S1 p1 (by omega) (by omega)
          have hf' := hz.2.2.2
          subst hg
          simp only [vq, cq, true_and, forall_eq, t_takeBF, t_takeNF hN, lpupF, j100F, eCF, FB_39, FB_st (show 39 ≤ 39 + 5 by omega), FB_st (show 39 ≤ 39 + 4 by omega), hf']
          exact hK2.f rfl rfl (by omega) (((hz.st (by omega)).st (by omega)).st (by omega))
      · rw [if_neg a1]
        rw [pNu_1 a1] at hK2
        have hz := FZ_mk (k := 1) hB S1 p1 (by omega) (by omega)
        have hf' := hz.2.2.2
        subst hg
        simp only [vq, cq, true_and, forall_eq, t_takeBF, t_takeNF hN, lpupF, j100F, eCF, FB_39, FB_st (show 39 ≤ 39 + 5 by omega), FB_st (show 39 ≤ 39 + 4 by omega), hf']
        exact hK2.f rfl rfl (by omega) (((hz.st (by omega)).st (by omega)).st (by omega))
    · rw [if_neg e, if_pos rfl]
      exact pup_end hB hS h1 h2 hi hV hC hK (Or.inr e)
end RC
