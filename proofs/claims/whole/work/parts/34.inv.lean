/-! ===== what holds between the calls ===== -/
def HE (H : Nat → Nat) : Prop := HV H ∨ ∀ i, H i = 0
def I0 (σ : kS) (H : Nat → Nat) : Prop := HE H ∧ CH σ 33 H ∧ MH σ H ∧ σ 55 4 = nI (if H 0 = 0 then 0 else 1)
def RWr (σ : kS) (r : Nat) : Prop := (σ (2 + 2 * r) 1 = -1 ∧ σ 57 r = -1) ∨ ∃ l n : Nat, l ≤ 2 ∧ n ≤ 40 ∧ σ (2 + 2 * r) 1 = nI l ∧ σ 56 r = nI l ∧ σ (2 + 2 * r) 2 = nI n ∧ σ 57 r = nI n ∧ ∀ i, i < 40 → σ (2 + 2 * r + 1) i = σ 58 (40 * r + i)
def RW (σ : kS) : Prop := ∀ r, r < 8 → RWr σ r
def TP (σ : kS) : Prop := σ 31 5 = σ 55 9 ∧ ∃ n : Nat, n ≤ 120 ∧ σ 31 3 = nI n ∧ σ 55 8 = nI n ∧ ∀ i, i < n → ∃ b : Nat, b < 256 ∧ σ 32 i = nI b ∧ σ 61 i = nI b
def TR (σ : kS) : Prop := ∃ n : Nat, n ≤ 16 ∧ σ 53 1 = nI n ∧ σ 55 25 = nI n ∧ ∀ i, i < n → σ 54 i = σ 68 i
def IMk (σ : kS) (k : Nat) : Prop := (σ (19 + 6 * k) 5 = 0 ∧ σ 66 k = 0) ∨ ∃ H : Nat → Nat, HV H ∧ CH σ (19 + 6 * k) H ∧ (σ 66 k = 1 ∧ σ 55 4 = 1) ∧ ∀ i, i < 57 → σ 67 (57 * k + i) = nI (H i)
def IM (σ : kS) : Prop := ∀ k, k < 2 → IMk σ k
/-- what an act was: by it V is behind, W ahead -/
def actR (s p w : Nat) (V W : Nat → Nat) : Prop :=
  (s = 2 ∧ p < V 4 ∧ ∀ i, i < 57 → W i = if i = 47 + p then w else V i) ∨ (s = 1 ∧ ∀ i, i < 57 → W i = if i = 2 then w else V i) ∨ (s = 0 ∧ 1 ≤ V 5 ∧ ∀ i, i < 57 → W i = if i = 2 then w else if i = 5 then V 5 - 1 else V i)
def ACj (σ : kS) (V : Nat → Nat → Nat) (m nx j : Nat) : Prop := HV (V j) ∧ HV (V (j + 1)) ∧ (∃ s p w : Nat, σ 46 ((nx + 23 - j) % 24) = nI s ∧ σ 47 ((nx + 23 - j) % 24) = nI p ∧ σ 48 ((nx + 23 - j) % 24) = nI w ∧ w < 12 ∧ actR s p w (V j) (V (j + 1))) ∧ ∀ i, i < 57 → σ 63 (57 * (m - 1 - j) + i) = nI (V (j + 1) i)
def AC (σ : kS) (H : Nat → Nat) : Prop := ∃ (m nx : Nat) (V : Nat → Nat → Nat), m ≤ 24 ∧ nx < 24 ∧ σ 45 4 = nI m ∧ σ 55 17 = nI m ∧ σ 45 3 = nI nx ∧ V 0 = H ∧ ∀ j, j < m → ACj σ V m nx j
def Inv (σ : kS) : Prop := ∃ H : Nat → Nat, I0 σ H ∧ RW σ ∧ TP σ ∧ TR σ ∧ IM σ ∧ AC σ H ∧ σ 55 3 = σ 0 8
/-- two stores agree where P says -/
def agr (P : Nat → Nat → Prop) (σ τ : kS) : Prop := ∀ c k, P c k → τ c k = σ c k
theorem CH_cong {σ τ : kS} {c : Nat} {H : Nat → Nat} (h : ∀ d k, c ≤ d → d ≤ c + 5 → τ d k = σ d k) (hC : CH σ c H) : CH τ c H := by
  obtain ⟨a0, a1, a2, a3, a4, a5, a6, a7, a8⟩ := hC
  have g := fun k => h c k (by omega) (by omega)
  refine ⟨by rw [g, a0], by rw [g, a1], by rw [g, a2], by rw [g, a3], by rw [g, a4], by rw [g, a5], fun p hp => ?_, fun p k hp hk => ?_, fun q hq => ?_⟩
  · rw [h _ _ (by omega) (by omega), a6 p hp]
  · rw [h _ _ (by omega) (by omega), a7 p k hp hk]
  · obtain ⟨b1, b2, b3⟩ := a8 q hq
    rw [h _ _ (by omega) (by omega), h _ _ (by omega) (by omega), h _ _ (by omega) (by omega)]
    exact ⟨b1, b2, b3⟩
theorem I0_cong {σ τ : kS} {H : Nat → Nat} (h : agr (fun c k => (33 ≤ c ∧ c ≤ 38) ∨ c = 59 ∨ (c = 55 ∧ k = 4)) σ τ) (hI : I0 σ H) : I0 τ H := by
  obtain ⟨a, b, c, d⟩ := hI
  refine ⟨a, CH_cong (fun d k h1 h2 => h d k (by omega)) b, fun i hi => ?_, ?_⟩
  · rw [h 59 i (by omega), c i hi]
  · rw [h 55 4 (by omega), d]
theorem RW_cong {σ τ : kS} (h : agr (fun c _ => (2 ≤ c ∧ c ≤ 17) ∨ c = 56 ∨ c = 57 ∨ c = 58) σ τ) (hR : RW σ) : RW τ := by
  intro r hr
  rcases hR r hr with ⟨a, b⟩ | ⟨l, n, h1, h2, h3, h4, h5, h6, h7⟩
  · left
    rw [h _ _ (by omega), h _ _ (by omega)]
    exact ⟨a, b⟩
  · right
    refine ⟨l, n, h1, h2, ?_, ?_, ?_, ?_, fun i hi => ?_⟩
    · rw [h _ _ (by omega), h3]
    · rw [h _ _ (by omega), h4]
    · rw [h _ _ (by omega), h5]
    · rw [h _ _ (by omega), h6]
    · rw [h _ _ (by omega), h _ _ (by omega), h7 i hi]
theorem TP_cong {σ τ : kS} (h : agr (fun c k => (c = 31 ∧ (k = 3 ∨ k = 5)) ∨ c = 32 ∨ (c = 55 ∧ (k = 8 ∨ k = 9)) ∨ c = 61) σ τ) (hT : TP σ) : TP τ := by
  obtain ⟨a, n, h1, h2, h3, h4⟩ := hT
  refine ⟨?_, n, h1, ?_, ?_, fun i hi => ?_⟩
  · rw [h _ _ (by omega), h _ _ (by omega), a]
  · rw [h _ _ (by omega), h2]
  · rw [h _ _ (by omega), h3]
  · obtain ⟨b, b1, b2, b3⟩ := h4 i hi
    refine ⟨b, b1, ?_, ?_⟩
    · rw [h _ _ (by omega), b2]
    · rw [h _ _ (by omega), b3]
theorem TR_cong {σ τ : kS} (h : agr (fun c k => (c = 53 ∧ k = 1) ∨ c = 54 ∨ (c = 55 ∧ k = 25) ∨ c = 68) σ τ) (hT : TR σ) : TR τ := by
  obtain ⟨n, h1, h2, h3, h4⟩ := hT
  refine ⟨n, h1, ?_, ?_, fun i hi => ?_⟩
  · rw [h _ _ (by omega), h2]
  · rw [h _ _ (by omega), h3]
  · rw [h _ _ (by omega), h _ _ (by omega), h4 i hi]
theorem IM_cong {σ τ : kS} (h : agr (fun c k => (19 ≤ c ∧ c ≤ 30) ∨ c = 66 ∨ c = 67 ∨ (c = 55 ∧ k = 4)) σ τ) (hI : IM σ) : IM τ := by
  intro k hk
  rcases hI k hk with ⟨a, b⟩ | ⟨H, a, b, d, e⟩
  · left
    rw [h _ _ (by omega), h _ _ (by omega)]
    exact ⟨a, b⟩
  · right
    refine ⟨H, a, CH_cong (fun d k h1 h2 => h d k (by omega)) b, ?_, fun i hi => ?_⟩
    · rw [h _ _ (by omega), h _ _ (by omega)]
      exact d
    · rw [h _ _ (by omega), e i hi]
theorem AC_cong {σ τ : kS} {H : Nat → Nat} (h : agr (fun c k => (c = 45 ∧ (k = 3 ∨ k = 4)) ∨ (46 ≤ c ∧ c ≤ 48) ∨ (c = 55 ∧ k = 17) ∨ c = 63) σ τ) (hA : AC σ H) : AC τ H := by
  obtain ⟨m, nx, V, h1, h2, h3, h4, h5, h6, h7⟩ := hA
  refine ⟨m, nx, V, h1, h2, ?_, ?_, ?_, h6, fun j hj => ?_⟩
  · rw [h _ _ (by omega), h3]
  · rw [h _ _ (by omega), h4]
  · rw [h _ _ (by omega), h5]
  · obtain ⟨a, b, ⟨s, p, w, c1, c2, c3, c4, c5⟩, d⟩ := h7 j hj
    refine ⟨a, b, ⟨s, p, w, ?_, ?_, ?_, c4, c5⟩, fun i hi => ?_⟩
    · rw [h _ _ (by omega), c1]
    · rw [h _ _ (by omega), c2]
    · rw [h _ _ (by omega), c3]
    · rw [h _ _ (by omega), d i hi]
/-- cells that no answer rests on -/
def scr (c k : Nat) : Prop := (39 ≤ c ∧ c ≤ 44) ∨ (50 ≤ c ∧ c ≤ 52) ∨ (c = 31 ∧ (k = 1 ∨ k = 2 ∨ k = 4)) ∨ (c = 53 ∧ 2 ≤ k) ∨ (c = 55 ∧ ((10 ≤ k ∧ k ≤ 14) ∨ k = 18 ∨ k = 19)) ∨ c = 60 ∨ c = 62 ∨ c = 64 ∨ c = 65
def Sc (σ τ : kS) : Prop := ∀ c k, ¬ scr c k → τ c k = σ c k
theorem Sc.rf {σ : kS} : Sc σ σ := fun _ _ _ => rfl
theorem Sc.tr {σ τ υ : kS} (h : Sc σ τ) (g : Sc τ υ) : Sc σ υ := fun c k q => (g c k q).trans (h c k q)
theorem Sc.st {σ τ : kS} (h : Sc σ τ) {c k : Nat} {v : Int32} (q : scr c k) : Sc σ (st2 τ c k v) := by
  intro c' k' h'
  rw [st2_app, if_neg, h c' k' h']
  rintro ⟨rfl, rfl⟩
  exact h' q
theorem Inv.sc {σ τ : kS} (h : Sc σ τ) (hI : Inv σ) : Inv τ := by
  obtain ⟨H, a, b, c, d, e, f, g⟩ := hI
  refine ⟨H, I0_cong (fun c k q => h c k ?_) a, RW_cong (fun c k q => h c k ?_) b, TP_cong (fun c k q => h c k ?_) c, TR_cong (fun c k q => h c k ?_) d, IM_cong (fun c k q => h c k ?_) e, AC_cong (fun c k q => h c k ?_) f, ?_⟩
  · unfold scr; omega
  · unfold scr; omega
  · unfold scr; omega
  · unfold scr; omega
  · unfold scr; omega
  · unfold scr; omega
  · rw [h 55 3 (by unfold scr; omega), h 0 8 (by unfold scr; omega), g]
theorem HE.le {H : Nat → Nat} (h : HE H) : H 0 ≤ 12 ∧ H 3 ≤ 4 ∧ H 4 ≤ 5 ∧ H 5 ≤ 999 ∧ H 1 ≤ 12 ∧ H 2 ≤ 12 := by
  rcases h with h | h
  · obtain ⟨a, b, c, d, e, f, -⟩ := h
    omega
  · simp [h]
theorem HE.v0 {H : Nat → Nat} (h : HE H) (q : 0 < H 0) : HV H := by
  rcases h with h | h
  · exact h
  · rw [h 0] at q; omega
theorem HE.v4 {H : Nat → Nat} (h : HE H) {n : Nat} (q : n < H 4) : HV H := by
  rcases h with h | h
  · exact h
  · rw [h 4] at q; omega
theorem HE.v3 {H : Nat → Nat} (h : HE H) {n : Nat} (q : n < H 3) : HV H := by
  rcases h with h | h
  · exact h
  · rw [h 3] at q; omega
theorem z10 : ((1 : Int32) = 0) = False := by decide
theorem z01 : ((0 : Int32) = 1) = False := by decide
theorem cl0 : (0 : Int32).toNatClampNeg = 0 := rfl
theorem vq0 : vp_in (0 : Int32) 57 = True := eq_true (vp_in_nI (n := 0) (by decide) (by decide))
theorem cl1 : (1 : Int32).toNatClampNeg = 1 := rfl
theorem vq1 : vp_in (1 : Int32) 57 = True := eq_true (vp_in_nI (n := 1) (by decide) (by decide))
theorem cl2 : (2 : Int32).toNatClampNeg = 2 := rfl
theorem vq2 : vp_in (2 : Int32) 57 = True := eq_true (vp_in_nI (n := 2) (by decide) (by decide))
theorem cl3 : (3 : Int32).toNatClampNeg = 3 := rfl
theorem vq3 : vp_in (3 : Int32) 57 = True := eq_true (vp_in_nI (n := 3) (by decide) (by decide))
theorem cl4 : (4 : Int32).toNatClampNeg = 4 := rfl
theorem vq4 : vp_in (4 : Int32) 57 = True := eq_true (vp_in_nI (n := 4) (by decide) (by decide))
theorem cl5 : (5 : Int32).toNatClampNeg = 5 := rfl
theorem vq5 : vp_in (5 : Int32) 57 = True := eq_true (vp_in_nI (n := 5) (by decide) (by decide))
section TESTS
variable {N : Nat} {σ : kS} {c : Nat} {H : Nat → Nat} {Q : Int32 → kS → Prop}
theorem rng_cl {x : Int32} {n : Nat} (hn : n < 2 ^ 31) {A B : Prop} : (if x < 0 then A else if nI n ≤ x then A else B) = if 0 ≤ x.toInt ∧ x.toInt < n then B else A := by
  have z : (0 : Int32).toInt = 0 := by decide
  simp only [fa_lt, fa_le, nI_toInt hn, z]
  by_cases h1 : x.toInt < 0
  · rw [if_pos h1, if_neg (by omega)]
  · rw [if_neg h1]
    by_cases h2 : (n : Int) ≤ x.toInt
    · rw [if_pos h2, if_neg (by omega)]
    · rw [if_neg h2, if_pos (by omega)]
theorem t_hasPupil {x : Int32} (hC : CH σ c H) (hE : HE H) : w_X3_hasPupil N σ c x Q = if 0 ≤ x.toInt ∧ x.toInt < H 4 then Q 1 σ else Q 0 σ := by
  have h := hE.le
  unfold w_X3_hasPupil
  rw [hC.2.2.2.2.1]
  exact rng_cl (by omega)
theorem t_hasPiece {x : Int32} (hC : CH σ c H) (hE : HE H) : w_X3_hasPiece N σ c x Q = if 0 ≤ x.toInt ∧ x.toInt < H 3 then Q 1 σ else Q 0 σ := by
  have h := hE.le
  unfold w_X3_hasPiece
  rw [hC.2.2.2.1]
  exact rng_cl (by omega)
theorem t_isTold (hC : CH σ c H) (hE : HE H) : w_X3_isTold N σ c Q = if 0 < H 0 then Q 1 σ else Q 0 σ := by
  have h := hE.le
  unfold w_X3_isTold
  rw [hC.1]
  simp (disch := omega) only [lit_0, z_le]
  by_cases q : H 0 ≤ 0
  · rw [if_pos q, if_neg (by omega)]
  · rw [if_neg q, if_pos (by omega)]
theorem sub1_64 {n : Nat} (hn : n < 1000) : ((nI n - 1).toInt64).toInt = (n : Int) - 1 := by
  rw [Int32.toInt_toInt64, lit_1, pk_sub_toInt (by omega) (by omega)]
  rfl
theorem t_rangeM {x : Int32} {n : Nat} (hn : n < 1000) : w_X7_in N σ x.toInt64 0 ((nI n - 1).toInt64) Q = if 0 ≤ x.toInt ∧ x.toInt < n then Q 1 σ else Q 0 σ := by
  rw [t_in32 0 ((n : Int) - 1) (by decide) (sub1_64 hn)]
  by_cases h : 0 ≤ x.toInt ∧ x.toInt < n
  · rw [if_pos h, if_pos (by omega)]
  · rw [if_neg h, if_neg (by omega)]
theorem t_isPupil {x : Int32} (hM : MH σ H) (hE : HE H) : w_X7_isPupil N σ x Q = if 0 ≤ x.toInt ∧ x.toInt < H 4 then Q 1 σ else Q 0 σ := by
  have h := hE.le
  unfold w_X7_isPupil
  rw [show (4 : Int32).toNatClampNeg = 4 from rfl, hM 4 (by decide), t_rangeM (by omega)]
  have hv : vp_in 4 57 := vp_in_nI (n := 4) (by decide) (by decide)
  simp [hv]
theorem t_isPiece {x : Int32} (hM : MH σ H) (hE : HE H) : w_X7_isPiece N σ x Q = if 0 ≤ x.toInt ∧ x.toInt < H 3 then Q 1 σ else Q 0 σ := by
  have h := hE.le
  unfold w_X7_isPiece
  rw [show (3 : Int32).toNatClampNeg = 3 from rfl, hM 3 (by decide), t_rangeM (by omega)]
  have hv : vp_in 3 57 := vp_in_nI (n := 3) (by decide) (by decide)
  simp [hv]
/-- an argument within a range is a number -/
theorem arg_in {x : Int32} {n : Nat} (h : 0 ≤ x.toInt ∧ x.toInt < n) : ∃ q : Nat, q < n ∧ x = nI q := by
  obtain ⟨q, h1, h2, h3⟩ := nI_inv h.1
  exact ⟨q, by omega, h2⟩
end TESTS
