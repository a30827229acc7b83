/-! ===== programme: what is counted ===== -/
def pnR (H : Nat → Nat) (n p : Nat) : Nat → Nat → Nat → Nat
  | 0, _, m => m
  | r + 1, q, m => pnR H n p r (q + 1) (if rch H q p = true then m ||| nbF H (bi H q) n 0 0 else m)
def pnF (H : Nat → Nat) (n p : Nat) : Nat := pnR H n p (H 4) 0 0
def igR (H : Nat → Nat) (p j : Nat) : Nat → Nat → Bool
  | 0, _ => false
  | r + 1, q => (decide (sft H j = bi H q) && rch H q p) || igR H p j r (q + 1)
theorem pnR_bit {H : Nat → Nat} {n p j : Nat} (hj : j < n) : ∀ (r q m : Nat), (pnR H n p r q m).testBit j = (m.testBit j || igR H p j r q) := by
  intro r
  induction r with
  | zero =>
    intro q m
    show m.testBit j = (m.testBit j || false)
    rw [Bool.or_false]
  | succ r ih =>
    intro q m
    show (pnR H n p r (q + 1) (if rch H q p = true then m ||| nbF H (bi H q) n 0 0 else m)).testBit j = (m.testBit j || ((decide (sft H j = bi H q) && rch H q p) || igR H p j r (q + 1)))
    rw [ih]
    cases rch H q p
    · simp
    · simp only [if_true, Bool.and_true]
      rw [Nat.testBit_or, nb_bit, Nat.zero_testBit, Bool.false_or, Bool.or_assoc]
      congr 2
      exact decide_eq_decide.mpr ⟨fun q => q.2.2, fun q => ⟨by omega, by omega, q⟩⟩
theorem pnR_lt {H : Nat → Nat} {n p : Nat} : ∀ (r q m : Nat), m < 2 ^ n → pnR H n p r q m < 2 ^ n := by
  intro r
  induction r with
  | zero => intro q m h; exact h
  | succ r ih =>
    intro q m h
    refine ih _ _ ?_
    split
    · exact Nat.or_lt_two_pow h (nb_lt n 0 0 (by omega) (Nat.two_pow_pos n))
    · exact h
theorem pnF_lt (H : Nat → Nat) (n p : Nat) : pnF H n p < 2 ^ n := pnR_lt _ _ _ (Nat.two_pow_pos n)
theorem pnF_bit {H : Nat → Nat} {n p j : Nat} (hj : j < n) : (pnF H n p).testBit j = igR H p j (H 4) 0 := by
  unfold pnF
  rw [pnR_bit hj, Nat.zero_testBit, Bool.false_or]
def wyN (g : Nat → Nat) : Nat → Nat → Nat → Nat
  | 0, _, _ => 1
  | m + 1, p, F => fb_sm (fun j => if (g p &&& F).testBit j = true then wyN g m (p + 1) (clr F (2 ^ j)) else 0) 6
def okD (g : Nat → Nat) (n : Nat) : Nat → Nat → Nat → Nat → Bool
  | 0, _, _, _ => true
  | m + 1, p, F, r => (g p &&& F).testBit (r / n ^ m) && okD g n m (p + 1) (clr F (2 ^ (r / n ^ m))) (r % n ^ m)
def rBk (g : Nat → Nat) (n : Nat) : Nat → Nat → Nat → Bool → Bool
  | 0, _, _, b => b
  | m + 1, r, u, b => rBk g n m (r / n) (u ||| 2 ^ (r % n)) (b && !u.testBit (r % n) && (g m).testBit (r % n))
def dgt (n r i : Nat) : Nat := r / n ^ i % n
theorem ct_blocks (q : Nat → Bool) (B : Nat) : ∀ c, fb_ct q (c * B) = fb_sm (fun d => fb_ct (fun k => q (d * B + k)) B) c := by
  intro c
  induction c with
  | zero => rw [Nat.zero_mul]; rfl
  | succ c ih => rw [Nat.add_mul, Nat.one_mul, fb_ct_split, fb_sm_succ, ih]
theorem okD_at {g : Nat → Nat} {n m p F d k : Nat} (hk : k < n ^ m) : okD g n (m + 1) p F (d * n ^ m + k) = ((g p &&& F).testBit d && okD g n m (p + 1) (clr F (2 ^ d)) k) := by
  have e1 : (d * n ^ m + k) / n ^ m = d := by
    rw [Nat.mul_comm, Nat.mul_add_div (by omega), Nat.div_eq_of_lt hk, Nat.add_zero]
  have e2 : (d * n ^ m + k) % n ^ m = k := by
    rw [Nat.mul_comm, Nat.mul_add_mod, Nat.mod_eq_of_lt hk]
  show ((g p &&& F).testBit ((d * n ^ m + k) / n ^ m) && okD g n m (p + 1) (clr F (2 ^ ((d * n ^ m + k) / n ^ m))) ((d * n ^ m + k) % n ^ m)) = _
  rw [e1, e2]
theorem wy_ct {g : Nat → Nat} {n : Nat} (h1 : 1 ≤ n) (hn : n ≤ 6) (hg : ∀ p, g p < 2 ^ n) : ∀ (m p F : Nat), wyN g m p F = fb_ct (okD g n m p F) (n ^ m) := by
  intro m
  induction m with
  | zero => intro p F; rfl
  | succ m ih =>
    intro p F
    rw [Nat.pow_succ, Nat.mul_comm, ct_blocks]
    have e1 : fb_sm (fun d => fb_ct (fun k => okD g n (m + 1) p F (d * n ^ m + k)) (n ^ m)) n = fb_sm (fun j => if (g p &&& F).testBit j = true then wyN g m (p + 1) (clr F (2 ^ j)) else 0) n := by
      refine fb_sm_cong (fun d _ => ?_)
      have e2 : fb_ct (fun k => okD g n (m + 1) p F (d * n ^ m + k)) (n ^ m) = fb_ct (fun k => (g p &&& F).testBit d && okD g n m (p + 1) (clr F (2 ^ d)) k) (n ^ m) := fb_ct_cong (fun k hk => okD_at hk)
      rw [e2]
      cases (g p &&& F).testBit d
      · rw [if_neg (by decide)]
        exact fb_ct_zero.mpr (fun k _ => rfl)
      · rw [if_pos rfl, ih]
        exact fb_ct_cong (fun k _ => Bool.true_and _)
    rw [e1]
    show fb_sm (fun j => if (g p &&& F).testBit j = true then wyN g m (p + 1) (clr F (2 ^ j)) else 0) 6 = _
    obtain ⟨c, hc⟩ : ∃ c, 6 = n + c := ⟨6 - n, by omega⟩
    rw [hc, fb_sm_split]
    have z : fb_sm (fun k => if (g p &&& F).testBit (n + k) = true then wyN g m (p + 1) (clr F (2 ^ (n + k))) else 0) c = fb_sm (fun _ => 0) c := by
      refine fb_sm_cong (fun k _ => ?_)
      have : (g p).testBit (n + k) = false := Nat.testBit_lt_two_pow (Nat.lt_of_lt_of_le (hg p) (Nat.pow_le_pow_right (by omega) (by omega)))
      rw [Nat.testBit_and, this, Bool.false_and, if_neg (by decide)]
    rw [z, fb_sm_const, Nat.mul_zero, Nat.add_zero]
theorem wy_le (g : Nat → Nat) : ∀ (m p F : Nat), wyN g m p F ≤ 6 ^ m := by
  intro m
  induction m with
  | zero => intro p F; exact Nat.le_refl _
  | succ m ih =>
    intro p F
    rw [Nat.pow_succ, Nat.mul_comm]
    refine fb_sm_bound (fun j _ => ?_)
    split
    · exact ih _ _
    · exact Nat.zero_le _
theorem dgt_mod {n r i m : Nat} (hi : i < m) : dgt n (r % n ^ m) i = dgt n r i := by
  unfold dgt
  have e : n ^ m = n ^ i * n ^ (m - i) := by rw [← Nat.pow_add]; congr 1; omega
  rw [e, Nat.mod_mul_right_div_self]
  refine Nat.mod_mod_of_dvd _ ?_
  have e2 : n ^ (m - i) = n ^ (m - i - 1) * n := by rw [← Nat.pow_succ]; congr 1; omega
  rw [e2]
  exact Nat.dvd_mul_left _ _
theorem dgt_top {n r m : Nat} (hr : r < n ^ (m + 1)) : dgt n r m = r / n ^ m := by
  unfold dgt
  refine Nat.mod_eq_of_lt (Nat.div_lt_of_lt_mul ?_)
  rw [← Nat.pow_succ]
  exact hr
theorem dgt_div {n r i : Nat} : dgt n (r / n) i = dgt n r (i + 1) := by
  unfold dgt
  rw [Nat.div_div_eq_div_mul, Nat.pow_succ, Nat.mul_comm n]
theorem okD_iff {g : Nat → Nat} {n : Nat} (h1 : 1 ≤ n) : ∀ (m p F r : Nat), F < 2 ^ 31 → r < n ^ m → (okD g n m p F r = true ↔ (∀ i, i < m → (g (p + (m - 1 - i))).testBit (dgt n r i) = true ∧ F.testBit (dgt n r i) = true) ∧ ∀ i j, i < j → j < m → dgt n r i ≠ dgt n r j) := by
  intro m
  induction m with
  | zero =>
    intro p F r hF hr
    exact ⟨fun _ => ⟨fun i hi => by omega, fun i j _ hj => by omega⟩, fun _ => rfl⟩
  | succ m ih =>
    intro p F r hF hr
    have Bp : 0 < n ^ m := Nat.pow_pos (by omega)
    have hs := Nat.mod_lt r Bp
    have cl := clr_le F (2 ^ (r / n ^ m))
    have I := ih (p + 1) (clr F (2 ^ (r / n ^ m))) (r % n ^ m) (by omega) hs
    have dt := dgt_top hr
    show ((g p &&& F).testBit (r / n ^ m) && okD g n m (p + 1) (clr F (2 ^ (r / n ^ m))) (r % n ^ m)) = true ↔ _
    rw [Bool.and_eq_true, Nat.testBit_and, Bool.and_eq_true, I]
    have cb : ∀ x, (clr F (2 ^ (r / n ^ m))).testBit x = true ↔ F.testBit x = true ∧ r / n ^ m ≠ x := by
      intro x
      rw [clr_bit hF, Bool.and_eq_true, Nat.testBit_two_pow]
      simp
    constructor
    · rintro ⟨⟨a1, a2⟩, a3, a4⟩
      refine ⟨fun i hi => ?_, fun i j hij hj => ?_⟩
      · by_cases e : i = m
        · subst e
          rw [dt, show p + (i + 1 - 1 - i) = p by omega]
          exact ⟨a1, a2⟩
        · have := a3 i (by omega)
          rw [dgt_mod (by omega), cb] at this
          rw [show p + (m + 1 - 1 - i) = p + 1 + (m - 1 - i) by omega]
          exact ⟨this.1, this.2.1⟩
      · by_cases e : j = m
        · subst e
          have := a3 i (by omega)
          rw [dgt_mod (by omega), cb] at this
          rw [dt]
          exact fun q => this.2.2 q.symm
        · have := a4 i j hij (by omega)
          rw [dgt_mod (by omega), dgt_mod (by omega)] at this
          exact this
    · rintro ⟨a1, a2⟩
      refine ⟨?_, fun i hi => ?_, fun i j hij hj => ?_⟩
      · have := a1 m (by omega)
        rw [dt, show p + (m + 1 - 1 - m) = p by omega] at this
        exact this
      · have := a1 i (by omega)
        rw [show p + (m + 1 - 1 - i) = p + 1 + (m - 1 - i) by omega] at this
        rw [dgt_mod (by omega), cb]
        refine ⟨this.1, this.2, ?_⟩
        rw [← dt]
        exact fun q => a2 i m hi (by omega) q.symm
      · rw [dgt_mod (by omega), dgt_mod (by omega)]
        exact a2 i j hij (by omega)
theorem rB_iff {g : Nat → Nat} {n : Nat} : ∀ (m r u : Nat) (b : Bool), (rBk g n m r u b = true ↔ b = true ∧ (∀ i, i < m → (g (m - 1 - i)).testBit (dgt n r i) = true ∧ u.testBit (dgt n r i) = false) ∧ ∀ i j, i < j → j < m → dgt n r i ≠ dgt n r j) := by
  intro m
  induction m with
  | zero =>
    intro r u b
    exact ⟨fun h => ⟨h, fun i hi => by omega, fun i j _ hj => by omega⟩, fun h => h.1⟩
  | succ m ih =>
    intro r u b
    show rBk g n m (r / n) (u ||| 2 ^ (r % n)) (b && !u.testBit (r % n) && (g m).testBit (r % n)) = true ↔ _
    have d0 : dgt n r 0 = r % n := by
      unfold dgt
      rw [Nat.pow_zero, Nat.div_one]
    have ub : ∀ x, (u ||| 2 ^ (r % n)).testBit x = false ↔ u.testBit x = false ∧ r % n ≠ x := by
      intro x
      rw [Nat.testBit_or, Nat.testBit_two_pow]
      simp
    rw [ih, Bool.and_eq_true, Bool.and_eq_true]
    simp only [dgt_div, ub, Bool.not_eq_true']
    constructor
    · rintro ⟨⟨⟨a1, a2⟩, a3⟩, a4, a5⟩
      refine ⟨a1, fun i hi => ?_, fun i j hij hj => ?_⟩
      · by_cases e : i = 0
        · subst e
          rw [d0, show m + 1 - 1 - 0 = m by omega]
          exact ⟨a3, a2⟩
        · obtain ⟨i, rfl⟩ : ∃ k, i = k + 1 := ⟨i - 1, by omega⟩
          have := a4 i (by omega)
          rw [show m + 1 - 1 - (i + 1) = m - 1 - i by omega]
          exact ⟨this.1, this.2.1⟩
      · obtain ⟨j, rfl⟩ : ∃ k, j = k + 1 := ⟨j - 1, by omega⟩
        by_cases e : i = 0
        · subst e
          rw [d0]
          exact (a4 j (by omega)).2.2
        · obtain ⟨i, rfl⟩ : ∃ k, i = k + 1 := ⟨i - 1, by omega⟩
          exact a5 i j (by omega) (by omega)
    · rintro ⟨a1, a2, a3⟩
      have z := a2 0 (by omega)
      rw [d0, show m + 1 - 1 - 0 = m by omega] at z
      refine ⟨⟨⟨a1, z.2⟩, z.1⟩, fun i hi => ?_, fun i j hij hj => ?_⟩
      · have := a2 (i + 1) (by omega)
        rw [show m + 1 - 1 - (i + 1) = m - 1 - i by omega] at this
        refine ⟨this.1, this.2, ?_⟩
        have q := a3 0 (i + 1) (by omega) (by omega)
        rw [d0] at q
        exact q
      · exact a3 (i + 1) (j + 1) (by omega) (by omega)
theorem rB_okD {g : Nat → Nat} {n P r : Nat} (h1 : 1 ≤ n) (hn : n ≤ 6) (hr : r < n ^ P) : rBk g n P r 0 true = okD g n P 0 (2 ^ n - 1) r := by
  have p6 : 2 ^ n ≤ 2 ^ 6 := Nat.pow_le_pow_right (by omega) hn
  rw [Bool.eq_iff_iff, rB_iff, okD_iff h1 P 0 (2 ^ n - 1) r (by omega) hr]
  have dl : ∀ i, dgt n r i < n := fun i => Nat.mod_lt _ (by omega)
  simp only [true_and, Nat.zero_add, Nat.zero_testBit, and_true, Nat.testBit_two_pow_sub_one, dl, decide_true]
/-! the least one -/
def fsR (q : Nat → Bool) : Nat → Nat → Nat
  | 0, f => f
  | m + 1, f => fsR q m (if q m = true then m else f)
theorem fs_none {q : Nat → Bool} : ∀ (m f : Nat), (∀ r, r < m → q r = false) → fsR q m f = f := by
  intro m
  induction m with
  | zero => intro f h; rfl
  | succ m ih =>
    intro f h
    show fsR q m (if q m = true then m else f) = f
    rw [h m (by omega), if_neg (by decide)]
    exact ih f (fun r hr => h r (by omega))
theorem fs_least {q : Nat → Bool} : ∀ (m f : Nat), (∃ r, r < m ∧ q r = true) → fsR q m f < m ∧ q (fsR q m f) = true ∧ ∀ s, s < fsR q m f → q s = false := by
  intro m
  induction m with
  | zero => rintro f ⟨r, hr, -⟩; omega
  | succ m ih =>
    rintro f ⟨r, hr, hq⟩
    show fsR q m (if q m = true then m else f) < m + 1 ∧ q (fsR q m (if q m = true then m else f)) = true ∧ ∀ s, s < fsR q m (if q m = true then m else f) → q s = false
    by_cases e : ∃ r, r < m ∧ q r = true
    · have := ih (if q m = true then m else f) e
      exact ⟨by omega, this.2⟩
    · have no : ∀ r, r < m → q r = false := by
        intro k hk
        cases h : q k
        · rfl
        · exact absurd ⟨k, hk, h⟩ e
      have rm : r = m := by
        by_cases c : r = m
        · exact c
        · have := no r (by omega)
          rw [this] at hq
          exact absurd hq (by decide)
      subst rm
      rw [hq, if_pos rfl, fs_none r r no]
      exact ⟨by omega, hq, no⟩
theorem gr_step {g : Nat → Nat} {n m p F r : Nat} (h1 : 1 ≤ n) (hn : n ≤ 6) (hg : ∀ p, g p < 2 ^ n) (hr : r < n ^ (m + 1)) (ho : okD g n (m + 1) p F r = true) (hl : ∀ s, s < r → okD g n (m + 1) p F s = false) : r / n ^ m < n ∧ (g p &&& F).testBit (r / n ^ m) = true ∧ 0 < wyN g m (p + 1) (clr F (2 ^ (r / n ^ m))) ∧ (∀ j, j < r / n ^ m → (g p &&& F).testBit j = true → wyN g m (p + 1) (clr F (2 ^ j)) = 0) ∧ r % n ^ m < n ^ m ∧ okD g n m (p + 1) (clr F (2 ^ (r / n ^ m))) (r % n ^ m) = true ∧ ∀ s, s < r % n ^ m → okD g n m (p + 1) (clr F (2 ^ (r / n ^ m))) s = false := by
  have Bp : 0 < n ^ m := Nat.pow_pos (by omega)
  have hs := Nat.mod_lt r Bp
  have dm := Nat.div_add_mod r (n ^ m)
  rw [Nat.mul_comm] at dm
  have ho2 : ((g p &&& F).testBit (r / n ^ m) && okD g n m (p + 1) (clr F (2 ^ (r / n ^ m))) (r % n ^ m)) = true := ho
  rw [Bool.and_eq_true] at ho2
  refine ⟨?_, ho2.1, ?_, fun j hj hb => ?_, hs, ho2.2, fun s hs2 => ?_⟩
  · refine Nat.div_lt_of_lt_mul ?_
    rw [← Nat.pow_succ]
    exact hr
  · rw [wy_ct h1 hn hg]
    exact fb_ct_pos.mpr ⟨_, hs, ho2.2⟩
  · rw [wy_ct h1 hn hg]
    refine fb_ct_zero.mpr (fun k hk => ?_)
    have lt : j * n ^ m + k < r := by
      have : (j + 1) * n ^ m ≤ r / n ^ m * n ^ m := Nat.mul_le_mul_right _ hj
      rw [Nat.add_mul, Nat.one_mul] at this
      have le : r / n ^ m * n ^ m ≤ r := Nat.div_mul_le_self _ _
      omega
    have := hl _ lt
    rw [okD_at hk, hb, Bool.true_and] at this
    exact this
  · have lt : r / n ^ m * n ^ m + s < r := by omega
    have := hl _ lt
    rw [okD_at (by omega), ho2.1, Bool.true_and] at this
    exact this
