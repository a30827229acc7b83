/-! ===== sets as numbers ===== -/
def clr (A B : Nat) : Nat := A &&& (B ^^^ 4294967295)
theorem neg1 : (-1 : Int32) = nI 4294967295 := by decide
theorem nclr (A B : Nat) : nI A &&& (nI B ^^^ (-1)) = nI (clr A B) := by
  rw [neg1, fb_xorI, fa_and]
  rfl
theorem clr_le (A B : Nat) : clr A B ≤ A := Nat.and_le_left
theorem clr_bit {A B : Nat} (hA : A < 2 ^ 31) (j : Nat) : (clr A B).testBit j = (A.testBit j && !B.testBit j) := by
  unfold clr
  rw [Nat.testBit_and, Nat.testBit_xor, show (4294967295 : Nat) = 2 ^ 32 - 1 from rfl, Nat.testBit_two_pow_sub_one]
  by_cases e : j < 32
  · simp [e]
  · have : A.testBit j = false := Nat.testBit_lt_two_pow (Nat.lt_of_lt_of_le hA (Nat.pow_le_pow_right (by omega) (by omega)))
    simp [this]
theorem clr_zero {A B : Nat} (hA : A < 2 ^ 31) : nI A &&& (nI B ^^^ (-1)) = 0 ↔ ∀ j, A.testBit j = true → B.testBit j = true := by
  have := clr_le A B
  rw [nclr, lit_0, z_eq (by omega) (by omega)]
  constructor
  · intro h j hj
    have e := clr_bit (B := B) hA j
    rw [h, Nat.zero_testBit, hj] at e
    cases hb : B.testBit j
    · rw [hb] at e; exact absurd e (by decide)
    · rfl
  · intro h
    refine Nat.eq_of_testBit_eq (fun j => ?_)
    rw [clr_bit hA, Nat.zero_testBit]
    cases ha : A.testBit j
    · rfl
    · rw [h j ha]; rfl
theorem bit_atB {m s : Nat} (hm : m < 2 ^ 31) (hs : s < 31) : (nI m >>> (nI s &&& 31)) &&& 1 = nI (if m.testBit s then 1 else 0) := by
  have hq : m / 2 ^ s ≤ m := Nat.div_le_self _ _
  rw [pk_shrN (by omega) _ s (smdB s hs), pk_andN (by omega) 1 (by decide), Nat.testBit_eq_decide_div_mod_eq]
  have : m / 2 ^ s % 2 < 2 := Nat.mod_lt _ (by omega)
  by_cases e : m / 2 ^ s % 2 = 1
  · simp [e]
  · have : m / 2 ^ s % 2 = 0 := by omega
    simp [this]
theorem bit_is {m s : Nat} (hm : m < 2 ^ 31) (hs : s < 31) : (nI m >>> (nI s &&& 31)) &&& 1 = 1 ↔ m.testBit s = true := by
  rw [bit_atB hm hs]
  cases m.testBit s <;> decide
/-- nights as bits, as numbers -/
def nbF (H : Nat → Nat) (a : Nat) : Nat → Nat → Nat → Nat
  | 0, _, m => m
  | r + 1, k, m => nbF H a r (k + 1) (if sft H k = a then m ||| 2 ^ k else m)
theorem nb_eq {H : Nat → Nat} {a : Nat} : ∀ (r k m : Nat), k + r ≤ 24 → bitR H a r k (nI m) = nI (nbF H a r k m) := by
  intro r
  induction r with
  | zero => intro k m h; rfl
  | succ r ih =>
    intro k m h
    show bitR H a r (k + 1) (if sft H k = a then nI m ||| ((1 : Int32) <<< (nI k &&& 31)) else nI m) = nI (nbF H a r (k + 1) (if sft H k = a then m ||| 2 ^ k else m))
    rw [shl1B (by omega), fa_or, ← ih (k + 1) _ (by omega)]
    by_cases e : sft H k = a
    · rw [if_pos e, if_pos e]
    · rw [if_neg e, if_neg e]
theorem nb_bit {H : Nat → Nat} {a j : Nat} : ∀ (r k m : Nat), (nbF H a r k m).testBit j = (m.testBit j || decide (k ≤ j ∧ j < k + r ∧ sft H j = a)) := by
  intro r
  induction r with
  | zero =>
    intro k m
    show m.testBit j = _
    rw [decide_eq_false (by omega), Bool.or_false]
  | succ r ih =>
    intro k m
    show (nbF H a r (k + 1) (if sft H k = a then m ||| 2 ^ k else m)).testBit j = _
    rw [ih]
    by_cases e : sft H k = a
    · rw [if_pos e, Nat.testBit_or, Nat.testBit_two_pow, Bool.or_assoc]
      congr 1
      by_cases f : k = j
      · subst f
        rw [decide_eq_true rfl, Bool.true_or, decide_eq_true (by omega)]
      · rw [decide_eq_false f, Bool.false_or]
        exact decide_eq_decide.mpr (by omega)
    · rw [if_neg e]
      congr 1
      refine decide_eq_decide.mpr ⟨fun q => by omega, fun q => ⟨?_, by omega, q.2.2⟩⟩
      by_cases f : k = j
      · subst f
        exact absurd q.2.2 e
      · omega
theorem nb_lt {H : Nat → Nat} {a b : Nat} : ∀ (r k m : Nat), k + r ≤ b → m < 2 ^ b → nbF H a r k m < 2 ^ b := by
  intro r
  induction r with
  | zero => intro k m h h2; exact h2
  | succ r ih =>
    intro k m h h2
    refine ih _ _ (by omega) ?_
    split
    · exact Nat.or_lt_two_pow h2 (Nat.pow_lt_pow_right (by omega) (by omega))
    · exact h2
/-! ===== lessons ===== -/
def lsB (H : Nat → Nat) (s p : Nat) : Nat := bia H (H (42 + p)) (if s.testBit p then H 2 else H (47 + p))
def anL (H : Nat → Nat) (s k : Nat) : Nat → Nat → Bool
  | 0, _ => false
  | r + 1, p => decide (lsB H s p = sft H k) || anL H s k r (p + 1)
def alL (H : Nat → Nat) (A s : Nat) : Nat → Nat → Bool
  | 0, _ => true
  | r + 1, k => (!A.testBit k || anL H s k (H 4) 0) && alL H A s r (k + 1)
def orL (H : Nat → Nat) (s : Nat) : Nat → Nat → Nat → Nat
  | 0, _, m => m
  | r + 1, p, m => orL H s r (p + 1) (m ||| nbF H (lsB H s p) 24 0 0)
theorem orL_bit {H : Nat → Nat} {s j : Nat} (hj : j < 24) : ∀ (r p m : Nat), (orL H s r p m).testBit j = (m.testBit j || anL H s j r p) := by
  intro r
  induction r with
  | zero =>
    intro p m
    show m.testBit j = (m.testBit j || false)
    rw [Bool.or_false]
  | succ r ih =>
    intro p m
    show (orL H s r (p + 1) (m ||| nbF H (lsB H s p) 24 0 0)).testBit j = (m.testBit j || (decide (lsB H s p = sft H j) || anL H s j r (p + 1)))
    rw [ih, Nat.testBit_or, nb_bit, Nat.zero_testBit, Bool.false_or, Bool.or_assoc]
    congr 2
    exact decide_eq_decide.mpr ⟨fun q => q.2.2.symm, fun q => ⟨by omega, by omega, q.symm⟩⟩
theorem orL_lt {H : Nat → Nat} {s : Nat} : ∀ (r p m : Nat), m < 2 ^ 24 → orL H s r p m < 2 ^ 24 := by
  intro r
  induction r with
  | zero => intro p m h; exact h
  | succ r ih =>
    intro p m h
    exact ih _ _ (Nat.or_lt_two_pow h (nb_lt 24 0 0 (by omega) (by omega)))
theorem alL_iff {H : Nat → Nat} {A s : Nat} : ∀ (r k : Nat), alL H A s r k = true ↔ ∀ j, k ≤ j → j < k + r → A.testBit j = true → anL H s j (H 4) 0 = true := by
  intro r
  induction r with
  | zero =>
    intro k
    exact ⟨fun _ j h1 h2 => by omega, fun _ => rfl⟩
  | succ r ih =>
    intro k
    show ((!A.testBit k || anL H s k (H 4) 0) && alL H A s r (k + 1)) = true ↔ _
    rw [Bool.and_eq_true, ih]
    constructor
    · rintro ⟨h1, h2⟩ j q1 q2 q3
      by_cases e : j = k
      · subst e
        rw [q3] at h1
        exact h1
      · exact h2 j (by omega) (by omega) q3
    · intro h
      refine ⟨?_, fun j q1 q2 q3 => h j (by omega) (by omega) q3⟩
      cases a : A.testBit k
      · rfl
      · exact h k (by omega) (by omega) a
theorem les_iff {H : Nat → Nat} {A s : Nat} (hA : A < 2 ^ 24) : nI A &&& (nI (orL H s (H 4) 0 0) ^^^ (-1)) = 0 ↔ alL H A s 24 0 = true := by
  rw [clr_zero (by omega), alL_iff]
  constructor
  · intro h j _ h2 h3
    have := h j h3
    rw [orL_bit (by omega), Nat.zero_testBit, Bool.false_or] at this
    exact this
  · intro h j hj
    have j24 : j < 24 := by
      by_cases e : j < 24
      · exact e
      · have : A.testBit j = false := Nat.testBit_lt_two_pow (Nat.lt_of_lt_of_le hA (Nat.pow_le_pow_right (by omega) (by omega)))
        rw [this] at hj
        exact absurd hj (by decide)
    rw [orL_bit j24, Nat.zero_testBit, Bool.false_or]
    exact h j (by omega) (by omega) hj
def bet (s : Nat) : Option Nat → Bool
  | none => true
  | some b => decide (popc s < popc b)
def bsR (H : Nat → Nat) (A : Nat) : Nat → Nat → Option Nat → Option Nat
  | 0, _, o => o
  | r + 1, s, o => bsR H A r (s + 1) (if (alL H A s 24 0 && bet s o) = true then some s else o)
def bcO : Option Nat → Int32
  | none => -1000000
  | some b => nI b
def fcO (k : Nat) : Option Nat → Int32
  | none => nI (k + 1)
  | some b => nI (popc b)
def rcO : Option Nat → Int32
  | none => -1
  | some b => nI b
def smO (o : Option Nat) : Prop := ∀ b, o = some b → b < 32
theorem smO_if {s : Nat} {o : Option Nat} {c : Bool} (hs : s < 32) (h : smO o) : smO (if c = true then some s else o) := by
  intro b hb
  cases c
  · exact h b hb
  · have := Option.some.inj hb
    omega
theorem bsR_sm {H : Nat → Nat} {A : Nat} : ∀ (r s : Nat) (o : Option Nat), s + r ≤ 32 → smO o → smO (bsR H A r s o) := by
  intro r
  induction r with
  | zero => intro s o h h2; exact h2
  | succ r ih =>
    intro s o h h2
    exact ih _ _ (by omega) (smO_if (by omega) h2)
def bcF (x : Int32) : Int32 :=
  (fun a : Int32 => (fun b : Int32 => (fun c : Int32 => (fun d : Int32 => (d + k_ushr d 16) &&& 63) (c + k_ushr c 8)) ((b + k_ushr b 4) &&& 252645135)) ((a &&& 858993459) + ((k_ushr a 2) &&& 858993459))) (x - ((k_ushr x 1) &&& 1431655765))
theorem bcF_ok : ∀ m, m < 32 → bcF (nI m) = nI (popc m) := by decide +kernel
theorem popc_32 : ∀ k, k < 6 → ∀ m, m < 2 ^ k → popc m ≤ k := by decide +kernel
