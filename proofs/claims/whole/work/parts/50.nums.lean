-- numbers, bits, least and greatest
theorem i32 (n : Nat) : (OfNat.ofNat n : Int32) = nI n := rfl
theorem rdN {n j : Nat} {f : Nat → Int32} (h : j < n) (hn : n < 2 ^ 31) : rd n f (nI j) = some (f j) := by
  unfold rd
  rw [if_neg (nI_in h hn), nI_clamp (by omega)]
theorem wrN {n j : Nat} {f : Nat → Int32} {x : Int32} (h : j < n) (hn : n < 2 ^ 31) : wr n f (nI j) x = some (upd f j x) := by
  unfold wr
  rw [if_neg (nI_in h hn), nI_clamp (by omega)]
theorem bdS {α β : Type} {x : Option α} {v : α} {k : α → Option β} (h : x = some v) : x.bind k = k v := by rw [h]; rfl
theorem shAmt : ∀ n, n < 32 → ((nI n &&& 31).toBitVec.smod 32).toNat = n := by decide +kernel
theorem nI_or (a b : Nat) : nI a ||| nI b = nI (a ||| b) := by
  apply Int32.toBitVec_inj.mp
  apply BitVec.eq_of_getLsbD_eq
  intro i hi
  show ((BitVec.ofNat 32 a) ||| (BitVec.ofNat 32 b)).getLsbD i = (BitVec.ofNat 32 (a ||| b)).getLsbD i
  simp [BitVec.getLsbD_ofNat, hi]
theorem nI_and (a b : Nat) : nI a &&& nI b = nI (a &&& b) := by
  apply Int32.toBitVec_inj.mp
  apply BitVec.eq_of_getLsbD_eq
  intro i hi
  show ((BitVec.ofNat 32 a) &&& (BitVec.ofNat 32 b)).getLsbD i = (BitVec.ofNat 32 (a &&& b)).getLsbD i
  simp [BitVec.getLsbD_ofNat, hi]
theorem nI_shl {a : Nat} (h : a < 31) : (1 : Int32) <<< (nI a &&& 31) = nI (2 ^ a) := by
  have h1 : 2 ^ a < 2 ^ 31 := Nat.pow_lt_pow_right (by omega) h
  have := pk_shlN (n := 1) (nI a &&& 31) a (shAmt a (by omega)) (by omega)
  rw [Nat.one_mul] at this
  exact this
theorem nI_bit {c a : Nat} (hc : c < 2 ^ 31) (ha : a < 31) : (nI c >>> (nI a &&& 31)) &&& 1 = if c.testBit a then 1 else 0 := by
  rw [pk_shrN hc (nI a &&& 31) a (shAmt a (by omega))]
  have h1 : c / 2 ^ a ≤ c := Nat.div_le_self _ _
  rw [pk_andN (by omega) (m := 1) 1 (by decide)]
  rw [Nat.testBit_eq_decide_div_mod_eq]
  rcases (by omega : c / 2 ^ a % 2 ^ 1 = 0 ∨ c / 2 ^ a % 2 ^ 1 = 1) with h | h
  · rw [h]
    have h2 : c / 2 ^ a % 2 = 0 := h
    simp [h2]
    rfl
  · rw [h]
    have h2 : c / 2 ^ a % 2 = 1 := h
    simp [h2]
    rfl
def bI (b : Bool) : Int32 := if b then 1 else 0
theorem has8 {fu c a : Nat} (hc : c < 2 ^ 31) (ha : a < 31) : fX8_has fu (nI c) (nI a) = some (bI (c.testBit a)) := by
  unfold fX8_has
  rw [nI_bit hc ha]
  cases c.testBit a <;> rfl
theorem has9 {fu c a : Nat} (hc : c < 2 ^ 31) (ha : a < 31) : fX9_has fu (nI c) (nI a) = some (bI (c.testBit a)) := by
  unfold fX9_has
  rw [nI_bit hc ha]
  cases c.testBit a <;> rfl
/-- the set of those below n for which P -/
def mkS : Nat → (Nat → Bool) → Nat
  | 0, _ => 0
  | n + 1, P => mkS n P ||| (if P n then 2 ^ n else 0)
theorem mkS_bit (n : Nat) (P : Nat → Bool) (i : Nat) : (mkS n P).testBit i = (decide (i < n) && P i) := by
  induction n with
  | zero => simp [mkS]
  | succ n ih =>
    rw [mkS, Nat.testBit_or, ih]
    by_cases hi : i = n
    · subst hi
      cases P i <;> simp [Nat.testBit_two_pow_self]
    · have h1 : (if P n then 2 ^ n else 0).testBit i = false := by
        cases P n
        · simp
        · simp [Nat.testBit_two_pow]
          omega
      rw [h1]
      have h2 : decide (i < n + 1) = decide (i < n) := by
        apply decide_eq_decide.mpr
        omega
      rw [h2]
      simp
theorem mkS_lt (n : Nat) (P : Nat → Bool) : mkS n P < 2 ^ n := by
  apply Nat.lt_pow_two_of_testBit
  intro i hi
  rw [mkS_bit]
  have : decide (i < n) = false := decide_eq_false (by omega)
  rw [this]
  rfl
theorem mkS_of {n c : Nat} (h : c < 2 ^ n) : mkS n (fun i => c.testBit i) = c := by
  apply Nat.eq_of_testBit_eq
  intro i
  rw [mkS_bit]
  by_cases hi : i < n
  · simp [hi]
  · have : c.testBit i = false := Nat.testBit_lt_two_pow (Nat.lt_of_lt_of_le h (Nat.pow_le_pow_right (by omega) (by omega)))
    simp [this]
theorem mkS_congr {n : Nat} {P Q : Nat → Bool} (h : ∀ i, i < n → P i = Q i) : mkS n P = mkS n Q := by
  apply Nat.eq_of_testBit_eq
  intro i
  rw [mkS_bit, mkS_bit]
  by_cases hi : i < n
  · rw [h i hi]
  · simp [hi]
theorem mkS_ext {n m : Nat} {P : Nat → Bool} (hn : n ≤ m) (h : ∀ i, n ≤ i → i < m → P i = false) : mkS m P = mkS n P := by
  apply Nat.eq_of_testBit_eq
  intro i
  rw [mkS_bit, mkS_bit]
  by_cases hi : i < n
  · have : i < m := by omega
    simp [hi, this]
  · by_cases h2 : i < m
    · simp [hi, h2, h i (by omega) h2]
    · simp [hi, h2]
/-- the greatest of f below n (0: none) -/
def sup : Nat → (Nat → Nat) → Nat
  | 0, _ => 0
  | n + 1, f => max (sup n f) (f n)
theorem le_sup {n : Nat} {f : Nat → Nat} {i : Nat} (h : i < n) : f i ≤ sup n f := by
  induction n with
  | zero => omega
  | succ n ih =>
    rw [sup]
    by_cases hi : i = n
    · subst hi; exact Nat.le_max_right _ _
    · exact Nat.le_trans (ih (by omega)) (Nat.le_max_left _ _)
theorem sup_le {n : Nat} {f : Nat → Nat} {b : Nat} (h : ∀ i, i < n → f i ≤ b) : sup n f ≤ b := by
  induction n with
  | zero => exact Nat.zero_le _
  | succ n ih =>
    rw [sup]
    exact Nat.max_le.mpr ⟨ih (fun i hi => h i (by omega)), h n (by omega)⟩
theorem sup_congr {n : Nat} {f g : Nat → Nat} (h : ∀ i, i < n → f i = g i) : sup n f = sup n g := by
  induction n with
  | zero => rfl
  | succ n ih => rw [sup, sup, ih (fun i hi => h i (by omega)), h n (by omega)]
theorem sup_at {n : Nat} {f : Nat → Nat} (h : 0 < sup n f) : ∃ i, i < n ∧ f i = sup n f := by
  induction n with
  | zero => simp [sup] at h
  | succ n ih =>
    rw [sup] at h ⊢
    rcases Nat.le_total (sup n f) (f n) with q | q
    · exact ⟨n, by omega, (Nat.max_eq_right q).symm⟩
    · rw [Nat.max_eq_left q] at h ⊢
      obtain ⟨i, hi, e⟩ := ih h
      exact ⟨i, by omega, e⟩
/-- the least of b and f below n -/
def inf : Nat → Nat → (Nat → Nat) → Nat
  | b, 0, _ => b
  | b, n + 1, f => min (inf b n f) (f n)
theorem inf_le {b n : Nat} {f : Nat → Nat} {i : Nat} (h : i < n) : inf b n f ≤ f i := by
  induction n with
  | zero => omega
  | succ n ih =>
    rw [inf]
    by_cases hi : i = n
    · subst hi; exact Nat.min_le_right _ _
    · exact Nat.le_trans (Nat.min_le_left _ _) (ih (by omega))
theorem le_inf {b n : Nat} {f : Nat → Nat} {x : Nat} (hb : x ≤ b) (h : ∀ i, i < n → x ≤ f i) : x ≤ inf b n f := by
  induction n with
  | zero => exact hb
  | succ n ih =>
    rw [inf]
    exact Nat.le_min.mpr ⟨ih (fun i hi => h i (by omega)), h n (by omega)⟩
theorem inf_le_b (b n : Nat) (f : Nat → Nat) : inf b n f ≤ b := by
  induction n with
  | zero => exact Nat.le_refl _
  | succ n ih => rw [inf]; exact Nat.le_trans (Nat.min_le_left _ _) ih
theorem inf_congr {b n : Nat} {f g : Nat → Nat} (h : ∀ i, i < n → f i = g i) : inf b n f = inf b n g := by
  induction n with
  | zero => rfl
  | succ n ih => rw [inf, inf, ih (fun i hi => h i (by omega)), h n (by omega)]
theorem mxN {a b : Nat} (ha : a < 2 ^ 31) (hb : b < 2 ^ 31) : mx (nI a) (nI b) = nI (max a b) := by
  unfold mx
  by_cases h : a < b
  · rw [if_pos (nI_lt h hb), Nat.max_eq_right (by omega)]
  · rw [if_neg (nI_nlt (by omega) ha), Nat.max_eq_left (by omega)]
theorem mnN {a b : Nat} (ha : a < 2 ^ 31) (hb : b < 2 ^ 31) : mn (nI a) (nI b) = nI (min a b) := by
  unfold mn
  by_cases h : b < a
  · rw [if_pos (nI_lt h ha), Nat.min_eq_right (by omega)]
  · rw [if_neg (nI_nlt (by omega) hb), Nat.min_eq_left (by omega)]
theorem if10 {α : Type} {a b : α} : (if (1 : Int32) = 0 then a else b) = b := if_neg (by decide)
theorem if00 {α : Type} {a b : α} : (if (0 : Int32) = 0 then a else b) = a := if_pos rfl
theorem if01 {α : Type} {a b : α} : (if (0 : Int32) = 1 then a else b) = b := if_neg (by decide)
theorem if11 {α : Type} {a b : α} : (if (1 : Int32) = 1 then a else b) = a := if_pos rfl
theorem if20 {α : Type} {a b : α} : (if (2 : Int32) = 0 then a else b) = b := if_neg (by decide)
theorem if21 {α : Type} {a b : α} : (if (2 : Int32) = 1 then a else b) = b := if_neg (by decide)
theorem if22 {α : Type} {a b : α} : (if (2 : Int32) = 2 then a else b) = a := if_pos rfl
