-- how many more
def FW (M : Nat) (B : Nat → Prop) (v : Int32) : Prop := (∃ l, l ≤ M ∧ v = nI l ∧ B l ∧ ∀ m, m < l → ¬ B m) ∨ (v = -9 ∧ ∀ l, l ≤ M → ¬ B l)
theorem FW_u {M : Nat} {B : Nat → Prop} {v w : Int32} (h : FW M B v) (k : FW M B w) : v = w := by
  rcases h with ⟨l, h1, h2, h3, h4⟩ | ⟨h1, h2⟩
  · rcases k with ⟨m, k1, k2, k3, k4⟩ | ⟨k1, k2⟩
    · have : l = m := by
        rcases Nat.lt_trichotomy l m with q | q | q
        · exact absurd h3 (k4 l q)
        · exact q
        · exact absurd k3 (h4 m q)
      rw [h2, k2, this]
    · exact absurd h3 (k2 l h1)
  · rcases k with ⟨m, k1, k2, k3, k4⟩ | ⟨k1, k2⟩
    · exact absurd k3 (h2 m k1)
    · rw [h1, k1]
theorem FW_congr {M : Nat} {B C : Nat → Prop} {v : Int32} (h : FW M B v) (e : ∀ l, l ≤ M → (B l ↔ C l)) : FW M C v := by
  rcases h with ⟨l, h1, h2, h3, h4⟩ | ⟨h1, h2⟩
  · exact Or.inl ⟨l, h1, h2, (e l h1).mp h3, fun m hm q => h4 m hm ((e m (by omega)).mpr q)⟩
  · exact Or.inr ⟨h1, fun l hl q => h2 l hl ((e l hl).mpr q)⟩
def on (s : Nat) : Nat := cnt 8 (fun a => s.testBit a)
theorem on_0 : ∀ s, s < 256 → on s = 0 → s = 0 := by decide +kernel
theorem on_1 : ∀ s, s < 256 → on s = 1 → ∃ a, a < 8 ∧ s = 2 ^ a := by decide +kernel
theorem on_2 : ∀ s, s < 256 → on s = 2 → ∃ a, a < 8 ∧ ∃ b, b < 8 ∧ a < b ∧ s = 2 ^ a ||| 2 ^ b := by decide +kernel
theorem on_a : ∀ a, a < 8 → on (2 ^ a) = 1 := by decide +kernel
theorem on_ab : ∀ a, a < 8 → ∀ b, b < 8 → a < b → on (2 ^ a ||| 2 ^ b) = 2 := by decide +kernel
/-- those who may, so many of them, make it bear -/
def AB (N : Nat) (bk kd wd : Nat → Nat) (q p c m n : Nat) : Prop := ∃ s, s < 2 ^ N ∧ (∀ i, s.testBit i = true → m.testBit i = true) ∧ on s = n ∧ q ≤ bears N bk kd wd p (c ||| s)
theorem AB_0 {N q p c m : Nat} {bk kd wd : Nat → Nat} (hN : N ≤ 8) : AB N bk kd wd q p c m 0 ↔ q ≤ bears N bk kd wd p c := by
  have h8 := pow8 hN
  constructor
  · rintro ⟨s, h1, h2, h3, h4⟩
    rw [on_0 s (by omega) h3, Nat.or_zero] at h4
    exact h4
  · intro h
    exact ⟨0, pow0 N, fun i q => by simp at q, rfl, by rw [Nat.or_zero]; exact h⟩
theorem bit_or2 {a b i : Nat} (h : (2 ^ a ||| 2 ^ b).testBit i = true) : i = a ∨ i = b := by
  rw [Nat.testBit_or, Nat.testBit_two_pow, Nat.testBit_two_pow] at h
  simp at h
  rcases h with h | h
  · exact Or.inl h.symm
  · exact Or.inr h.symm
theorem AB_1 {N q p c m : Nat} {bk kd wd : Nat → Nat} (hN : N ≤ 8) : AB N bk kd wd q p c m 1 ↔ ∃ a, a < N ∧ m.testBit a = true ∧ q ≤ bears N bk kd wd p (c ||| 2 ^ a) := by
  have h8 := pow8 hN
  constructor
  · rintro ⟨s, h1, h2, h3, h4⟩
    obtain ⟨a, ha, rfl⟩ := on_1 s (by omega) h3
    exact ⟨a, (Nat.pow_lt_pow_iff_right (by decide)).mp h1, h2 a (Nat.testBit_two_pow_self), h4⟩
  · rintro ⟨a, h1, h2, h3⟩
    refine ⟨2 ^ a, Nat.pow_lt_pow_right (by decide) h1, fun i hi => ?_, on_a a (by omega), h3⟩
    rw [Nat.testBit_two_pow] at hi
    have : a = i := by simpa using hi
    rw [← this]; exact h2
theorem AB_2 {N q p c m : Nat} {bk kd wd : Nat → Nat} (hN : N ≤ 8) : AB N bk kd wd q p c m 2 ↔ ∃ a b, a < b ∧ b < N ∧ m.testBit a = true ∧ m.testBit b = true ∧ q ≤ bears N bk kd wd p (c ||| (2 ^ a ||| 2 ^ b)) := by
  have h8 := pow8 hN
  constructor
  · rintro ⟨s, h1, h2, h3, h4⟩
    obtain ⟨a, ha, b, hb, hab, rfl⟩ := on_2 s (by omega) h3
    have hbN : b < N := by
      apply (Nat.pow_lt_pow_iff_right (a := 2) (by decide)).mp
      exact Nat.lt_of_le_of_lt Nat.right_le_or h1
    exact ⟨a, b, hab, hbN, h2 a (by rw [Nat.testBit_or, Nat.testBit_two_pow_self]; rfl), h2 b (by rw [Nat.testBit_or, Nat.testBit_two_pow_self (n := b), Bool.or_true]), h4⟩
  · rintro ⟨a, b, hab, hb, h1, h2, h3⟩
    refine ⟨2 ^ a ||| 2 ^ b, Nat.or_lt_two_pow (Nat.pow_lt_pow_right (by decide) (by omega)) (Nat.pow_lt_pow_right (by decide) hb), fun i hi => ?_, on_ab a (by omega) b (by omega) hab, h3⟩
    rcases bit_or2 hi with e | e
    · rw [e]; exact h1
    · rw [e]; exact h2
def T2 (N : Nat) (bk kd wd : Nat → Nat) (q p c m a b : Nat) : Prop := m.testBit a = true ∧ m.testBit b = true ∧ q ≤ bears N bk kd wd p (c ||| (2 ^ a ||| 2 ^ b))
def Fnd2 (N : Nat) (bk kd wd : Nat → Nat) (q p c m k : Nat) (f : Int32) : Prop := (f = 2 ∧ ∃ a b, a < b ∧ b < N ∧ T2 N bk kd wd q p c m a b) ∨ (f = -9 ∧ ∀ a b, a < k → a < b → b < N → ¬ T2 N bk kd wd q p c m a b)
theorem added_in {N q p c m k : Nat} {bk kd wd : Nat → Nat} {borne : Nat → Int32} {size : Int32} {fu : Nat} {r22 : Int32 → Int32 → Int32 → Int32 → Int32 → Int32 → Option Int32} (hB : BT N bk kd wd borne) (hN : N ≤ 8) (hsz : size = nI N) (hw : ∀ a, a < N → wd a ≤ 9) (hq : q ≤ 36) (hp : p < 2 ^ 31) (hc : c < 2 ^ N) (hm : m < 2 ^ N) (hk : k < N) (hmk : m.testBit k = true) : ∀ (d j n : Nat) (f : Int32), N = j + d → d < n → k < j → ((f = 2 ∧ ∃ a b, a < b ∧ b < N ∧ T2 N bk kd wd q p c m a b) ∨ (f = -9 ∧ (∀ a b, a < k → a < b → b < N → ¬ T2 N bk kd wd q p c m a b) ∧ ∀ b, k < b → b < j → ¬ T2 N bk kd wd q p c m k b)) → ∃ f', Fnd2 N bk kd wd q p c m (k + 1) f' ∧ fX4_fewestAdded_b77 fu borne size r22 n (nI q) (nI p) (nI c) (nI m) f (nI k) (nI (c ||| 2 ^ k)) (nI j) = r22 (nI q) (nI p) (nI c) (nI m) f' (nI (k + 1)) := by
  have h8 := pow8 hN
  have hck : c ||| 2 ^ k < 2 ^ N := Nat.or_lt_two_pow hc (Nat.pow_lt_pow_right (by decide) hk)
  intro d
  induction d with
  | zero =>
    intro j n f hj hn hkj hf
    obtain ⟨n, rfl⟩ : ∃ z, n = z + 1 := ⟨n - 1, by omega⟩
    refine ⟨f, ?_, ?_⟩
    · rcases hf with h | ⟨h1, h2, h3⟩
      · exact Or.inl h
      · refine Or.inr ⟨h1, fun a b h4 h5 h6 => ?_⟩
        by_cases e : a = k
        · rw [e]; exact h3 b (by omega) (by omega)
        · exact h2 a b (by omega) h5 h6
    · show fX4_fewestAdded_b77_body fu borne size r22 _ _ _ _ _ _ _ _ _ = _
      unfold fX4_fewestAdded_b77_body
      rw [hsz, if_pos (nI_le (by omega) (by omega)), nI_succ]
  | succ d ih =>
    intro j n f hj hn hkj hf
    obtain ⟨n, rfl⟩ : ∃ z, n = z + 1 := ⟨n - 1, by omega⟩
    rcases hf with ⟨h1, h2⟩ | ⟨h1, h2, h3⟩
    · refine ⟨f, Or.inl ⟨h1, h2⟩, ?_⟩
      show fX4_fewestAdded_b77_body fu borne size r22 _ _ _ _ _ _ _ _ _ = _
      unfold fX4_fewestAdded_b77_body
      rw [hsz, if_neg (nI_ge (by omega) (by omega)), h1, if_neg (by decide), nI_succ]
    · have hjN : j < N := by omega
      have hckj : c ||| 2 ^ k ||| 2 ^ j < 2 ^ N := Nat.or_lt_two_pow hck (Nat.pow_lt_pow_right (by decide) hjN)
      have hb := bears_le (N := N) (bk := bk) (kd := kd) (p := p) (c := c ||| 2 ^ k ||| 2 ^ j) hw
      have e : fX4_fewestAdded_b77 fu borne size r22 (n + 1) (nI q) (nI p) (nI c) (nI m) f (nI k) (nI (c ||| 2 ^ k)) (nI j) = if bI (m.testBit j) = 0 then fX4_fewestAdded_b77 fu borne size r22 n (nI q) (nI p) (nI c) (nI m) f (nI k) (nI (c ||| 2 ^ k)) (nI (j + 1)) else if nI (bears N bk kd wd p (c ||| 2 ^ k ||| 2 ^ j)) < nI q then fX4_fewestAdded_b77 fu borne size r22 n (nI q) (nI p) (nI c) (nI m) f (nI k) (nI (c ||| 2 ^ k)) (nI (j + 1)) else fX4_fewestAdded_b77 fu borne size r22 n (nI q) (nI p) (nI c) (nI m) 2 (nI k) (nI (c ||| 2 ^ k)) (nI (j + 1)) := by
        show fX4_fewestAdded_b77_body fu borne size r22 _ _ _ _ _ _ _ _ _ = _
        unfold fX4_fewestAdded_b77_body
        rw [hsz, if_neg (nI_ge (by omega) (by omega)), if_pos h1, bdS (has8 (by omega) (by omega)), nI_shl (by omega), nI_or, bdS (ofX hB hN hckj hp), nI_succ]
      rw [e]
      have next : ¬ T2 N bk kd wd q p c m k j → ∃ f', Fnd2 N bk kd wd q p c m (k + 1) f' ∧ fX4_fewestAdded_b77 fu borne size r22 n (nI q) (nI p) (nI c) (nI m) f (nI k) (nI (c ||| 2 ^ k)) (nI (j + 1)) = r22 (nI q) (nI p) (nI c) (nI m) f' (nI (k + 1)) := by
        intro hT
        refine ih (j + 1) n f (by omega) (by omega) (by omega) (Or.inr ⟨h1, h2, fun b h4 h5 => ?_⟩)
        by_cases eb : b = j
        · rw [eb]; exact hT
        · exact h3 b h4 (by omega)
      cases hmj : m.testBit j with
      | false =>
        rw [if_pos (show bI false = 0 from rfl)]
        exact next (fun z => by have := z.2.1; rw [hmj] at this; exact absurd this (by decide))
      | true =>
        rw [if_neg (show ¬ bI true = 0 by decide)]
        by_cases hl : q ≤ bears N bk kd wd p (c ||| 2 ^ k ||| 2 ^ j)
        · rw [if_neg (nI_nlt hl (by omega))]
          exact ih (j + 1) n 2 (by omega) (by omega) (by omega) (Or.inl ⟨rfl, k, j, hkj, hjN, hmk, hmj, by rw [← Nat.or_assoc]; exact hl⟩)
        · rw [if_pos (nI_lt (by omega) (by omega))]
          exact next (fun z => hl (by have := z.2.2; rw [← Nat.or_assoc] at this; exact this))
theorem addedX {N q p c m : Nat} {bk kd wd : Nat → Nat} {borne : Nat → Int32} {size : Int32} {fu : Nat} (hfu : 10 ≤ fu) (hB : BT N bk kd wd borne) (hN : N ≤ 8) (hsz : size = nI N) (hw : ∀ a, a < N → wd a ≤ 9) (hq : q ≤ 36) (hp : p < 2 ^ 31) (hc : c < 2 ^ N) (hm : m < 2 ^ N) : ∃ v, fX4_fewestAdded fu borne size (nI q) (nI p) (nI c) (nI m) = some v ∧ FW 2 (AB N bk kd wd q p c m) v := by
  have h8 := pow8 hN
  have hb := bears_le (N := N) (bk := bk) (kd := kd) (p := p) (c := c) hw
  unfold fX4_fewestAdded
  rw [bdS (ofX hB hN hc hp)]
  by_cases h0 : q ≤ bears N bk kd wd p c
  · rw [if_neg (nI_nlt h0 (by omega))]
    exact ⟨0, rfl, Or.inl ⟨0, by omega, rfl, (AB_0 hN).mpr h0, fun m hm => by omega⟩⟩
  · rw [if_pos (nI_lt (by omega) (by omega))]
    have n0 : ¬ AB N bk kd wd q p c m 0 := fun z => h0 ((AB_0 hN).mp z)
    refine lpI (N := N) (k0 := 0) (F := fun n k f => fX4_fewestAdded_b22 fu borne size n (nI q) (nI p) (nI c) (nI m) f (nI k)) (I := fun k f => (∀ a, a < k → ¬ (m.testBit a = true ∧ q ≤ bears N bk kd wd p (c ||| 2 ^ a))) ∧ Fnd2 N bk kd wd q p c m k f) ?_ ?_ N 0 fu (-9) (Nat.le_refl _) ⟨fun a ha => by omega, Or.inr ⟨rfl, fun a b h => by omega⟩⟩ (by omega) (by omega)
    · rintro n f ⟨h1, h2⟩
      have n1 : ¬ AB N bk kd wd q p c m 1 := fun z => by
        obtain ⟨a, z1, z2⟩ := (AB_1 hN).mp z
        exact h1 a z1 z2
      refine ⟨f, ?_, ?_⟩
      · show fX4_fewestAdded_b22_body fu borne size _ _ _ _ _ _ _ = _
        unfold fX4_fewestAdded_b22_body
        rw [hsz, if_pos (nI_le (by omega) (by omega))]
      · rcases h2 with ⟨h2, a, b, h3, h4, h5⟩ | ⟨h2, h3⟩
        · refine Or.inl ⟨2, by omega, h2, (AB_2 hN).mpr ⟨a, b, h3, h4, h5⟩, fun x hx => ?_⟩
          rcases (by omega : x = 0 ∨ x = 1) with rfl | rfl
          · exact n0
          · exact n1
        · refine Or.inr ⟨h2, fun x hx => ?_⟩
          rcases (by omega : x = 0 ∨ x = 1 ∨ x = 2) with rfl | rfl | rfl
          · exact n0
          · exact n1
          · intro z
            obtain ⟨a, b, z1, z2, z3⟩ := (AB_2 hN).mp z
            exact h3 a b (by omega) z1 z2 z3
    · rintro n k f - hk ⟨h1, h2⟩
      have hck : c ||| 2 ^ k < 2 ^ N := Nat.or_lt_two_pow hc (Nat.pow_lt_pow_right (by decide) hk)
      have hbk := bears_le (N := N) (bk := bk) (kd := kd) (p := p) (c := c ||| 2 ^ k) hw
      have e : fX4_fewestAdded_b22 fu borne size (n + 1) (nI q) (nI p) (nI c) (nI m) f (nI k) = if bI (m.testBit k) = 0 then fX4_fewestAdded_b22 fu borne size n (nI q) (nI p) (nI c) (nI m) f (nI (k + 1)) else if nI (bears N bk kd wd p (c ||| 2 ^ k)) < nI q then fX4_fewestAdded_b77 fu borne size (fX4_fewestAdded_b22 fu borne size n) fu (nI q) (nI p) (nI c) (nI m) f (nI k) (nI (c ||| 2 ^ k)) (nI (k + 1)) else some 1 := by
        show fX4_fewestAdded_b22_body fu borne size _ _ _ _ _ _ _ = _
        unfold fX4_fewestAdded_b22_body
        rw [hsz, if_neg (nI_ge (by omega) (by omega)), bdS (has8 (by omega) (by omega)), nI_shl (by omega), nI_or, bdS (ofX hB hN hck hp), nI_succ]
      show (∃ v, fX4_fewestAdded_b22 fu borne size (n + 1) (nI q) (nI p) (nI c) (nI m) f (nI k) = some v ∧ FW 2 (AB N bk kd wd q p c m) v) ∨ ∃ y, _ ∧ fX4_fewestAdded_b22 fu borne size (n + 1) (nI q) (nI p) (nI c) (nI m) f (nI k) = _
      rw [e]
      cases hmk : m.testBit k with
      | false =>
        right
        refine ⟨f, ⟨fun a ha => ?_, ?_⟩, by rw [if_pos (show bI false = 0 from rfl)]⟩
        · by_cases ea : a = k
          · rw [ea, hmk]; exact fun z => absurd z.1 (by decide)
          · exact h1 a (by omega)
        · refine h2.imp id (fun z => ⟨z.1, fun a b h4 h5 h6 => ?_⟩)
          by_cases ea : a = k
          · rw [ea]; exact fun w => by have := w.1; rw [hmk] at this; exact absurd this (by decide)
          · exact z.2 a b (by omega) h5 h6
      | true =>
        rw [if_neg (show ¬ bI true = 0 by decide)]
        by_cases hl : q ≤ bears N bk kd wd p (c ||| 2 ^ k)
        · left
          refine ⟨1, by rw [if_neg (nI_nlt hl (by omega))], Or.inl ⟨1, by omega, rfl, (AB_1 hN).mpr ⟨k, hk, hmk, hl⟩, fun x hx => ?_⟩⟩
          have : x = 0 := by omega
          rw [this]; exact n0
        · right
          obtain ⟨f', g1, g2⟩ := added_in (fu := fu) (r22 := fX4_fewestAdded_b22 fu borne size n) hB hN hsz hw hq hp hc hm hk hmk (N - (k + 1)) (k + 1) fu f (by omega) (by omega) (by omega) (h2.imp id (fun z => ⟨z.1, z.2, fun b h4 h5 => by omega⟩))
          refine ⟨f', ⟨fun a ha => ?_, g1⟩, by rw [if_pos (nI_lt (by omega) (by omega)), g2]⟩
          by_cases ea : a = k
          · rw [ea]; exact fun z => hl z.2
          · exact h1 a (by omega)
