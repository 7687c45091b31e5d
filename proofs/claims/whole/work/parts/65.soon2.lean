-- soon
theorem mkS_succ (n : Nat) (P : Nat → Bool) : mkS (n + 1) P = mkS n P ||| (if P n then 2 ^ n else 0) := rfl
def CS (N : Nat) (bk kd wd sl : Nat → Nat) (r : Nat → Int32) (d q n p : Nat) : Prop := ∃ s, s < 2 ^ N ∧ s &&& gs N r p = 0 ∧ on s < 3 ∧ q ≤ bears N bk kd wd p (cb N r p (d + n) ||| (s &&& qk N sl n))
theorem cnt_mono {n : Nat} {P Q : Nat → Bool} (h : ∀ i, i < n → P i = true → Q i = true) : cnt n P ≤ cnt n Q := by
  induction n with
  | zero => exact Nat.le_refl _
  | succ n ih =>
    rw [cnt, cnt]
    have := ih (fun i hi => h i (by omega))
    have h2 := h n (by omega)
    cases hp : P n
    · simp; split <;> omega
    · rw [h2 hp]; simp; omega
theorem CS_AB {N d q n p : Nat} {bk kd wd sl : Nat → Nat} {r : Nat → Int32} (hN : N ≤ 8) : CS N bk kd wd sl r d q n p ↔ ∃ l, l ≤ 2 ∧ AB N bk kd wd q p (cb N r p (d + n)) (cut (qk N sl n) (gs N r p)) l := by
  constructor
  · rintro ⟨s, h1, h2, h3, h4⟩
    have hm : on (s &&& qk N sl n) ≤ on s := cnt_mono (fun i _ hi => by rw [Nat.testBit_and] at hi; simp at hi; exact hi.1)
    refine ⟨on (s &&& qk N sl n), by omega, s &&& qk N sl n, Nat.lt_of_le_of_lt Nat.and_le_left h1, fun i hi => ?_, rfl, h4⟩
    rw [Nat.testBit_and] at hi
    simp at hi
    have h5 : (s &&& gs N r p).testBit i = false := by rw [h2, Nat.zero_testBit]
    rw [Nat.testBit_and, hi.1, Bool.true_and] at h5
    have hi8 : i < 8 := by
      rcases Nat.lt_or_ge i N with z | z
      · omega
      · have := hi.1
        rw [Nat.testBit_lt_two_pow (Nat.lt_of_lt_of_le h1 (Nat.pow_le_pow_right (by omega) z))] at this
        exact absurd this (by decide)
    rw [cut_bit, hi.2, h5]
    simp [hi8]
  · rintro ⟨l, hl, s, h1, h2, h3, h4⟩
    have e1 : s &&& gs N r p = 0 := by
      apply Nat.eq_of_testBit_eq
      intro i
      rw [Nat.testBit_and, Nat.zero_testBit]
      cases hb : s.testBit i with
      | false => rfl
      | true =>
        have := h2 i hb
        rw [cut_bit] at this
        simp at this
        simp [this]
    have e2 : s &&& qk N sl n = s := by
      apply Nat.eq_of_testBit_eq
      intro i
      rw [Nat.testBit_and]
      cases hb : s.testBit i with
      | false => rfl
      | true =>
        have := h2 i hb
        rw [cut_bit] at this
        simp at this
        simp [this]
    exact ⟨s, h1, e1, by omega, by rw [e2]; exact h4⟩
theorem can9_sets {N P q p c g u : Nat} {bk kd wd sl : Nat → Nat} {t r : Nat → Int32} {fu : Nat} (hfu : 300 ≤ fu) (hT : TR N P bk kd wd sl t) (hq : q ≤ 36) (hp : p < 8) (hc : c < 2 ^ N) : ∃ y, fX9_canSoon_b118 fu t r fu (nI p) (nI q) (nI g) (nI c) (nI u) 0 = some y ∧ ∃ b : Bool, y = bI b ∧ (b = true ↔ ∃ s, s < 2 ^ N ∧ s &&& g = 0 ∧ on s < 3 ∧ q ≤ bears N bk kd wd p (c ||| (s &&& u))) := by
  obtain ⟨hP1, hP8, hN⟩ := hT.1.2.2
  have h8 := pow8 hN
  have hw9 : ∀ a, a < N → wd a ≤ 9 := fun a ha => (hT.wf.2 a ha).2.2.1.2
  refine lpI (N := 2 ^ N) (k0 := 0) (F := fun n k (_ : Unit) => fX9_canSoon_b118 fu t r n (nI p) (nI q) (nI g) (nI c) (nI u) (nI k)) (I := fun k _ => ∀ s, s < k → ¬ (s &&& g = 0 ∧ on s < 3 ∧ q ≤ bears N bk kd wd p (c ||| (s &&& u)))) ?_ ?_ (2 ^ N) 0 fu () (Nat.le_refl _) (fun s hs => by omega) (by omega) (by omega)
  · intro n _ hI
    refine ⟨0, ?_, false, rfl, ⟨fun z => absurd z (by decide), fun ⟨s, h1, h2⟩ => absurd h2 (hI s h1)⟩⟩
    show fX9_canSoon_b118_body fu t r _ _ _ _ _ _ _ = _
    unfold fX9_canSoon_b118_body
    rw [bdS hT.n, nI_shl (by omega), if_pos (nI_le (by omega) (by omega))]
  · intro n k _ _ hk hI
    have hsu : k &&& u ≤ k := Nat.and_le_left
    have hgk : c ||| (k &&& u) < 2 ^ N := Nat.or_lt_two_pow hc (by omega)
    have hb := bears_le (N := N) (bk := bk) (kd := kd) (p := p) (c := c ||| (k &&& u)) hw9
    have ho := on_le k
    have e : fX9_canSoon_b118 fu t r (n + 1) (nI p) (nI q) (nI g) (nI c) (nI u) (nI k) = if nI k &&& nI g = 0 then (if 3 ≤ nI (on k) then fX9_canSoon_b118 fu t r n (nI p) (nI q) (nI g) (nI c) (nI u) (nI (k + 1)) else if nI (bears N bk kd wd p (c ||| (k &&& u))) < nI q then fX9_canSoon_b118 fu t r n (nI p) (nI q) (nI g) (nI c) (nI u) (nI (k + 1)) else some 1) else fX9_canSoon_b118 fu t r n (nI p) (nI q) (nI g) (nI c) (nI u) (nI (k + 1)) := by
      show fX9_canSoon_b118_body fu t r _ _ _ _ _ _ _ = _
      unfold fX9_canSoon_b118_body
      rw [bdS hT.n, nI_shl (by omega), if_neg (nI_ge (by omega) (by omega)), bdS (onesO (by omega) (by omega)), nI_and k u, nI_or, bdS (bears9 hT (by omega) (by omega) (by omega)), nI_succ]
    show (∃ y, fX9_canSoon_b118 fu t r (n + 1) (nI p) (nI q) (nI g) (nI c) (nI u) (nI k) = some y ∧ _) ∨ ∃ y : Unit, _ ∧ fX9_canSoon_b118 fu t r (n + 1) (nI p) (nI q) (nI g) (nI c) (nI u) (nI k) = fX9_canSoon_b118 fu t r n (nI p) (nI q) (nI g) (nI c) (nI u) (nI (k + 1))
    rw [e]
    have skip : ¬ (k &&& g = 0 ∧ on k < 3 ∧ q ≤ bears N bk kd wd p (c ||| (k &&& u))) → ∀ s, s < k + 1 → ¬ (s &&& g = 0 ∧ on s < 3 ∧ q ≤ bears N bk kd wd p (c ||| (s &&& u))) := by
      intro h s hs
      by_cases es : s = k
      · rw [es]; exact h
      · exact hI s (by omega)
    by_cases h1 : k &&& g = 0
    · rw [if_pos ((and0 (by omega)).mpr h1)]
      by_cases h2 : 3 ≤ on k
      · rw [if_pos (show 3 ≤ nI (on k) from nI_le (a := 3) h2 (by omega))]
        exact Or.inr ⟨(), skip (fun z => by have := z.2.1; omega), rfl⟩
      · rw [if_neg (show ¬ 3 ≤ nI (on k) from nI_ge (b := 3) (by omega) (by decide))]
        by_cases hl : q ≤ bears N bk kd wd p (c ||| (k &&& u))
        · rw [if_neg (nI_nlt hl (by omega))]
          exact Or.inl ⟨1, rfl, true, rfl, ⟨fun _ => ⟨k, hk, h1, by omega, hl⟩, fun _ => rfl⟩⟩
        · rw [if_pos (nI_lt (by omega) (by omega))]
          exact Or.inr ⟨(), skip (fun z => hl z.2.2), rfl⟩
    · rw [if_neg (fun z => h1 ((and0 (by omega)).mp z))]
      exact Or.inr ⟨(), skip (fun z => h1 z.1), rfl⟩
theorem can9 {N P d x q p n : Nat} {bk kd wd sl : Nat → Nat} {t came under due r : Nat → Int32} {fu : Nat} (hfu : 300 ≤ fu) (hT : TR N P bk kd wd sl t) (hR : PR N P d x came under due r) (hd : d < 2 ^ 29) (hn : n < 2 ^ 29) (hq : q ≤ 36) (hp : p < 8) : ∃ b : Bool, fX9_canSoon fu t r (nI p) (nI q) (nI n) = some (bI b) ∧ (b = true ↔ CS N bk kd wd sl r d q n p) := by
  obtain ⟨hP1, hP8, hN⟩ := hT.1.2.2
  have h8 := pow8 hN
  obtain ⟨y, h1, b, h2, h3⟩ := can9_sets (fu := fu) (r := r) (g := gs N r p) (c := cb N r p (d + n)) (u := qk N sl n) (q := q) hfu hT hq hp (cb_lt _ _ _ _)
  refine ⟨b, ?_, h3⟩
  unfold fX9_canSoon
  rw [bdS (gave9 hT (by omega) hp), ← h2, ← h1]
  have z : ∀ x, nI x ||| (0 : Int32) = nI x := fun x => by rw [show (0 : Int32) = nI 0 from rfl, nI_or, Nat.or_zero]
  refine lp (N := N) (G := fun m k => fX9_canSoon_b16 fu t r m (nI p) (nI q) (nI n) (nI (gs N r p)) (nI (mkS k (fun a => decide (r (2 + 8 * a + p) = -1 ∨ (0 < r (2 + 8 * a + p) ∧ r (2 + 8 * a + p) ≤ nI (d + n + 1)))))) (nI (mkS k (fun a => decide (sl a ≤ n)))) (nI k)) ?_ ?_ N 0 fu (by omega) (by omega)
  · intro m
    show fX9_canSoon_b16_body fu t r _ _ _ _ _ _ _ _ = _
    unfold fX9_canSoon_b16_body
    rw [bdS hT.n, if_pos (nI_le (by omega) (by omega))]
    rfl
  · intro m k hk
    right
    have K := hT.wf.2 k hk
    have e79 : ∀ s0 : Bool, fX9_canSoon_b79 fu t r (fX9_canSoon_b16 fu t r m) (nI p) (nI q) (nI n) (nI (gs N r p)) (nI (mkS k (fun a => decide (sl a ≤ n)))) (nI k) (if s0 then nI (2 ^ k) else 0) (nI (mkS k (fun a => decide (r (2 + 8 * a + p) = -1 ∨ (0 < r (2 + 8 * a + p) ∧ r (2 + 8 * a + p) ≤ nI (d + n + 1)))))) = fX9_canSoon_b16 fu t r m (nI p) (nI q) (nI n) (nI (gs N r p)) (nI (mkS k (fun a => decide (r (2 + 8 * a + p) = -1 ∨ (0 < r (2 + 8 * a + p) ∧ r (2 + 8 * a + p) ≤ nI (d + n + 1)))) ||| (if s0 then 2 ^ k else 0))) (nI (mkS (k + 1) (fun a => decide (sl a ≤ n)))) (nI (k + 1)) := by
      intro s0
      unfold fX9_canSoon_b79
      have e0 : ∀ A, nI A ||| (if s0 then nI (2 ^ k) else 0) = nI (A ||| (if s0 then 2 ^ k else 0)) := by
        intro A
        cases s0
        · simp [z]
        · simp [nI_or]
      rw [bdS (hT.sl hk), e0, z, mkS, ← nI_succ, nI_shl (by omega), nI_or]
      by_cases h : sl k ≤ n
      · rw [if_neg (nI_nlt h (by omega))]
        simp [h]
      · rw [if_pos (nI_lt (by omega) (by omega))]
        simp [h]
    show fX9_canSoon_b16_body fu t r _ _ _ _ _ _ _ _ = _
    unfold fX9_canSoon_b16_body
    have r0 : rd 66 r 0 = some (nI d) := by rw [← hR.1.1]; exact rdN (j := 0) (by omega) (by decide)
    rw [bdS hT.n, if_neg (nI_ge (by omega) (by omega)), ix9, bdS (rdN (by omega) (by decide)), r0, mkS_succ k (fun a => decide (r (2 + 8 * a + p) = -1 ∨ (0 < r (2 + 8 * a + p) ∧ r (2 + 8 * a + p) ≤ nI (d + n + 1))))]
    have t1 := e79 true
    have t0 := e79 false
    simp only [if_true, Bool.false_eq_true, if_false, Nat.or_zero] at t1 t0
    rw [nI_shl (by omega)]
    rcases (hR.2.2 k p (by omega) hp).1 with h | h | ⟨e, h1, h2, h3, -⟩
    · rw [h, if_neg (by decide), if_pos (by decide), t0]
      simp
    · rw [h, if_pos rfl, t1]
      simp
    · have qp := nIp0 (a := e + 1) (by omega) (by omega)
      rw [h3, if_neg (pos_ne qp).2, if_neg (Int32.not_le.mpr qp)]
      show (if nI d + nI n < nI (e + 1) - 1 then _ else _) = _
      rw [nI_add, show nI (e + 1) - 1 = nI e by rw [show (1 : Int32) = nI 1 from rfl, pk_sub (by omega)]; rfl]
      have n1 := (pos_ne qp).2
      by_cases hl : d + n < e
      · rw [if_pos (nI_lt hl (by omega)), t0]
        have : ¬ nI (e + 1) ≤ nI (d + n + 1) := nI_ge (by omega) (by omega)
        simp [n1, this]
      · rw [if_neg (nI_nlt (by omega) (by omega)), t1]
        have : nI (e + 1) ≤ nI (d + n + 1) := nI_le (by omega) (by omega)
        simp [qp, this]
theorem possX {N P d x q n : Nat} {bk kd wd sl : Nat → Nat} {came under due r borne bank kind word slow : Nat → Int32} {planks size sworn : Int32} {fu : Nat} (hfu : 10 ≤ fu) (hW : WF N P bk kd wd sl) (hF : FR N P bk kd wd sl planks size sworn bank kind word slow) (hB : BT N bk kd wd borne) (hR : PR N P d x came under due r) (hd : d < 2 ^ 29) (hn : n < 2 ^ 29) (hq : q ≤ 36) : ∃ y, fX4_possibleBehind fu size slow planks (nI d) came under due borne (nI n) (nI q) = some y ∧ ∃ b : Bool, y = bI b ∧ (b = true ↔ ∀ p, p < P → CS N bk kd wd sl r d q n p) := by
  obtain ⟨hP1, hP8, hN⟩ := hW.1
  have h8 := pow8 hN
  have hw9 : ∀ a, a < N → wd a ≤ 9 := fun a ha => (hW.2 a ha).2.2.1.2
  unfold fX4_possibleBehind
  rw [bdS (quickX (by omega) hW hF (by omega))]
  refine lpI (N := P) (k0 := 0) (F := fun m k (_ : Unit) => fX4_possibleBehind_b9 fu size slow planks (nI d) came under due borne m (nI n) (nI q) (nI (qk N sl n)) (nI k)) (I := fun k _ => ∀ p, p < k → CS N bk kd wd sl r d q n p) ?_ ?_ P 0 fu () (Nat.le_refl _) (fun s hs => by omega) (by omega) (by omega)
  · intro m _ hI
    refine ⟨1, ?_, true, rfl, ⟨fun _ => hI, fun _ => rfl⟩⟩
    show fX4_possibleBehind_b9_body fu size slow planks (nI d) came under due borne _ _ _ _ _ = _
    unfold fX4_possibleBehind_b9_body
    rw [hF.1.1, if_pos (nI_le (by omega) (by omega))]
  · intro m k _ _ hk hI
    have hql : qk N sl n < 2 ^ N := mkS_lt _ _
    obtain ⟨v, h1, h2⟩ := addedX (fu := fu) (q := q) (p := k) (c := cb N r k (d + n)) (m := cut (qk N sl n) (gs N r k)) hfu hB hN hF.1.2.1 hw9 hq (by omega) (cb_lt _ _ _ _) (cut_lt hql)
    have e : fX4_possibleBehind_b9 fu size slow planks (nI d) came under due borne (m + 1) (nI n) (nI q) (nI (qk N sl n)) (nI k) = if v = -9 then some 0 else fX4_possibleBehind_b9 fu size slow planks (nI d) came under due borne m (nI n) (nI q) (nI (qk N sl n)) (nI (k + 1)) := by
      show fX4_possibleBehind_b9_body fu size slow planks (nI d) came under due borne _ _ _ _ _ = _
      unfold fX4_possibleBehind_b9_body
      rw [if_neg (by rw [hF.1.1]; exact nI_ge (by omega) (by omega)), nI_add, bdS (cameByX (by omega) hR.rr hN (by omega) (by omega) (by omega) (hR.2.1 k (by omega)).1 (hR.2.1 k (by omega)).2), bdS (rdN (by omega) (by decide)), bdS (rdN (by omega) (by decide)), (hR.2.1 k (by omega)).1, (hR.2.1 k (by omega)).2, nI_or, gs_or hR hN (by omega) (by omega), nI_cut (by omega), bdS h1, nI_succ]
    show (∃ y, fX4_possibleBehind_b9 fu size slow planks (nI d) came under due borne (m + 1) (nI n) (nI q) (nI (qk N sl n)) (nI k) = some y ∧ _) ∨ ∃ y : Unit, _ ∧ fX4_possibleBehind_b9 fu size slow planks (nI d) came under due borne (m + 1) (nI n) (nI q) (nI (qk N sl n)) (nI k) = fX4_possibleBehind_b9 fu size slow planks (nI d) came under due borne m (nI n) (nI q) (nI (qk N sl n)) (nI (k + 1))
    rw [e]
    rcases h2 with ⟨l, i1, i2, i3, i4⟩ | ⟨i1, i2⟩
    · right
      refine ⟨(), fun p hp => ?_, ?_⟩
      · by_cases ep : p = k
        · rw [ep]; exact (CS_AB hN).mpr ⟨l, i1, i3⟩
        · exact hI p (by omega)
      · rw [if_neg (show ¬ v = -9 by rw [i2]; rcases (by omega : l = 0 ∨ l = 1 ∨ l = 2) with rfl | rfl | rfl <;> decide)]
    · left
      refine ⟨0, by rw [if_pos i1], false, rfl, ⟨fun z => absurd z (by decide), fun z => ?_⟩⟩
      obtain ⟨l, l1, l2⟩ := (CS_AB hN).mp (z k hk)
      exact absurd l2 (i2 l l1)
theorem fposX {N P d x q : Nat} {bk kd wd sl : Nat → Nat} {came under due r borne bank kind word slow : Nat → Int32} {planks size sworn : Int32} {fu : Nat} (hfu : 22 ≤ fu) (hW : WF N P bk kd wd sl) (hF : FR N P bk kd wd sl planks size sworn bank kind word slow) (hB : BT N bk kd wd borne) (hR : PR N P d x came under due r) (hd : d < 2 ^ 29) (hq : q ≤ 36) : ∃ v, fX4_firstPossible fu size slow planks (nI d) came under due borne (nI q) = some v ∧ FV (fun n => ∀ p, p < P → CS N bk kd wd sl r d q n p) v := by
  refine lpI (N := 21) (k0 := 0) (F := fun m k (_ : Unit) => fX4_firstPossible_b2 fu size slow planks (nI d) came under due borne m (nI q) (nI k)) (I := fun k _ => ∀ n, n < k → ¬ ∀ p, p < P → CS N bk kd wd sl r d q n p) ?_ ?_ 21 0 fu () (Nat.le_refl _) (fun p hp => by omega) (by omega) (by omega)
  · intro m _ hI
    refine ⟨-9, ?_, Or.inr ⟨rfl, fun l hl => hI l (by omega)⟩⟩
    show fX4_firstPossible_b2_body fu size slow planks (nI d) came under due borne _ _ _ = _
    unfold fX4_firstPossible_b2_body
    rw [if_pos (by decide)]
  · intro m k _ _ hk hI
    obtain ⟨y, h1, b, h2, h3⟩ := possX (fu := fu) (q := q) (n := k) (by omega) hW hF hB hR hd (by omega) hq
    have e : fX4_firstPossible_b2 fu size slow planks (nI d) came under due borne (m + 1) (nI q) (nI k) = if bI b = 0 then fX4_firstPossible_b2 fu size slow planks (nI d) came under due borne m (nI q) (nI k + 1) else some (nI k) := by
      show fX4_firstPossible_b2_body fu size slow planks (nI d) came under due borne _ _ _ = _
      unfold fX4_firstPossible_b2_body
      rw [if_neg (show ¬ 20 < nI k from nI_nlt (a := 20) (b := k) (by omega) (by omega)), bdS h1, h2]
    cases b with
    | true =>
      left
      refine ⟨nI k, ?_, Or.inl ⟨k, by omega, rfl, h3.mp rfl, hI⟩⟩
      show fX4_firstPossible_b2 fu size slow planks (nI d) came under due borne (m + 1) (nI q) (nI k) = _
      rw [e, if_neg (by decide)]
    | false =>
      right
      refine ⟨(), ?_, ?_⟩
      · intro p hp
        by_cases ep : p = k
        · rw [ep]; exact fun z => absurd (h3.mpr z) (by decide)
        · exact hI p (by omega)
      · show fX4_firstPossible_b2 fu size slow planks (nI d) came under due borne (m + 1) (nI q) (nI k) = _
        rw [e, if_pos (by decide), nI_succ]
theorem soon9_in {N P d x q n : Nat} {bk kd wd sl : Nat → Nat} {t came under due r : Nat → Int32} {fu : Nat} {r16 : Int32 → Int32 → Int32 → Option (Int32 × Int32)} (hfu : 300 ≤ fu) (hT : TR N P bk kd wd sl t) (hR : PR N P d x came under due r) (hd : d < 2 ^ 29) (hn : n < 2 ^ 29) (hq : q ≤ 36) : ∃ b : Bool, (b = true ↔ ∀ p, p < P → CS N bk kd wd sl r d q n p) ∧ fX9_soon_b27 fu t r r16 fu (nI q) (nI n) 1 0 0 = fX9_soon_b57 fu t r r16 (nI q) (nI n) (bI b) 0 := by
  obtain ⟨hP1, hP8, hN⟩ := hT.1.2.2
  have key : ∀ m k f, P = k + m → m < f → ∀ c : Bool, (c = true ↔ ∀ p, p < k → CS N bk kd wd sl r d q n p) → ∃ b : Bool, (b = true ↔ ∀ p, p < P → CS N bk kd wd sl r d q n p) ∧ fX9_soon_b27 fu t r r16 f (nI q) (nI n) (bI c) (nI k) 0 = fX9_soon_b57 fu t r r16 (nI q) (nI n) (bI b) 0 := by
    intro m
    induction m with
    | zero =>
      intro k f hk hf c hc
      obtain ⟨f, rfl⟩ : ∃ z, f = z + 1 := ⟨f - 1, by omega⟩
      have ek : k = P := by omega
      refine ⟨c, by rw [← ek]; exact hc, ?_⟩
      show fX9_soon_b27_body fu t r r16 _ _ _ _ _ _ = _
      unfold fX9_soon_b27_body
      rw [bdS hT.p, if_pos (nI_le (by omega) (by omega))]
    | succ m ih =>
      intro k f hk hf c hc
      obtain ⟨f, rfl⟩ : ∃ z, f = z + 1 := ⟨f - 1, by omega⟩
      obtain ⟨b, h1, h2⟩ := can9 (fu := fu) (q := q) (p := k) (n := n) hfu hT hR hd hn hq (by omega)
      show ∃ b : Bool, _ ∧ fX9_soon_b27_body fu t r r16 _ _ _ _ _ _ = _
      unfold fX9_soon_b27_body
      rw [bdS hT.p, if_neg (nI_ge (by omega) (by omega))]
      cases c with
      | false =>
        refine ⟨false, ⟨fun z => absurd z (by decide), fun z => ?_⟩, by rw [if_pos (by decide)]⟩
        exact absurd (hc.mpr (fun p hp => z p (by omega))) (by decide)
      | true =>
        rw [if_neg (by decide), bdS h1, ← nI_succ]
        refine ih (k + 1) f (by omega) (by omega) b ?_
        rw [h2]
        constructor
        · intro z p hp
          by_cases ep : p = k
          · rw [ep]; exact z
          · exact hc.mp rfl p (by omega)
        · intro z; exact z k (by omega)
  exact key P 0 fu (by omega) (by omega) true ⟨fun _ p hp => by omega, fun _ => rfl⟩
theorem soon9 {N P d x q : Nat} {bk kd wd sl : Nat → Nat} {t came under due r : Nat → Int32} {fu : Nat} (hfu : 300 ≤ fu) (hT : TR N P bk kd wd sl t) (hR : PR N P d x came under due r) (hd : d < 2 ^ 29) (hq : q ≤ 36) : ∃ z : Int32 × Int32, fX9_soon_b16 fu t r fu (nI q) 0 0 = some z ∧ z.2 = 0 ∧ FV (fun n => ∀ p, p < P → CS N bk kd wd sl r d q n p) z.1 := by
  refine lpI (N := 21) (k0 := 0) (F := fun m k (_ : Unit) => fX9_soon_b16 fu t r m (nI q) (nI k) 0) (I := fun k _ => ∀ n, n < k → ¬ ∀ p, p < P → CS N bk kd wd sl r d q n p) ?_ ?_ 21 0 fu () (Nat.le_refl _) (fun p hp => by omega) (by omega) (by omega)
  · intro m _ hI
    refine ⟨(-9, 0), ?_, rfl, Or.inr ⟨rfl, fun l hl => hI l (by omega)⟩⟩
    show fX9_soon_b16_body fu t r _ _ _ _ = _
    unfold fX9_soon_b16_body
    rw [if_pos (by decide)]
  · intro m k _ _ hk hI
    obtain ⟨b, h1, h2⟩ := soon9_in (fu := fu) (q := q) (n := k) (r16 := fX9_soon_b16 fu t r m) hfu hT hR hd (by omega) hq
    have e : fX9_soon_b16 fu t r (m + 1) (nI q) (nI k) 0 = if bI b = 0 then fX9_soon_b16 fu t r m (nI q) (nI k + 1) 0 else some (nI k, 0) := by
      show fX9_soon_b16_body fu t r _ _ _ _ = _
      unfold fX9_soon_b16_body
      rw [if_neg (show ¬ 20 < nI k from nI_nlt (a := 20) (b := k) (by omega) (by omega)), h2]
      rfl
    cases b with
    | true =>
      left
      refine ⟨(nI k, 0), ?_, rfl, Or.inl ⟨k, by omega, rfl, h1.mp rfl, hI⟩⟩
      show fX9_soon_b16 fu t r (m + 1) (nI q) (nI k) 0 = _
      rw [e, if_neg (by decide)]
    | false =>
      right
      refine ⟨(), ?_, ?_⟩
      · intro p hp
        by_cases ep : p = k
        · rw [ep]; exact fun z => absurd (h1.mpr z) (by decide)
        · exact hI p (by omega)
      · show fX9_soon_b16 fu t r (m + 1) (nI q) (nI k) 0 = _
        rw [e, if_pos (by decide), nI_succ]
theorem q_soon {N P : Nat} {bk kd wd sl : Nat → Nat} {day crossed th planks size sworn : Int32} {t came under due r bank kind word slow borne : Nat → Int32} {fu : Nat} (hfu : 300 ≤ fu) (hT : TR N P bk kd wd sl t) (hF : FR N P bk kd wd sl planks size sworn bank kind word slow) (hB : BT N bk kd wd borne) (hS : ST N P day crossed came under due r) (l : Int32) : ∃ v, fX8_soon fu size slow planks day came under due borne l = some v ∧ fX9_soon fu t r th l = some (v, 0) := by
  obtain ⟨d, x, hd, hx, ed, ex, hR⟩ := id hS
  unfold fX8_soon fX9_soon
  rcases load1 (fu := fu) (x := l) with ⟨l1, l2⟩ | ⟨l1, l2, q, hq1, hq2, rfl⟩
  · exact ⟨-1, by rw [bdS l2]; rfl, by rw [bdS l1]; rfl⟩
  rw [bdS l2, bdS l1, if10, if10]
  obtain ⟨v, h1, h2⟩ := fposX (fu := fu) (q := q) (by omega) hT.wf hF hB hR (by omega) hq2
  obtain ⟨⟨z1, z2⟩, k1, k2, k3⟩ := soon9 (fu := fu) (q := q) hfu hT hR (by omega) hq2
  refine ⟨v, by rw [ed, bdS h1], ?_⟩
  rw [k1, FV_u h2 k3]
  simp only at k2
  rw [k2]
