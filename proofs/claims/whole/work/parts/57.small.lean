/-- letters typed -/
def LR (k : Nat) (L T : Nat → Int32) : Prop := k ≤ 120 ∧ ∀ j, j < k → T j = L j ∧ ∃ c, c ≤ 255 ∧ L j = nI c
theorem q_type {k : Nat} {L T : Nat → Int32} {th : Int32} {fu : Nat} (h : LR k L T) (x : Int32) : ∃ v k' L' T', LR k' L' T' ∧ fX8_type fu (nI k) L x = some (v, nI k', L') ∧ fX9_type fu (nI k) T th x = some (v, nI k', T', 0) := by
  unfold fX8_type fX9_type
  rcases rng (fu := fu) (x := x) (lo := 0) (hi := 255) with ⟨h1, h2, -⟩ | ⟨h1, h2, h3, h4⟩
  · exact ⟨-1, k, L, T, h, by rw [bdS h2]; rfl, by rw [bdS h1]; rfl⟩
  · rw [bdS h2, bdS h1, if10, if10]
    have hk := h.1
    by_cases hk2 : k = 120
    · refine ⟨-3, k, L, T, h, ?_, ?_⟩
      · rw [if_neg (by rw [hk2]; decide)]
      · rw [if_pos (by rw [hk2]; rfl)]
    · obtain ⟨q, hq, rfl⟩ := nI_of h3
      have hq5 : ¬ 255 < q := fun z => h4 (nI_lt (a := 255) z hq)
      refine ⟨nI (k + 1), k + 1, upd L k (nI q), upd T k (nI q), ⟨by omega, ?_⟩, ?_, ?_⟩
      · intro j hj
        by_cases e : j = k
        · rw [e, upd_at, upd_at]
          exact ⟨rfl, q, by omega, rfl⟩
        · rw [upd_ne e, upd_ne e]
          exact h.2 j (by omega)
      · rw [if_pos (show nI k < 120 from nI_lt (b := 120) (by omega) (by decide)), bdS (wrN (by omega) (by decide)), nI_succ]
      · rw [if_neg (show ¬ nI k = 120 from fun q => hk2 ((nI_eq (b := 120) (by omega) (by decide)).mp q)), bdS (wrN (by omega) (by decide)), nI_succ]
/-- what was seen -/
def SR (k : Nat) (ld ov sl so : Nat → Int32) : Prop := k ≤ 6 ∧ ∀ j, j < k → (ld j = sl j ∧ ov j = so j) ∧ (so j = 0 ∨ so j = 1) ∧ ∃ l, l ≤ 36 ∧ sl j = nI l
theorem q_sees {k : Nat} {ld ov sl so : Nat → Int32} {th : Int32} {fu : Nat} (h : SR k ld ov sl so) (x y : Int32) : ∃ v k' ld' ov' sl' so', SR k' ld' ov' sl' so' ∧ fX8_sees fu (nI k) ld ov x y = some (v, nI k', ld', ov') ∧ fX9_sees fu (nI k) sl so th x y = some (v, nI k', sl', so', 0) := by
  unfold fX8_sees fX9_sees
  rcases load1 (fu := fu) (x := x) with ⟨h1, h2⟩ | ⟨h1, h2, l, hl1, hl2, rfl⟩
  · exact ⟨-1, k, ld, ov, sl, so, h, by rw [bdS h2]; rfl, by rw [bdS h1]; rfl⟩
  rw [bdS h2, bdS h1, if10, if10]
  rcases rng (fu := fu) (x := y) (lo := 0) (hi := 1) with ⟨h1, h2, -⟩ | ⟨h1, h2, h3, h4⟩
  · exact ⟨-1, k, ld, ov, sl, so, h, by rw [bdS h2]; rfl, by rw [bdS h1]; rfl⟩
  rw [bdS h2, bdS h1, if10, if10]
  obtain ⟨q, hq, rfl⟩ := nI_of h3
  have hq5 : ¬ 1 < q := fun z => h4 (nI_lt (a := 1) z hq)
  have hk := h.1
  by_cases hk2 : k = 6
  · refine ⟨-3, k, ld, ov, sl, so, h, ?_, ?_⟩
    · have key : ∀ z, fX8_sees_b33 fu z (nI l) (nI k) ld ov = some (-3, nI k, ld, ov) := by
        intro z
        unfold fX8_sees_b33 fX2_see
        rw [if_neg (by rw [hk2]; decide)]
        rfl
      rw [key, key]
      split <;> rfl
    · rw [if_pos (by rw [hk2]; rfl)]
  · refine ⟨nI (k + 1), k + 1, upd ld k (nI l), upd ov k (nI q), upd sl k (nI l), upd so k (nI q), ⟨by omega, ?_⟩, ?_, ?_⟩
    · intro j hj
      by_cases e : j = k
      · rw [e, upd_at, upd_at, upd_at, upd_at]
        refine ⟨⟨rfl, rfl⟩, ?_, l, by omega, rfl⟩
        rcases (by omega : q = 0 ∨ q = 1) with rfl | rfl
        · exact Or.inl rfl
        · exact Or.inr rfl
      · rw [upd_ne e, upd_ne e, upd_ne e, upd_ne e]
        exact h.2 j (by omega)
    · have key : ∀ z, vp_nar .boolean (nI z) = nI z → fX8_sees_b33 fu (nI z) (nI l) (nI k) ld ov = some (nI (k + 1), nI (k + 1), upd ld k (nI l), upd ov k (nI z)) := by
        intro z hz
        unfold fX8_sees_b33 fX2_see
        rw [if_pos (show nI k < 6 from nI_lt (b := 6) (by omega) (by decide)), hz, wrN (by omega) (by decide), wrN (by omega) (by decide), ← nI_succ]
        rfl
      rcases (by omega : q = 0 ∨ q = 1) with rfl | rfl
      · rw [if_neg (by decide)]
        exact key 0 (by decide)
      · rw [if_pos (by decide)]
        exact key 1 (by decide)
    · rw [if_neg (show ¬ nI k = 6 from fun q => hk2 ((nI_eq (b := 6) (by omega) (by decide)).mp q)), bdS (wrN (by omega) (by decide)), bdS (wrN (by omega) (by decide)), nI_succ]
theorem q_count {N P k s : Nat} {bk kd wd sl : Nat → Nat} {t bank kind word slow : Nat → Int32} {planks size sworn th : Int32} {fu : Nat} (hT : TR N P bk kd wd sl t) (hF : FR N P bk kd wd sl planks size sworn bank kind word slow) (x : Int32) : ∃ v, fX8_count fu (nI k) (nI s) size planks x = some v ∧ fX9_count fu t (nI s) (nI k) th x = some (v, 0) := by
  unfold fX8_count fX9_count
  rcases rng (fu := fu) (x := x) (lo := 0) (hi := 1) with ⟨h1, -, h2⟩ | ⟨h1, -, h3, h4⟩
  · have n : ∀ y : Int32, ¬ y < 0 → ¬ 1 < y → x ≠ y := fun y => in8 x 0 1 h2
    rw [if_neg (n 0 (by decide) (by decide)), if_neg (n 1 (by decide) (by decide)), bdS h1, if00]
    by_cases x2 : x = 2
    · exact ⟨nI s, by rw [if_pos x2], by rw [if_pos x2]⟩
    · by_cases x3 : x = 3
      · exact ⟨nI k, by rw [if_neg x2, if_pos x3], by rw [if_neg x2, if_pos x3]⟩
      · exact ⟨-1, by rw [if_neg x2, if_neg x3], by rw [if_neg x2, if_neg x3]⟩
  · rw [bdS h1, if10]
    obtain ⟨q, hq, rfl⟩ := nI_of h3
    have hq5 : ¬ 1 < q := fun z => h4 (nI_lt (a := 1) z hq)
    rcases (by omega : q = 0 ∨ q = 1) with rfl | rfl
    · refine ⟨nI P, ?_, ?_⟩
      · rw [← hF.1.1]; rfl
      · rw [show nI 0 = 0 from rfl, bdS hT.p]
    · refine ⟨nI N, ?_, ?_⟩
      · rw [← hF.1.2.1]; rfl
      · rw [show nI 1 = 1 from rfl, bdS hT.n]
theorem ones9 {fu c : Nat} (hfu : 10 ≤ fu) (hc : c < 2 ^ 31) : fX9_ones fu (nI c) = some (nI (cnt 9 (fun a => c.testBit a))) := by
  refine lp (N := 9) (G := fun n k => fX9_ones_b4 fu n (nI c) (nI (cnt k (fun a => c.testBit a))) (nI k)) ?_ ?_ 9 0 fu (by omega) (by omega)
  · intro n
    show fX9_ones_b4_body fu _ _ _ _ = _
    unfold fX9_ones_b4_body
    rw [if_pos (by decide)]
  · intro n k hk
    right
    show fX9_ones_b4_body fu _ _ _ _ = _
    unfold fX9_ones_b4_body
    rw [if_neg (show ¬ 9 ≤ nI k from nI_ge (b := 9) (by omega) (by decide)), nI_bit hc (by omega), cnt, nI_succ]
    cases c.testBit k
    · rw [if_neg (by decide), if_neg (by decide)]
      simp
    · rw [if_pos (by decide), if_pos (by decide), nI_succ]
theorem cnt9 {c : Nat} (hc : c < 256) : cnt 9 (fun a => c.testBit a) = cnt 8 (fun a => c.testBit a) := by
  rw [cnt, Nat.testBit_lt_two_pow (show c < 2 ^ 8 from hc)]
  rfl
theorem cnt_mk {n m : Nat} (Q : Nat → Bool) (h : n ≤ m) : cnt m (fun a => (mkS n Q).testBit a) = cnt n Q := by
  rw [cnt_ext (n := n) h (fun i h1 h2 => by rw [mkS_bit]; simp; omega)]
  exact cnt_congr (fun i hi => by rw [mkS_bit]; simp [hi])
theorem onesM {fu n : Nat} {Q : Nat → Bool} (hfu : 10 ≤ fu) (hn : n ≤ 8) : fX9_ones fu (nI (mkS n Q)) = some (nI (cnt n Q)) := by
  have h1 := mkS_lt n Q
  have h8 := pow8 hn
  rw [ones9 hfu (by omega), cnt_mk Q (by omega)]
theorem mkS_or (n : Nat) (P Q : Nat → Bool) : mkS n P ||| mkS n Q = mkS n (fun i => P i || Q i) := by
  apply Nat.eq_of_testBit_eq
  intro i
  rw [Nat.testBit_or, mkS_bit, mkS_bit, mkS_bit]
  cases decide (i < n) <;> simp
theorem cnt_or {n : Nat} {P Q : Nat → Bool} (h : ∀ i, i < n → ¬ (P i = true ∧ Q i = true)) : cnt n (fun i => P i || Q i) = cnt n P + cnt n Q := by
  induction n with
  | zero => rfl
  | succ n ih =>
    rw [cnt, cnt, cnt, ih (fun i hi => h i (by omega))]
    have := h n (by omega)
    cases hp : P n <;> cases hq : Q n
    · simp
    · simp; omega
    · simp; omega
    · rw [hp, hq] at this; exact absurd ⟨rfl, rfl⟩ this
theorem csus {N P d x a p : Nat} {came under due r : Nat → Int32} (hN : N ≤ 8) : ¬ ((cs N r p).testBit a = true ∧ (us N r p).testBit a = true) := by
  unfold cs us
  rw [mkS_bit, mkS_bit]
  rintro ⟨h1, h2⟩
  simp at h1 h2
  rw [h1.2] at h2
  exact absurd h2.2 (by decide)
theorem q_rate {N P d x : Nat} {bk kd wd sl : Nat → Nat} {t came under due r bank kind word slow : Nat → Int32} {planks size sworn th : Int32} {fu : Nat} (hfu : 10 ≤ fu) (hT : TR N P bk kd wd sl t) (hF : FR N P bk kd wd sl planks size sworn bank kind word slow) (hR : PR N P d x came under due r) (hd : d < 2 ^ 30) (tr : Int64) (b a : Int32) : ∃ v tr', fX8_rate fu size planks came under word slow tr b a = some (v, tr') ∧ fX9_rate fu t r tr th b a = some (v, tr', 0) := by
  obtain ⟨hP1, hP8, hN⟩ := hT.1.2.2
  have h8 := pow8 hN
  unfold fX8_rate fX9_rate
  rcases rng (fu := fu) (x := b) (lo := 0) (hi := 5) with ⟨h1, -, h2⟩ | ⟨h1, -, h3, h4⟩
  · refine ⟨-1000000, tr, ?_, by rw [bdS h1]; rfl⟩
    have n : ∀ y : Int32, ¬ y < 0 → ¬ 5 < y → b ≠ y := fun y => in8 b 0 5 h2
    rw [if_neg (n 0 (by decide) (by decide)), if_neg (n 1 (by decide) (by decide)), if_neg (n 2 (by decide) (by decide)), if_neg (n 3 (by decide) (by decide)), if_neg (n 4 (by decide) (by decide)), if_neg (n 5 (by decide) (by decide))]
    by_cases ha : og a N
    · rw [bdS ((hasPersonX hF.1.2.1).1 ha)]; rfl
    · rw [bdS ((hasPersonX hF.1.2.1).2 ha)]; rfl
  rw [bdS h1, if10]
  by_cases ha : og a N
  · exact ⟨-1000000, tr, by rw [bdS ((hasPersonX hF.1.2.1).1 ha)]; rfl, by rw [bdS ((isPerson9 hT).1 ha)]; rfl⟩
  rw [bdS ((hasPersonX hF.1.2.1).2 ha), bdS ((isPerson9 hT).2 ha), if10, if10]
  obtain ⟨i, hi, rfl⟩ := og_in ha (by omega)
  obtain ⟨f1, f2, f3, f4⟩ := hF.2 i hi
  have p1 : ∀ p, p < 8 → came p = nI (cs N r p) ∧ cs N r p < 2 ^ 31 := fun p hp => ⟨(hR.2.1 p hp).1, by have := cs_lt N r p; omega⟩
  have p2 : ∀ p, p < 8 → under p = nI (us N r p) ∧ us N r p < 2 ^ 31 := fun p hp => ⟨(hR.2.1 p hp).2, by have := us_lt N r p; omega⟩
  have g1 := given9 (r := r) hT (fu := fu) (by omega) (show i < 8 by omega) true
  have g2 := given9 (r := r) hT (fu := fu) (by omega) (show i < 8 by omega) false
  rw [camePl (d := d) (x := x) (came := came) (under := under) (due := due) hN hP8 hi] at g1
  rw [undPl hR hN hP8 hd hi] at g2
  have c1 := planksX (fu := fu) (by omega) hP8 (show i < 31 by omega) hF.1.1 p1
  have c2 := planksX (fu := fu) (by omega) hP8 (show i < 31 by omega) hF.1.1 p2
  have m1 : rd 8 word (nI i) = some (nI (wd i)) := by rw [rdN (by omega) (by decide), f3]
  have m2 : rd 8 slow (nI i) = some (nI (sl i)) := by rw [rdN (by omega) (by decide), f4]
  rw [bdS (hT.wd hi), bdS (hT.sl hi), bdS (show fX9_given fu t r (nI i) 1 = _ from g1), bdS (onesM hfu hP8), bdS (show fX9_given fu t r (nI i) 0 = _ from g2), bdS (onesM hfu hP8)]
  have hm : fX8_rateAsMerchant fu planks came under word (tr + 0) (nI i) = fX8_rateAsMerchant fu planks came under word tr (nI i) := by rw [Int64.add_zero]
  have mer : ∀ tr, fX8_rateAsMerchant fu planks came under word tr (nI i) = some (nI (wd i) - nI (cnt P (fun p => (cs N r p).testBit i)) - nI (cnt P (fun p => (us N r p).testBit i)), tr + 10001) := by
    intro tr
    unfold fX8_rateAsMerchant fX8_rateAsPerson
    rw [c1, c2, m1]
    show ((fJ6_bitCount_0f7a4 fu (nI _ ||| nI _)).bind fun v5 => some (nI (wd i) - v5, tr + 10000 + 1)) = _
    rw [nI_or, mkS_or, bdS (popM hP8), cnt_or (fun p _ => csus (P := P) (d := d) (x := x) (came := came) (under := under) (due := due) hN), ← nI_add, Int64.add_assoc, Int32.sub_sub]
    rfl
  obtain ⟨q, hq, rfl⟩ := nI_of h3
  have hq5 : ¬ 5 < q := fun z => h4 (nI_lt (a := 5) z hq)
  rcases (by omega : q = 0 ∨ q = 1 ∨ q = 2 ∨ q = 3 ∨ q = 4 ∨ q = 5) with rfl | rfl | rfl | rfl | rfl | rfl
  · refine ⟨nI (wd i), tr + 1, ?_, rfl⟩
    show ((fX8_rateAsPerson fu word tr (nI i)).bind fun (v3, g4) => some (v3, g4)) = _
    unfold fX8_rateAsPerson
    rw [m1]; rfl
  · refine ⟨nI (wd i) + nI (sl i), tr + 11, ?_, rfl⟩
    show ((fX8_rateAsPlain fu word slow tr (nI i)).bind fun (v3, g4) => some (v3, g4)) = _
    unfold fX8_rateAsPlain fX8_rateAsPerson
    rw [m1, m2, show (11 : Int64) = 10 + 1 from rfl, ← Int64.add_assoc]; rfl
  · refine ⟨2 * (nI (wd i) + nI (sl i)), tr + 111, ?_, rfl⟩
    show ((fX8_rateAsChild fu word slow tr (nI i)).bind fun (v3, g4) => some (v3, g4)) = _
    unfold fX8_rateAsChild fX8_rateAsPlain fX8_rateAsPerson
    rw [m1, m2, show (111 : Int64) = 100 + 10 + 1 from rfl, ← Int64.add_assoc, ← Int64.add_assoc]; rfl
  · refine ⟨nI (wd i) + nI (cnt P (fun p => (cs N r p).testBit i)), tr + 1001, ?_, rfl⟩
    show ((fX8_rateAsSworn fu word planks came tr (nI i)).bind fun (v3, g4) => some (v3, g4)) = _
    unfold fX8_rateAsSworn fX8_rateAsPerson
    rw [m1, c1, show (1001 : Int64) = 1000 + 1 from rfl, ← Int64.add_assoc]
    show (((fJ6_bitCount_0f7a4 fu (nI _)).bind fun v4 => some (nI (wd i) + v4, tr + 1000 + 1)).bind fun (v3, g4) => some (v3, g4)) = _
    rw [popM hP8]; rfl
  · refine ⟨_, _, ?_, rfl⟩
    show ((fX8_rateAsMerchant fu planks came under word tr (nI i)).bind fun (v3, g4) => some (v3, g4)) = _
    rw [mer]; rfl
  · refine ⟨_, _, ?_, rfl⟩
    show ((fX8_rateAsLiar fu planks came under word tr (nI i)).bind fun (v3, g4) => some (v3, g4)) = _
    unfold fX8_rateAsLiar
    rw [mer, Int64.add_assoc]; rfl
theorem gave9 {N P : Nat} {bk kd wd sl : Nat → Nat} {t r : Nat → Int32} (hT : TR N P bk kd wd sl t) {fu p : Nat} (hfu : 9 ≤ fu) (hp : p < 8) : fX9_gaveFor fu t r (nI p) = some (nI (mkS N (fun a => decide (r (2 + 8 * a + p) ≠ 0)))) := by
  obtain ⟨hP1, hP8, hN⟩ := hT.1.2.2
  refine lp (N := N) (G := fun n k => fX9_gaveFor_b4 fu t r n (nI p) (nI (mkS k (fun a => decide (r (2 + 8 * a + p) ≠ 0)))) (nI k)) ?_ ?_ N 0 fu (by omega) (by omega)
  · intro n
    show fX9_gaveFor_b4_body fu t r _ _ _ _ = _
    unfold fX9_gaveFor_b4_body
    rw [bdS hT.n, if_pos (nI_le (by omega) (by omega))]
  · intro n k hk
    right
    show fX9_gaveFor_b4_body fu t r _ _ _ _ = _
    unfold fX9_gaveFor_b4_body
    rw [bdS hT.n, if_neg (nI_ge (by omega) (by omega)), ix9, bdS (rdN (by omega) (by decide)), mkS, nI_succ]
    by_cases h0 : r (2 + 8 * k + p) = 0
    · have z : ∀ x, nI x ||| (0 : Int32) = nI x := fun x => by rw [show (0 : Int32) = nI 0 from rfl, nI_or, Nat.or_zero]
      rw [if_pos h0, z]
      simp [h0]
    · rw [if_neg h0, nI_shl (by omega), nI_or]
      simp [h0]
/-- those who gave -/
def gs (N : Nat) (r : Nat → Int32) (p : Nat) : Nat := mkS N (fun a => decide (r (2 + 8 * a + p) ≠ 0))
theorem gs_or {N P d x p : Nat} {came under due r : Nat → Int32} (hR : PR N P d x came under due r) (hN : N ≤ 8) (hp : p < 8) (hd : d < 2 ^ 30) : cs N r p ||| us N r p = gs N r p := by
  unfold cs us gs
  rw [mkS_or]
  apply mkS_congr
  intro a ha
  rcases (hR.2.2 a p (by omega) hp).1 with h | h | ⟨e, h1, h2, h3, -⟩
  · simp [h]
  · simp [h]
  · have p1 : 0 < r (2 + 8 * a + p) := by rw [h3]; exact nI_lt (a := 0) (by omega) (by omega)
    have p2 : r (2 + 8 * a + p) ≠ 0 := fun q => by rw [q] at p1; exact absurd p1 (by decide)
    simp [p1, p2]
theorem gs_bit (N : Nat) (r : Nat → Int32) (p a : Nat) : (gs N r p).testBit a = (decide (a < N) && decide (r (2 + 8 * a + p) ≠ 0)) := mkS_bit _ _ _
theorem gaveX {N P d x p a : Nat} {came under due r : Nat → Int32} {fu : Nat} (hR : PR N P d x came under due r) (hN : N ≤ 8) (hp : p < 8) (ha : a < N) (hd : d < 2 ^ 30) : fX5_gave fu came under (nI a) (nI p) = some (bI (decide (r (2 + 8 * a + p) ≠ 0))) := by
  have h8 := pow8 hN
  have hg : gs N r p < 2 ^ N := mkS_lt _ _
  unfold fX5_gave
  rw [bdS (rdN hp (by decide)), bdS (rdN hp (by decide)), (hR.2.1 p hp).1, (hR.2.1 p hp).2, nI_or, gs_or hR hN hp hd, bdS (has8 (by omega) (by omega)), gs_bit]
  have : decide (a < N) = true := by simp [ha]
  rw [this, Bool.true_and]
  cases decide (r (2 + 8 * a + p) ≠ 0) <;> rfl
theorem mxmn9 {fu a b : Nat} (ha : a < 2 ^ 31) (hb : b < 2 ^ 31) : fX9_max fu (nI a) (nI b) = some (nI (max a b)) ∧ fX9_min fu (nI a) (nI b) = some (nI (min a b)) := by
  unfold fX9_max fX9_min
  constructor
  · by_cases h : a ≤ b
    · rw [if_pos (nI_le h hb), Nat.max_eq_right h]
    · rw [if_neg (nI_ge (by omega) ha), Nat.max_eq_left (by omega)]
  · by_cases h : b ≤ a
    · rw [if_pos (nI_le h ha), Nat.min_eq_right h]
    · rw [if_neg (nI_ge (by omega) hb), Nat.min_eq_left (by omega)]
/-- the answer of pair -/
def prN (bk sl : Nat → Nat) (r : Nat → Int32) (us0 : Nat) (a b p : Nat) : Int32 := if bk a = bk b then -2 else if r (2 + 8 * a + p) ≠ 0 then -2 else if r (2 + 8 * b + p) ≠ 0 then -2 else if us0 ≠ 0 then -2 else nI (min (min (max (sl a) (sl b + 1)) (max (sl a + 1) (sl b))) (sl a + sl b))
theorem mkS_ne0 {n : Nat} {Q : Nat → Bool} : mkS n Q ≠ 0 ↔ ∃ i, i < n ∧ Q i = true := by
  constructor
  · intro h
    obtain ⟨i, hi⟩ := Nat.exists_testBit_of_ne_zero h
    rw [mkS_bit] at hi
    simp at hi
    exact ⟨i, hi.1, hi.2⟩
  · rintro ⟨i, h1, h2⟩ e
    have := mkS_bit n Q i
    rw [e] at this
    simp [h1, h2] at this
theorem pair9_loop {N P d x a b p : Nat} {bk kd wd sl : Nat → Nat} {t came under due r : Nat → Int32} {fu : Nat} (hfu : 9 ≤ fu) (hT : TR N P bk kd wd sl t) (hR : PR N P d x came under due r) (hd : d < 2 ^ 30) (ha : a < N) (hb : b < N) (hp : p < P) : fX9_pair_b37 fu t r fu (nI a) (nI b) (nI p) 0 0 0 = some (prN bk sl r (us N r p) a b p, 0) := by
  obtain ⟨hP1, hP8, hN⟩ := hT.1.2.2
  have h8 := pow8 hN
  refine lp (N := N) (G := fun n k => fX9_pair_b37 fu t r n (nI a) (nI b) (nI p) (bI (mkS k (fun a => decide (0 < r (2 + 8 * a + p))) != 0)) (nI k) 0) ?_ ?_ N 0 fu (by omega) (by omega)
  · intro n
    show fX9_pair_b37_body fu t r _ _ _ _ _ _ _ = _
    unfold fX9_pair_b37_body
    have hg : gs N r p < 2 ^ N := mkS_lt _ _
    have A := hT.wf.2 a ha
    have B := hT.wf.2 b hb
    rw [bdS hT.n, if_pos (nI_le (by omega) (by omega)), bdS (hT.bk ha), bdS (hT.bk hb)]
    unfold prN
    by_cases e1 : bk a = bk b
    · rw [if_pos (by rw [e1]), if_pos e1]
    rw [if_neg (fun q => e1 ((nI_eq (by omega) (by omega)).mp q)), if_neg e1, bdS (gave9 hT hfu (by omega)), bdS (gave9 hT hfu (by omega)), show mkS N (fun a => decide (r (2 + 8 * a + p) ≠ 0)) = gs N r p from rfl, bdS (has9 (by omega) (by omega)), bdS (has9 (by omega) (by omega)), gs_bit, gs_bit]
    have d1 : decide (a < N) = true := by simp [ha]
    have d2 : decide (b < N) = true := by simp [hb]
    rw [d1, d2, Bool.true_and, Bool.true_and]
    by_cases e2 : r (2 + 8 * a + p) = 0
    · have de2 : decide (r (2 + 8 * a + p) ≠ 0) = false := by simp [e2]
      rw [if_neg (show ¬ r (2 + 8 * a + p) ≠ 0 from fun q => q e2), de2, if_pos (show bI false = 0 from rfl)]
      by_cases e3 : r (2 + 8 * b + p) = 0
      · have de3 : decide (r (2 + 8 * b + p) ≠ 0) = false := by simp [e3]
        rw [if_neg (show ¬ r (2 + 8 * b + p) ≠ 0 from fun q => q e3), de3, if_pos (show bI false = 0 from rfl)]
        show (if bI (us N r p != 0) = 0 then _ else _) = _
        by_cases e4 : us N r p = 0
        · rw [if_neg (show ¬ us N r p ≠ 0 from fun q => q e4), e4, if_pos (show bI (0 != 0) = 0 from rfl), bdS (hT.sl ha), bdS (hT.sl hb), ← nI_succ, ← nI_succ, bdS (mxmn9 (by omega) (by omega)).1, bdS (mxmn9 (by omega) (by omega)).1, bdS (mxmn9 (by omega) (by omega)).2, nI_add, bdS (mxmn9 (by omega) (by omega)).2]
          rw [Nat.max_comm (sl b) (sl a + 1), Nat.min_comm (sl a + sl b)]
        · rw [if_pos e4]
          have : (us N r p != 0) = true := by simp [e4]
          rw [this, if_neg (by decide)]
      · rw [if_pos e3]
        have : decide (r (2 + 8 * b + p) ≠ 0) = true := by simp [e3]
        rw [this, if_neg (by decide)]
    · rw [if_pos e2]
      have : decide (r (2 + 8 * a + p) ≠ 0) = true := by simp [e2]
      rw [this, if_neg (by decide)]
  · intro n k hk
    right
    show fX9_pair_b37_body fu t r _ _ _ _ _ _ _ = _
    unfold fX9_pair_b37_body
    rw [bdS hT.n, if_neg (nI_ge (by omega) (by omega)), ix9, bdS (rdN (by omega) (by decide)), nI_succ]
    by_cases e : mkS k (fun a => decide (0 < r (2 + 8 * a + p))) = 0
    · rw [mkS, e, if_pos (by decide), Nat.zero_or]
      by_cases h0 : r (2 + 8 * k + p) ≤ 0
      · rw [if_pos h0]
        have : ¬ 0 < r (2 + 8 * k + p) := Int32.not_lt.mpr h0
        simp [this]; rfl
      · rw [if_neg h0]
        have : 0 < r (2 + 8 * k + p) := Int32.not_le.mp h0
        have e2 : (2 ^ k != 0) = true := by simp
        simp only [this, decide_true, if_true, e2]; rfl
    · have e1 : (mkS k (fun a => decide (0 < r (2 + 8 * a + p))) != 0) = true := by simp [e]
      have e2 : mkS (k + 1) (fun a => decide (0 < r (2 + 8 * a + p))) ≠ 0 := by
        obtain ⟨i, h1, h2⟩ := mkS_ne0.mp e
        exact mkS_ne0.mpr ⟨i, by omega, h2⟩
      have e3 : (mkS (k + 1) (fun a => decide (0 < r (2 + 8 * a + p))) != 0) = true := by simp [e2]
      rw [e1, e3, if_neg (by decide)]
      rfl
/-- pair -/
theorem q_pair {N P d x : Nat} {bk kd wd sl : Nat → Nat} {t came under due r bank kind word slow : Nat → Int32} {planks size sworn th : Int32} {fu : Nat} (hfu : 9 ≤ fu) (hT : TR N P bk kd wd sl t) (hF : FR N P bk kd wd sl planks size sworn bank kind word slow) (hR : PR N P d x came under due r) (hd : d < 2 ^ 30) (a b p : Int32) : ∃ v, fX8_pair fu size planks bank came under slow a b p = some v ∧ fX9_pair fu t r th a b p = some (v, 0) := by
  obtain ⟨hP1, hP8, hN⟩ := hT.1.2.2
  have h8 := pow8 hN
  unfold fX8_pair fX9_pair
  by_cases ha : og a N
  · exact ⟨-1, by rw [bdS ((hasPersonX hF.1.2.1).1 ha)]; rfl, by rw [bdS ((isPerson9 hT).1 ha)]; rfl⟩
  rw [bdS ((hasPersonX hF.1.2.1).2 ha), bdS ((isPerson9 hT).2 ha), if10, if10]
  by_cases hb : og b N
  · exact ⟨-1, by rw [bdS ((hasPersonX hF.1.2.1).1 hb)]; rfl, by rw [bdS ((isPerson9 hT).1 hb)]; rfl⟩
  rw [bdS ((hasPersonX hF.1.2.1).2 hb), bdS ((isPerson9 hT).2 hb), if10, if10]
  by_cases hp : og p P
  · exact ⟨-1, by rw [bdS ((hasPlankX hF.1.1).1 hp)]; rfl, by rw [bdS ((isPlank9 hT).1 hp)]; rfl⟩
  rw [bdS ((hasPlankX hF.1.1).2 hp), bdS ((isPlank9 hT).2 hp), if10, if10]
  obtain ⟨i, hi, rfl⟩ := og_in ha (by omega)
  obtain ⟨k, hk, rfl⟩ := og_in hb (by omega)
  obtain ⟨j, hj, rfl⟩ := og_in hp (by omega)
  refine ⟨prN bk sl r (us N r j) i k j, ?_, pair9_loop hfu hT hR hd hi hk hj⟩
  have A := hT.wf.2 i hi
  have B := hT.wf.2 k hk
  obtain ⟨f1, -, -, f4⟩ := hF.2 i hi
  obtain ⟨g1, -, -, g4⟩ := hF.2 k hk
  have hu := us_lt N r j
  rw [bdS (rdN (by omega) (by decide)), bdS (rdN (by omega) (by decide)), f1, g1]
  unfold prN
  by_cases e1 : bk i = bk k
  · rw [if_pos (by rw [e1]), if_pos e1]
  rw [if_neg (fun q => e1 ((nI_eq (by omega) (by omega)).mp q)), if_neg e1, bdS (gaveX hR hN (by omega) hi hd), bdS (gaveX hR hN (by omega) hk hd), bdS (rdN (by omega) (by decide)), (hR.2.1 j (by omega)).2, bdS (rdN (by omega) (by decide)), bdS (rdN (by omega) (by decide)), f4, g4, ← nI_succ, ← nI_succ, mxN (by omega) (by omega), mxN (by omega) (by omega), mnN (by omega) (by omega), nI_add, mnN (by omega) (by omega)]
  by_cases e2 : r (2 + 8 * i + j) = 0
  · have de2 : decide (r (2 + 8 * i + j) ≠ 0) = false := by simp [e2]
    rw [if_neg (show ¬ r (2 + 8 * i + j) ≠ 0 from fun q => q e2), de2, if_pos (show bI false = 0 from rfl)]
    by_cases e3 : r (2 + 8 * k + j) = 0
    · have de3 : decide (r (2 + 8 * k + j) ≠ 0) = false := by simp [e3]
      rw [if_neg (show ¬ r (2 + 8 * k + j) ≠ 0 from fun q => q e3), de3, if_pos (show bI false = 0 from rfl)]
      by_cases e4 : us N r j = 0
      · rw [if_neg (show ¬ us N r j ≠ 0 from fun q => q e4), e4, if_pos (show nI 0 = 0 from rfl)]
      · rw [if_pos e4, if_neg (show ¬ nI (us N r j) = 0 from fun q => e4 ((nI_eq (b := 0) (by omega) (by decide)).mp q))]
    · rw [if_pos e3]
      have : decide (r (2 + 8 * k + j) ≠ 0) = true := by simp [e3]
      rw [this, if_neg (by decide)]
  · rw [if_pos e2]
    have : decide (r (2 + 8 * i + j) ≠ 0) = true := by simp [e2]
    rw [this, if_neg (by decide)]
