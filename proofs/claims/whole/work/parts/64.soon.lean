-- fewest, soon
theorem every_bit (N i : Nat) : (2 ^ N - 1).testBit i = decide (i < N) := Nat.testBit_two_pow_sub_one N i
theorem sub_cut {N g s : Nat} (hN : N ≤ 8) (hs : s < 2 ^ N) : (∀ i, s.testBit i = true → (cut (2 ^ N - 1) g).testBit i = true) ↔ s &&& g = 0 := by
  constructor
  · intro h
    apply Nat.eq_of_testBit_eq
    intro i
    rw [Nat.testBit_and, Nat.zero_testBit]
    cases hb : s.testBit i with
    | false => rfl
    | true =>
      have := h i hb
      rw [cut_bit] at this
      simp at this
      simp [this]
  · intro h i hi
    have h1 : (s &&& g).testBit i = false := by rw [h, Nat.zero_testBit]
    rw [Nat.testBit_and, hi, Bool.true_and] at h1
    have hiN : i < N := by
      rcases Nat.lt_or_ge i N with q | q
      · exact q
      · rw [Nat.testBit_lt_two_pow (Nat.lt_of_lt_of_le hs (Nat.pow_le_pow_right (by omega) q))] at hi
        exact absurd hi (by decide)
    rw [cut_bit, every_bit, h1]
    have : i < 8 := by omega
    simp [hiN, this]
def BG (N : Nat) (bk kd wd : Nat → Nat) (q p g k n : Nat) : Prop := ∃ s, s < k ∧ s &&& g = 0 ∧ on s = n ∧ q ≤ bears N bk kd wd p (g ||| s)
theorem BG_AB {N q p g n : Nat} {bk kd wd : Nat → Nat} (hN : N ≤ 8) : BG N bk kd wd q p g (2 ^ N) n ↔ AB N bk kd wd q p g (cut (2 ^ N - 1) g) n := by
  constructor
  · rintro ⟨s, h1, h2, h3⟩
    exact ⟨s, h1, (sub_cut hN h1).mpr h2, h3⟩
  · rintro ⟨s, h1, h2, h3⟩
    exact ⟨s, h1, (sub_cut hN h1).mp h2, h3⟩
theorem and0 {a b : Nat} (ha : a < 2 ^ 31) : nI a &&& nI b = 0 ↔ a &&& b = 0 := by
  rw [nI_and]
  have : a &&& b ≤ a := Nat.and_le_left
  constructor
  · intro h; exact nI_inj (b := 0) (by omega) (by decide) h
  · intro h; rw [h]; rfl
theorem onesO {fu c : Nat} (hfu : 10 ≤ fu) (hc : c < 256) : fX9_ones fu (nI c) = some (nI (on c)) := by
  rw [ones9 hfu (by omega), cnt9 hc]; rfl
theorem on_le (c : Nat) : on c ≤ 8 := cnt_le _ _
theorem BG_skip {N q p g k n : Nat} {bk kd wd : Nat → Nat} (h : ¬ (k &&& g = 0 ∧ on k = n ∧ q ≤ bears N bk kd wd p (g ||| k))) : BG N bk kd wd q p g k n ↔ BG N bk kd wd q p g (k + 1) n := by
  constructor
  · rintro ⟨s, h1, h2⟩
    exact ⟨s, by omega, h2⟩
  · rintro ⟨s, h1, h2⟩
    by_cases e : s = k
    · rw [e] at h2; exact absurd h2 h
    · exact ⟨s, by omega, h2⟩
theorem more9_loop {N P q p g : Nat} {bk kd wd sl : Nat → Nat} {t r : Nat → Int32} {fu : Nat} (hfu : 300 ≤ fu) (hT : TR N P bk kd wd sl t) (hq : q ≤ 36) (hp : p < 8) (hg : g < 2 ^ N) : ∃ v, fX9_moreFor_b13 fu t r fu (nI p) (nI q) (nI g) (-9) 0 = some v ∧ FW 2 (BG N bk kd wd q p g (2 ^ N)) v := by
  obtain ⟨hP1, hP8, hN⟩ := hT.1.2.2
  have h8 := pow8 hN
  have hw9 : ∀ a, a < N → wd a ≤ 9 := fun a ha => (hT.wf.2 a ha).2.2.1.2
  refine lpI (N := 2 ^ N) (k0 := 0) (F := fun n k f => fX9_moreFor_b13 fu t r n (nI p) (nI q) (nI g) f (nI k)) (I := fun k f => FW 2 (BG N bk kd wd q p g k) f) ?_ ?_ (2 ^ N) 0 fu (-9) (Nat.le_refl _) (Or.inr ⟨rfl, fun l _ => by rintro ⟨s, h1, -⟩; omega⟩) (by omega) (by omega)
  · intro n f hI
    refine ⟨f, ?_, hI⟩
    show fX9_moreFor_b13_body fu t r _ _ _ _ _ _ = _
    unfold fX9_moreFor_b13_body
    rw [bdS hT.n, nI_shl (by omega), if_pos (nI_le (by omega) (by omega))]
  · intro n k f _ hk hI
    right
    have hgk : g ||| k < 2 ^ N := Nat.or_lt_two_pow hg hk
    have hb := bears_le (N := N) (bk := bk) (kd := kd) (p := p) (c := g ||| k) hw9
    have ho := on_le k
    have e60 : fX9_moreFor_b60 fu t r (fX9_moreFor_b13 fu t r n) (nI p) (nI q) (nI g) f (nI k) (nI (on k)) = if nI (bears N bk kd wd p (g ||| k)) < nI q then fX9_moreFor_b13 fu t r n (nI p) (nI q) (nI g) f (nI (k + 1)) else fX9_moreFor_b13 fu t r n (nI p) (nI q) (nI g) (nI (on k)) (nI (k + 1)) := by
      unfold fX9_moreFor_b60
      rw [nI_or, bdS (bears9 hT (by omega) (by omega) (by omega)), nI_succ]
    have e : fX9_moreFor_b13 fu t r (n + 1) (nI p) (nI q) (nI g) f (nI k) = if nI k &&& nI g = 0 then (if 3 ≤ nI (on k) then fX9_moreFor_b13 fu t r n (nI p) (nI q) (nI g) f (nI (k + 1)) else if f = -9 then (if nI (bears N bk kd wd p (g ||| k)) < nI q then fX9_moreFor_b13 fu t r n (nI p) (nI q) (nI g) f (nI (k + 1)) else fX9_moreFor_b13 fu t r n (nI p) (nI q) (nI g) (nI (on k)) (nI (k + 1))) else if f ≤ nI (on k) then fX9_moreFor_b13 fu t r n (nI p) (nI q) (nI g) f (nI (k + 1)) else (if nI (bears N bk kd wd p (g ||| k)) < nI q then fX9_moreFor_b13 fu t r n (nI p) (nI q) (nI g) f (nI (k + 1)) else fX9_moreFor_b13 fu t r n (nI p) (nI q) (nI g) (nI (on k)) (nI (k + 1)))) else fX9_moreFor_b13 fu t r n (nI p) (nI q) (nI g) f (nI (k + 1)) := by
      show fX9_moreFor_b13_body fu t r _ _ _ _ _ _ = _
      unfold fX9_moreFor_b13_body
      rw [bdS hT.n, nI_shl (by omega), if_neg (nI_ge (by omega) (by omega)), bdS (onesO (by omega) (by omega)), e60, nI_succ]
    show ∃ y, FW 2 (BG N bk kd wd q p g (k + 1)) y ∧ fX9_moreFor_b13 fu t r (n + 1) (nI p) (nI q) (nI g) f (nI k) = fX9_moreFor_b13 fu t r n (nI p) (nI q) (nI g) y (nI (k + 1))
    rw [e]
    have skip : (∀ l, l ≤ 2 → ¬ (k &&& g = 0 ∧ on k = l ∧ q ≤ bears N bk kd wd p (g ||| k))) → FW 2 (BG N bk kd wd q p g (k + 1)) f := fun h => FW_congr hI (fun l hl => BG_skip (h l hl))
    by_cases h1 : k &&& g = 0
    · rw [if_pos ((and0 (by omega)).mpr h1)]
      by_cases h2 : 3 ≤ on k
      · rw [if_pos (show 3 ≤ nI (on k) from nI_le (a := 3) h2 (by omega))]
        exact ⟨f, skip (fun l hl z => by have := z.2.1; omega), rfl⟩
      · rw [if_neg (show ¬ 3 ≤ nI (on k) from nI_ge (b := 3) (by omega) (by decide))]
        by_cases hl : q ≤ bears N bk kd wd p (g ||| k)
        · rw [if_neg (nI_nlt hl (by omega))]
          have hin : BG N bk kd wd q p g (k + 1) (on k) := ⟨k, by omega, h1, rfl, hl⟩
          rcases hI with ⟨l, i1, i2, i3, i4⟩ | ⟨i1, i2⟩
          · rw [i2, if_neg (show ¬ nI l = -9 by rcases (by omega : l = 0 ∨ l = 1 ∨ l = 2) with rfl | rfl | rfl <;> decide)]
            by_cases h3 : l ≤ on k
            · rw [if_pos (nI_le h3 (by omega))]
              refine ⟨nI l, Or.inl ⟨l, i1, rfl, ?_, fun m hm => ?_⟩, rfl⟩
              · obtain ⟨s, s1, s2⟩ := i3
                exact ⟨s, by omega, s2⟩
              · rw [← BG_skip (fun z => by have := z.2.1; omega)]
                exact i4 m hm
            · rw [if_neg (nI_ge (by omega) (by omega))]
              refine ⟨nI (on k), Or.inl ⟨on k, by omega, rfl, hin, fun m hm => ?_⟩, rfl⟩
              rw [← BG_skip (fun z => by have := z.2.1; omega)]
              exact i4 m (by omega)
          · rw [if_pos i1]
            refine ⟨nI (on k), Or.inl ⟨on k, by omega, rfl, hin, fun m hm => ?_⟩, rfl⟩
            rw [← BG_skip (fun z => by have := z.2.1; omega)]
            exact i2 m (by omega)
        · rw [if_pos (nI_lt (by omega) (by omega)), ite_self, ite_self]
          exact ⟨f, skip (fun _ _ z => hl (z.2.2)), rfl⟩
    · rw [if_neg (fun z => h1 ((and0 (by omega)).mp z))]
      exact ⟨f, skip (fun l hl z => h1 z.1), rfl⟩
theorem more9 {N P q p : Nat} {bk kd wd sl : Nat → Nat} {t r : Nat → Int32} {fu : Nat} (hfu : 300 ≤ fu) (hT : TR N P bk kd wd sl t) (hq : q ≤ 36) (hp : p < 8) : ∃ v, fX9_moreFor fu t r (nI p) (nI q) = some v ∧ FW 2 (AB N bk kd wd q p (gs N r p) (cut (2 ^ N - 1) (gs N r p))) v := by
  obtain ⟨hP1, hP8, hN⟩ := hT.1.2.2
  obtain ⟨v, h1, h2⟩ := more9_loop (fu := fu) (r := r) (g := gs N r p) hfu hT hq hp (mkS_lt _ _)
  refine ⟨v, ?_, FW_congr h2 (fun l _ => BG_AB hN)⟩
  unfold fX9_moreFor
  rw [bdS (gave9 hT (by omega) hp)]
  exact h1
theorem moreX {N P d x q p : Nat} {bk kd wd : Nat → Nat} {came under due r borne : Nat → Int32} {size : Int32} {fu : Nat} (hfu : 10 ≤ fu) (hB : BT N bk kd wd borne) (hN : N ≤ 8) (hsz : size = nI N) (hw : ∀ a, a < N → wd a ≤ 9) (hR : PR N P d x came under due r) (hd : d < 2 ^ 30) (hq : q ≤ 36) (hp : p < 8) : ∃ v, fX4_moreFor fu came under size borne (nI q) (nI p) = some v ∧ FW 2 (AB N bk kd wd q p (gs N r p) (cut (2 ^ N - 1) (gs N r p))) v := by
  have h8 := pow8 hN
  have h1 := pow0 N
  obtain ⟨v, h2, h3⟩ := addedX (fu := fu) (q := q) (p := p) (c := gs N r p) (m := cut (2 ^ N - 1) (gs N r p)) hfu hB hN hsz hw hq (by omega) (mkS_lt _ _) (cut_lt (by omega))
  refine ⟨v, ?_, h3⟩
  unfold fX4_moreFor
  rw [bdS (rdN hp (by decide)), bdS (rdN hp (by decide)), (hR.2.1 p hp).1, (hR.2.1 p hp).2, nI_or, gs_or hR hN hp hd, hsz, bdS (everyX hN), nI_cut (by omega), ← hsz, bdS h2]
theorem FW_2 {B : Nat → Prop} {v : Int32} (h : FW 2 B v) : v = -9 ∨ ∃ l, l ≤ 2 ∧ v = nI l := by
  rcases h with ⟨l, h1, h2, -⟩ | ⟨h1, -⟩
  · exact Or.inr ⟨l, h1, h2⟩
  · exact Or.inl h1
theorem q_fewest {N P : Nat} {bk kd wd sl : Nat → Nat} {day crossed th planks size sworn : Int32} {t came under due r bank kind word slow borne : Nat → Int32} {fu : Nat} (hfu : 300 ≤ fu) (hT : TR N P bk kd wd sl t) (hF : FR N P bk kd wd sl planks size sworn bank kind word slow) (hB : BT N bk kd wd borne) (hS : ST N P day crossed came under due r) (l p : Int32) : ∃ v, fX8_fewest fu planks came under size borne l p = some v ∧ fX9_fewest fu t r th l p = some (v, 0) := by
  obtain ⟨hP1, hP8, hN⟩ := hT.1.2.2
  have hw9 : ∀ a, a < N → wd a ≤ 9 := fun a ha => (hT.wf.2 a ha).2.2.1.2
  obtain ⟨d, x, hd, hx, ed, ex, hR⟩ := id hS
  unfold fX8_fewest fX9_fewest
  rcases load1 (fu := fu) (x := l) with ⟨l1, l2⟩ | ⟨l1, l2, q, hq1, hq2, rfl⟩
  · exact ⟨-1, by rw [bdS l2]; rfl, by rw [bdS l1]; rfl⟩
  rw [bdS l2, bdS l1, if10, if10]
  have both : ∀ j, j < 8 → ∃ v, fX4_moreFor fu came under size borne (nI q) (nI j) = some v ∧ fX9_moreFor fu t r (nI j) (nI q) = some v ∧ (v = -9 ∨ ∃ l, l ≤ 2 ∧ v = nI l) := by
    intro j hj
    obtain ⟨v, h1, h2⟩ := moreX (fu := fu) (q := q) (p := j) (by omega) hB hN hF.1.2.1 hw9 hR (by omega) hq2 hj
    obtain ⟨w, k1, k2⟩ := more9 (fu := fu) (r := r) (q := q) (p := j) hfu hT hq2 hj
    exact ⟨v, h1, by rw [FW_u h2 k2]; exact k1, FW_2 h2⟩
  by_cases hm : p = -1
  · rw [if_pos hm, if_pos hm]
    unfold fX9_fewest_b27 fX4_moreForAll
    rw [if_pos (by rw [hm]; decide)]
    have key : ∀ m k n n' s, P = k + m → m < n → m < n' → ∃ v, fX4_moreForAll_b4 fu planks came under size borne n (nI q) (nI s) (nI k) = some v ∧ fX9_fewest_b43 fu t r n' (nI q) (nI s) (nI k) 0 = some (v, 0) := by
      intro m
      induction m with
      | zero =>
        intro k n n' s hk hn hn'
        obtain ⟨n, rfl⟩ : ∃ z, n = z + 1 := ⟨n - 1, by omega⟩
        obtain ⟨n', rfl⟩ : ∃ z, n' = z + 1 := ⟨n' - 1, by omega⟩
        refine ⟨nI s, ?_, ?_⟩
        · show fX4_moreForAll_b4_body fu planks came under size borne _ _ _ _ = _
          unfold fX4_moreForAll_b4_body
          rw [hF.1.1, if_pos (nI_le (by omega) (by omega))]
        · show fX9_fewest_b43_body fu t r _ _ _ _ _ = _
          unfold fX9_fewest_b43_body
          rw [bdS hT.p, if_pos (nI_le (by omega) (by omega))]
      | succ m ih =>
        intro k n n' s hk hn hn'
        obtain ⟨n, rfl⟩ : ∃ z, n = z + 1 := ⟨n - 1, by omega⟩
        obtain ⟨n', rfl⟩ : ∃ z, n' = z + 1 := ⟨n' - 1, by omega⟩
        obtain ⟨v, h1, h2, h3⟩ := both k (by omega)
        have e1 : fX4_moreForAll_b4 fu planks came under size borne (n + 1) (nI q) (nI s) (nI k) = if v = -9 then some (-9) else fX4_moreForAll_b4 fu planks came under size borne n (nI q) (nI s + v) (nI k + 1) := by
          show fX4_moreForAll_b4_body fu planks came under size borne _ _ _ _ = _
          unfold fX4_moreForAll_b4_body
          rw [if_neg (by rw [hF.1.1]; exact nI_ge (by omega) (by omega)), bdS h1]
        have e2 : fX9_fewest_b43 fu t r (n' + 1) (nI q) (nI s) (nI k) 0 = if v = -9 then some (-9, 0) else fX9_fewest_b43 fu t r n' (nI q) (nI s + v) (nI k + 1) 0 := by
          show fX9_fewest_b43_body fu t r _ _ _ _ _ = _
          unfold fX9_fewest_b43_body
          rw [bdS hT.p, if_neg (nI_ge (by omega) (by omega)), bdS h2]
        rw [e1, e2]
        rcases h3 with h3 | ⟨l, h4, h5⟩
        · rw [if_pos h3, if_pos h3]; exact ⟨-9, rfl, rfl⟩
        · have h6 : ¬ v = -9 := by
            rw [h5]
            rcases (by omega : l = 0 ∨ l = 1 ∨ l = 2) with rfl | rfl | rfl <;> decide
          rw [if_neg h6, if_neg h6, h5, nI_add, ← nI_succ]
          exact ih (k + 1) n n' (s + l) (by omega) (by omega) (by omega)
    obtain ⟨v, k1, k2⟩ := key P 0 fu fu 0 (by omega) (by omega) (by omega)
    exact ⟨v, by rw [bdS (show fX4_moreForAll_b4 fu planks came under size borne fu (nI q) 0 0 = some v from k1)], k2⟩
  · rw [if_neg hm, if_neg hm]
    by_cases hp : og p P
    · exact ⟨-1, by rw [bdS ((hasPlankX hF.1.1).1 hp)]; rfl, by rw [bdS ((isPlank9 hT).1 hp)]; rfl⟩
    rw [bdS ((hasPlankX hF.1.1).2 hp), bdS ((isPlank9 hT).2 hp), if10, if10]
    obtain ⟨j, hj, rfl⟩ := og_in hp (by omega)
    obtain ⟨v, h1, h2, -⟩ := both j (by omega)
    refine ⟨v, by rw [bdS h1], ?_⟩
    unfold fX9_fewest_b27
    rw [if_neg (show ¬ nI j < 0 from nI_nlt (a := j) (b := 0) (by omega) (by omega)), bdS h2]
/-- those quick enough -/
def qk (N : Nat) (sl : Nat → Nat) (n : Nat) : Nat := mkS N (fun a => decide (sl a ≤ n))
theorem quickX {N P n : Nat} {bk kd wd sl : Nat → Nat} {planks size sworn : Int32} {bank kind word slow : Nat → Int32} {fu : Nat} (hfu : 9 ≤ fu) (hW : WF N P bk kd wd sl) (hF : FR N P bk kd wd sl planks size sworn bank kind word slow) (hn : n < 2 ^ 31) : fX4_quickEnough fu size slow (nI n) = some (nI (qk N sl n)) := by
  obtain ⟨hP1, hP8, hN⟩ := hW.1
  refine lp (N := N) (G := fun m k => fX4_quickEnough_b4 fu size slow m (nI n) (nI (mkS k (fun a => decide (sl a ≤ n)))) (nI k)) ?_ ?_ N 0 fu (by omega) (by omega)
  · intro m
    show fX4_quickEnough_b4_body fu size slow _ _ _ _ = _
    unfold fX4_quickEnough_b4_body
    rw [hF.1.2.1, if_pos (nI_le (by omega) (by omega))]
    rfl
  · intro m k hk
    right
    have K := hW.2 k hk
    show fX4_quickEnough_b4_body fu size slow _ _ _ _ = _
    unfold fX4_quickEnough_b4_body
    rw [if_neg (by rw [hF.1.2.1]; exact nI_ge (by omega) (by omega)), bdS (rdN (by omega) (by decide)), (hF.2 k hk).2.2.2, mkS, nI_succ]
    by_cases h : sl k ≤ n
    · rw [if_neg (nI_nlt h (by omega)), nI_shl (by omega), nI_or]
      simp [h]
    · rw [if_pos (nI_lt (by omega) (by omega))]
      simp [h]
