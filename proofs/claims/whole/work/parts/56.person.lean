-- a loop that goes up and writes
theorem lpI {α β : Type} {F : Nat → Nat → α → Option β} {N k0 : Nat} {I : Nat → α → Prop} {Q : β → Prop} (h0 : ∀ n x, I N x → ∃ r, F (n + 1) N x = some r ∧ Q r) (h1 : ∀ n k x, k0 ≤ k → k < N → I k x → (∃ r, F (n + 1) k x = some r ∧ Q r) ∨ ∃ y, I (k + 1) y ∧ F (n + 1) k x = F n (k + 1) y) : ∀ m k n x, k0 ≤ k → I k x → N = k + m → m < n → ∃ r, F n k x = some r ∧ Q r := by
  intro m
  induction m with
  | zero =>
    intro k n x _ hI hk hn
    obtain ⟨n, rfl⟩ : ∃ q, n = q + 1 := ⟨n - 1, by omega⟩
    have e : k = N := by omega
    subst e; exact h0 n x hI
  | succ m ih =>
    intro k n x h2 hI hk hn
    obtain ⟨n, rfl⟩ : ∃ q, n = q + 1 := ⟨n - 1, by omega⟩
    rcases h1 n k x h2 (by omega) hI with h | ⟨y, h, e⟩
    · exact h
    · rw [e]; exact ih (k + 1) n y (by omega) h (by omega) (by omega)
theorem ix9 (a p : Nat) : ((2 : Int32) + 8 * nI a) + nI p = nI (2 + 8 * a + p) := by
  rw [show (8 : Int32) * nI a = nI (8 * a) from pk_mul 8 a, show (2 : Int32) + nI (8 * a) = nI (2 + 8 * a) from nI_add 2 _, nI_add]
theorem upd_at (f : Nat → Int32) (j : Nat) (x : Int32) : upd f j x j = x := by simp [upd]
theorem upd_ne {f : Nat → Int32} {i j : Nat} {x : Int32} (h : i ≠ j) : upd f j x i = f i := by simp [upd, h]
theorem asNow9 {fu : Nat} {r w : Nat → Int32} (hfu : 67 ≤ fu) : ∃ w', fX9_asNow fu r w = some w' ∧ ∀ j, j < 66 → w' j = r j := by
  refine lpI (N := 66) (k0 := 0) (F := fun n k x => fX9_asNow_b2 fu r n (nI k) x) (I := fun k x => ∀ j, j < k → x j = r j) ?_ ?_ 66 0 fu w (Nat.le_refl _) (fun j hj => by omega) (by omega) (by omega)
  · intro n x hI
    refine ⟨x, ?_, hI⟩
    show fX9_asNow_b2_body fu r _ _ _ = _
    unfold fX9_asNow_b2_body
    rw [if_pos (by decide)]
  · intro n k x _ hk hI
    right
    refine ⟨upd x k (r k), ?_, ?_⟩
    · intro j hj
      by_cases e : j = k
      · rw [e, upd_at]
      · rw [upd_ne e]; exact hI j (by omega)
    · show fX9_asNow_b2_body fu r _ _ _ = _
      unfold fX9_asNow_b2_body
      rw [if_neg (show ¬ 66 ≤ nI k from nI_ge (b := 66) (by omega) (by decide)), bdS (rdN (by omega) (by decide)), bdS (wrN (by omega) (by decide)), nI_succ]
/-- all promises of one broken -/
def brk (r : Nat → Int32) (a : Nat) : Nat → Int32 := fun j => if 2 + 8 * a ≤ j ∧ j < 10 + 8 * a then 0 else r j
theorem broken9 {fu a : Nat} {w : Nat → Int32} (hfu : 9 ≤ fu) (ha : a < 8) : fX9_allBroken fu w (nI a) = some (brk w a) := by
  have h := lpI (N := 8) (k0 := 0) (F := fun n k x => fX9_allBroken_b2 fu n (nI a) (nI k) x) (I := fun k x => x = fun j => if 2 + 8 * a ≤ j ∧ j < 2 + 8 * a + k then 0 else w j) (Q := fun y => y = brk w a) ?_ ?_ 8 0 fu w (Nat.le_refl _) (funext fun j => by rw [if_neg (by omega)]) (by omega) (by omega)
  · obtain ⟨y, h1, h2⟩ := h
    rw [← h2]
    exact h1
  · intro n x hI
    refine ⟨x, ?_, ?_⟩
    · show fX9_allBroken_b2_body fu _ _ _ _ = _
      unfold fX9_allBroken_b2_body
      rw [if_pos (by decide)]
    · rw [hI]
      funext j
      unfold brk
      by_cases h : 2 + 8 * a ≤ j ∧ j < 10 + 8 * a
      · rw [if_pos h, if_pos (by omega)]
      · rw [if_neg h, if_neg (by omega)]
  · intro n k x _ hk hI
    right
    refine ⟨upd x (2 + 8 * a + k) 0, ?_, ?_⟩
    · funext j
      by_cases e : j = 2 + 8 * a + k
      · rw [e, upd_at, if_pos (by omega)]
      · rw [upd_ne e, hI]
        show (if 2 + 8 * a ≤ j ∧ j < 2 + 8 * a + k then (0 : Int32) else w j) = _
        by_cases h : 2 + 8 * a ≤ j ∧ j < 2 + 8 * a + k
        · rw [if_pos h, if_pos (by omega)]
        · rw [if_neg h, if_neg (by omega)]
    · show fX9_allBroken_b2_body fu _ _ _ _ = _
      unfold fX9_allBroken_b2_body
      rw [if_neg (show ¬ 8 ≤ nI k from nI_ge (b := 8) (by omega) (by decide)), ix9, bdS (wrN (by omega) (by decide)), nI_succ]
theorem cs_congr {N p : Nat} {r w : Nat → Int32} (hN : N ≤ 8) (hp : p < 8) (h : ∀ j, j < 66 → w j = r j) : cs N w p = cs N r p :=
  mkS_congr (fun a ha => by rw [h (2 + 8 * a + p) (by omega)])
theorem cs_brk {N p a : Nat} {r : Nat → Int32} (hN : N ≤ 8) (hp : p < 8) : cs N (brk r a) p = cut (cs N r p) (2 ^ a) := by
  apply Nat.eq_of_testBit_eq
  intro i
  rw [cut_bit]
  unfold cs
  rw [mkS_bit, mkS_bit]
  by_cases hi : i < N
  · have h8 : i < 8 := by omega
    by_cases e : i = a
    · subst e
      have : brk r i (2 + 8 * i + p) = 0 := if_pos (by omega)
      rw [this]
      simp [Nat.testBit_two_pow_self]
    · have : brk r a (2 + 8 * i + p) = r (2 + 8 * i + p) := if_neg (by omega)
      rw [this]
      have e2 : (2 ^ a).testBit i = false := by
        rw [Nat.testBit_two_pow]
        exact decide_eq_false (fun q => e q.symm)
      simp [hi, h8, e2]
  · simp [hi]
theorem brg_congr {N P : Nat} {bk kd wd : Nat → Nat} {C D : Nat → Nat} (h : ∀ p, p < P → C p = D p) : brg N P bk kd wd C = brg N P bk kd wd D := inf_congr (fun p hp => by rw [h p hp])
theorem lyS_congr {N P : Nat} {bk kd wd : Nat → Nat} {C D : Nat → Nat} (h : ∀ p, p < P → C p = D p) : lyS N P bk kd wd C = lyS N P bk kd wd D := mkS_congr (fun p hp => by rw [h p hp])
theorem planksX {P a : Nat} {arr : Nat → Int32} {planks : Int32} {fu : Nat} {C : Nat → Nat} (hfu : 9 ≤ fu) (hP : P ≤ 8) (ha : a < 31) (hpl : planks = nI P) (hC : ∀ p, p < 8 → arr p = nI (C p) ∧ C p < 2 ^ 31) : fX8_planksOf fu planks arr (nI a) = some (nI (mkS P (fun p => (C p).testBit a))) := by
  refine lp (N := P) (G := fun n k => fX8_planksOf_b5 fu planks arr n (nI a) (nI (mkS k (fun p => (C p).testBit a))) (nI k)) ?_ ?_ P 0 fu (by omega) (by omega)
  · intro n
    show fX8_planksOf_b5_body fu planks arr _ _ _ _ = _
    unfold fX8_planksOf_b5_body
    rw [hpl, if_pos (nI_le (by omega) (by omega))]
  · intro n k hk
    right
    show fX8_planksOf_b5_body fu planks arr _ _ _ _ = _
    unfold fX8_planksOf_b5_body
    obtain ⟨c1, c2⟩ := hC k (by omega)
    rw [hpl, if_neg (nI_ge (by omega) (by omega)), bdS (rdN (by omega) (by decide)), c1, bdS (has8 c2 ha), mkS, nI_succ]
    cases (C k).testBit a
    · rw [if_pos (by decide)]
      simp
    · rw [if_neg (by decide), nI_shl (by omega), nI_or]
      simp
theorem given9 {N P a : Nat} {bk kd wd sl : Nat → Nat} {t r : Nat → Int32} (hT : TR N P bk kd wd sl t) {fu : Nat} (hfu : 9 ≤ fu) (ha : a < 8) (b : Bool) : fX9_given fu t r (nI a) (bI b) = some (nI (mkS P (fun p => decide (r (2 + 8 * a + p) ≠ 0) && (decide (r (2 + 8 * a + p) = -1) == b)))) := by
  obtain ⟨hP1, hP8, hN⟩ := hT.1.2.2
  refine lp (N := P) (G := fun n k => fX9_given_b5 fu t r n (nI a) (bI b) (nI (mkS k (fun p => decide (r (2 + 8 * a + p) ≠ 0) && (decide (r (2 + 8 * a + p) = -1) == b)))) (nI k)) ?_ ?_ P 0 fu (by omega) (by omega)
  · intro n
    show fX9_given_b5_body fu t r _ _ _ _ _ = _
    unfold fX9_given_b5_body
    rw [bdS hT.p, if_pos (nI_le (by omega) (by omega))]
  · intro n k hk
    right
    show fX9_given_b5_body fu t r _ _ _ _ _ = _
    unfold fX9_given_b5_body
    rw [bdS hT.p, if_neg (nI_ge (by omega) (by omega)), ix9, bdS (rdN (by omega) (by decide)), mkS, nI_succ]
    have z : ∀ x, nI x ||| (0 : Int32) = nI x := fun x => by rw [show (0 : Int32) = nI 0 from rfl, nI_or, Nat.or_zero]
    by_cases h0 : r (2 + 8 * a + k) = 0
    · rw [if_pos h0, z]
      simp [h0]
    · rw [if_neg h0]
      unfold fX9_given_b49
      rw [z, nI_shl (by omega), nI_or]
      by_cases h1 : r (2 + 8 * a + k) = -1
      · rw [if_pos h1]
        cases b
        · rw [if_neg (by decide)]
          simp [h1]
        · rw [if_pos (by decide)]
          simp [h1]
      · rw [if_neg h1]
        cases b
        · rw [if_pos (by decide)]
          simp [h1, h0]
        · rw [if_neg (by decide)]
          simp [h1]
/-- what one gave: came, under way -/
theorem camePl {N P d x a : Nat} {came under due r : Nat → Int32} (hN : N ≤ 8) (hP : P ≤ 8) (ha : a < N) : mkS P (fun p => decide (r (2 + 8 * a + p) ≠ 0) && (decide (r (2 + 8 * a + p) = -1) == true)) = mkS P (fun p => (cs N r p).testBit a) := by
  apply mkS_congr
  intro p hp
  unfold cs
  rw [mkS_bit]
  by_cases h : r (2 + 8 * a + p) = -1
  · simp [h, ha]
  · simp [h]
theorem undPl {N P d x a : Nat} {came under due r : Nat → Int32} (hR : PR N P d x came under due r) (hN : N ≤ 8) (hP : P ≤ 8) (hd : d < 2 ^ 30) (ha : a < N) : mkS P (fun p => decide (r (2 + 8 * a + p) ≠ 0) && (decide (r (2 + 8 * a + p) = -1) == false)) = mkS P (fun p => (us N r p).testBit a) := by
  apply mkS_congr
  intro p hp
  unfold us
  rw [mkS_bit]
  rcases (hR.2.2 a p (by omega) (by omega)).1 with h | h | ⟨e, h1, h2, h3, -⟩
  · simp [h]
  · simp [h]
  · have p1 : 0 < r (2 + 8 * a + p) := by rw [h3]; exact nI_lt (a := 0) (by omega) (by omega)
    have p2 : r (2 + 8 * a + p) ≠ 0 := fun q => by rw [q] at p1; exact absurd p1 (by decide)
    have p3 : r (2 + 8 * a + p) ≠ -1 := fun q => by rw [q] at p1; exact absurd p1 (by decide)
    simp [p1, p2, p3, ha]
theorem fallX {N P a : Nat} {bk kd wd : Nat → Nat} {borne came : Nat → Int32} {planks : Int32} {fu : Nat} {C : Nat → Nat} (hfu : 9 ≤ fu) (hB : BT N bk kd wd borne) (hN : N ≤ 8) (hP : 1 ≤ P ∧ P ≤ 8) (hpl : planks = nI P) (ha : a < 31) (hC : ∀ p, p < 8 → came p = nI (C p) ∧ C p < 2 ^ N) (hw : ∀ a, a < N → wd a ≤ 9) : fX7_falling fu planks came borne (nI a) = some (nI (cut (lyS N P bk kd wd C) (lyS N P bk kd wd (fun p => cut (C p) (2 ^ a))))) := by
  have h8 := pow8 hN
  have e : cut (lyS N P bk kd wd C) (lyS N P bk kd wd (fun p => cut (C p) (2 ^ a))) = mkS P (fun p => decide (0 < bears N bk kd wd p (C p)) && decide (bears N bk kd wd p (cut (C p) (2 ^ a)) = 0)) := by
    apply Nat.eq_of_testBit_eq
    intro i
    rw [cut_bit]
    unfold lyS
    rw [mkS_bit, mkS_bit, mkS_bit]
    by_cases hi : i < P
    · have : i < 8 := by omega
      by_cases q : bears N bk kd wd i (cut (C i) (2 ^ a)) = 0
      · simp [hi, this, q]
      · have q' : 0 < bears N bk kd wd i (cut (C i) (2 ^ a)) := by omega
        simp [hi, this, q, q']
    · simp [hi]
  rw [e]
  refine lp (N := P) (G := fun n k => fX7_falling_b5 fu planks came borne n (nI a) (nI (mkS k (fun p => decide (0 < bears N bk kd wd p (C p)) && decide (bears N bk kd wd p (cut (C p) (2 ^ a)) = 0)))) (nI k)) ?_ ?_ P 0 fu (by omega) (by omega)
  · intro n
    show fX7_falling_b5_body fu planks came borne _ _ _ _ = _
    unfold fX7_falling_b5_body
    rw [hpl, if_pos (nI_le (by omega) (by omega))]
  · intro n k hk
    right
    show fX7_falling_b5_body fu planks came borne _ _ _ _ = _
    unfold fX7_falling_b5_body
    obtain ⟨c1, c2⟩ := hC k (by omega)
    have hb := bears_le (N := N) (bk := bk) (kd := kd) (p := k) (c := C k) hw
    have hb2 := bears_le (N := N) (bk := bk) (kd := kd) (p := k) (c := cut (C k) (2 ^ a)) hw
    rw [hpl, if_neg (nI_ge (by omega) (by omega)), bdS (rdN (by omega) (by decide)), c1, bdS (ofX hB hN c2 (by omega)), mkS]
    by_cases h : bears N bk kd wd k (C k) = 0
    · rw [if_pos ((le0 (by omega)).mpr h), nI_succ]
      simp [h]
    · rw [if_neg (fun e => h ((le0 (by omega)).mp e)), nI_succ, nI_shl ha, bdS (rdN (by omega) (by decide)), c1, nI_cut (by omega), bdS (ofX hB hN (cut_lt c2) (by omega)), nI_shl (by omega), nI_or]
      have h' : 0 < bears N bk kd wd k (C k) := by omega
      by_cases h2 : bears N bk kd wd k (cut (C k) (2 ^ a)) = 0
      · rw [if_pos (by rw [h2]; rfl)]
        simp [h', h2]
      · rw [if_neg (show ¬ nI (bears N bk kd wd k (cut (C k) (2 ^ a))) = 0 from fun q => h2 ((nI_eq (b := 0) (by omega) (by decide)).mp q))]
        simp [h2]
theorem in8 (x : Int32) {y : Int32} (lo hi : Int32) (h : x < lo ∨ hi < x) (h1 : ¬ y < lo) (h2 : ¬ hi < y) : x ≠ y := by
  intro e
  subst e
  exact h.elim h1 h2
theorem brX0 {N P d x : Nat} {bk kd wd sl : Nat → Nat} {t came under due r bank kind word slow borne : Nat → Int32} {planks size sworn : Int32} {fu : Nat} (hfu : 9 ≤ fu) (hT : TR N P bk kd wd sl t) (hF : FR N P bk kd wd sl planks size sworn bank kind word slow) (hB : BT N bk kd wd borne) (hR : PR N P d x came under due r) : fX7_bridge fu came borne planks 0 = some (nI (brg N P bk kd wd (cs N r))) := by
  obtain ⟨hP1, hP8, hN⟩ := hT.1.2.2
  have h8 := pow8 hN
  have hw : ∀ a, a < N → wd a ≤ 9 := fun a ha => (hT.wf.2 a ha).2.2.1.2
  have hbr := bridgeX (g := 0) (fu := fu) (by omega) hB hN ⟨hP1, hP8⟩ hF.1.1 hR.C hw
  rw [show (fun p => cut (cs N r p) 0) = cs N r from funext (fun p => cut_0 (by have := cs_lt N r p; omega))] at hbr
  exact hbr
/-- person -/
theorem q_person {N P d x : Nat} {bk kd wd sl : Nat → Nat} {t came under due r bank kind word slow borne w : Nat → Int32} {planks size sworn th : Int32} {fu : Nat} (hfu : 67 ≤ fu) (hT : TR N P bk kd wd sl t) (hF : FR N P bk kd wd sl planks size sworn bank kind word slow) (hB : BT N bk kd wd borne) (hR : PR N P d x came under due r) (hd : d < 2 ^ 30) (a b : Int32) : ∃ v w', fX8_person fu size came borne planks under slow word kind bank a b = some v ∧ fX9_person fu t r w th a b = some (v, w', 0) := by
  obtain ⟨hP1, hP8, hN⟩ := hT.1.2.2
  have h8 := pow8 hN
  have hW := hT.wf
  have hw : ∀ a, a < N → wd a ≤ 9 := fun a ha => (hT.wf.2 a ha).2.2.1.2
  unfold fX8_person fX9_person
  by_cases ha : og a N
  · exact ⟨-1, w, by rw [bdS ((hasPersonX hF.1.2.1).1 ha)]; rfl, by rw [bdS ((isPerson9 hT).1 ha)]; rfl⟩
  rw [bdS ((hasPersonX hF.1.2.1).2 ha), bdS ((isPerson9 hT).2 ha), if10, if10]
  obtain ⟨i, hi, rfl⟩ := og_in ha (by omega)
  obtain ⟨f1, f2, f3, f4⟩ := hF.2 i hi
  rcases rng (fu := fu) (x := b) (lo := 0) (hi := 7) with ⟨h1, -, h2⟩ | ⟨h1, -, h3, h4⟩
  · refine ⟨-1, w, ?_, by rw [bdS h1]; rfl⟩
    have n : ∀ y : Int32, ¬ y < 0 → ¬ 7 < y → b ≠ y := fun y => in8 b 0 7 h2
    rw [if_neg (n 0 (by decide) (by decide)), if_neg (n 1 (by decide) (by decide)), if_neg (n 2 (by decide) (by decide)), if_neg (n 3 (by decide) (by decide)), if_neg (n 4 (by decide) (by decide)), if_neg (n 5 (by decide) (by decide)), if_neg (n 6 (by decide) (by decide)), if_neg (n 7 (by decide) (by decide))]
  · rw [bdS h1, if10]
    obtain ⟨q, hq, rfl⟩ := nI_of h3
    have hq5 : ¬ 7 < q := fun z => h4 (nI_lt (a := 7) z hq)
    have hbr := brX0 (fu := fu) (by omega) hT hF hB hR
    have hbr2 := bridgeX (g := 2 ^ i) (fu := fu) (by omega) hB hN ⟨hP1, hP8⟩ hF.1.1 hR.C hw
    obtain ⟨w1, hw1, hw2⟩ := asNow9 (fu := fu) (r := r) (w := w) hfu
    have hw3 := broken9 (fu := fu) (a := i) (w := w1) (by omega) (by omega)
    have hw4 : ∀ p, p < P → cs N (brk w1 i) p = cut (cs N r p) (2 ^ i) := fun p hp => by
      rw [cs_brk hN (by omega), cs_congr hN (by omega) hw2]
    have p1 : ∀ p, p < 8 → came p = nI (cs N r p) ∧ cs N r p < 2 ^ 31 := fun p hp => ⟨(hR.2.1 p hp).1, by have := cs_lt N r p; omega⟩
    have p2 : ∀ p, p < 8 → under p = nI (us N r p) ∧ us N r p < 2 ^ 31 := fun p hp => ⟨(hR.2.1 p hp).2, by have := us_lt N r p; omega⟩
    rcases (by omega : q = 0 ∨ q = 1 ∨ q = 2 ∨ q = 3 ∨ q = 4 ∨ q = 5 ∨ q = 6 ∨ q = 7) with rfl | rfl | rfl | rfl | rfl | rfl | rfl | rfl
    · refine ⟨nI (bk i), w, ?_, ?_⟩
      · show ((rd 8 bank (nI i)).bind fun v => some v) = _
        rw [bdS (rdN (by omega) (by decide)), f1]
      · show ((rd 34 t (2 + nI i)).bind fun v => some (v, w, 0)) = _
        rw [bdS (hT.bk hi)]
    · refine ⟨nI (kd i), w, ?_, ?_⟩
      · show ((rd 8 kind (nI i)).bind fun v => some v) = _
        rw [bdS (rdN (by omega) (by decide)), f2]
      · show ((rd 34 t (10 + nI i)).bind fun v => some (v, w, 0)) = _
        rw [bdS (hT.kd hi)]
    · refine ⟨nI (wd i), w, ?_, ?_⟩
      · show ((rd 8 word (nI i)).bind fun v => some v) = _
        rw [bdS (rdN (by omega) (by decide)), f3]
      · show ((rd 34 t (18 + nI i)).bind fun v => some (v, w, 0)) = _
        rw [bdS (hT.wd hi)]
    · refine ⟨nI (sl i), w, ?_, ?_⟩
      · show ((rd 8 slow (nI i)).bind fun v => some v) = _
        rw [bdS (rdN (by omega) (by decide)), f4]
      · show ((rd 34 t (26 + nI i)).bind fun v => some (v, w, 0)) = _
        rw [bdS (hT.sl hi)]
    · refine ⟨nI (mkS P (fun p => (cs N r p).testBit i)), w, ?_, ?_⟩
      · show ((fX8_planksOf fu planks came (nI i)).bind fun v => some v) = _
        rw [bdS (planksX (by omega) hP8 (by omega) hF.1.1 p1)]
      · show ((fX9_given fu t r (nI i) (bI true)).bind fun v => some (v, w, 0)) = _
        rw [bdS (given9 hT (by omega) (by omega) true), camePl (d := d) (x := x) (came := came) (under := under) (due := due) hN hP8 hi]
    · refine ⟨nI (mkS P (fun p => (us N r p).testBit i)), w, ?_, ?_⟩
      · show ((fX8_planksOf fu planks under (nI i)).bind fun v => some v) = _
        rw [bdS (planksX (by omega) hP8 (by omega) hF.1.1 p2)]
      · show ((fX9_given fu t r (nI i) (bI false)).bind fun v => some (v, w, 0)) = _
        rw [bdS (given9 hT (by omega) (by omega) false), undPl hR hN hP8 hd hi]
    · refine ⟨nI (cut (lyS N P bk kd wd (cs N r)) (lyS N P bk kd wd (fun p => cut (cs N r p) (2 ^ i)))), brk w1 i, ?_, ?_⟩
      · show ((fX7_falling fu planks came borne (nI i)).bind fun v => some v) = _
        rw [bdS (fallX (by omega) hB hN ⟨hP1, hP8⟩ hF.1.1 (by omega) hR.C hw)]
      · show ((fX9_asNow fu r w).bind fun g8 => (fX9_allBroken fu g8 (nI i)).bind fun g10 => (fX9_lying fu t r).bind fun v15 => (fX9_lying fu t g10).bind fun v16 => some ((v15 &&& (v16 ^^^ (-1))), g10, 0)) = _
        have hl : lyS N P bk kd wd (cs N r) < 2 ^ P := mkS_lt _ _
        have := pow8 hP8
        rw [bdS hw1, bdS hw3, bdS (lying9 hT (by omega)), bdS (lying9 hT (by omega)), nI_cut (by omega), lyS_congr hw4]
    · refine ⟨mx 0 (nI (brg N P bk kd wd (cs N r)) - nI (brg N P bk kd wd (fun p => cut (cs N r p) (2 ^ i)))), brk w1 i, ?_, ?_⟩
      · show ((fX7_bridge fu came borne planks 0).bind fun v17 => (fX7_bridge fu came borne planks ((1 : Int32) <<< (nI i &&& 31))).bind fun v18 => some ((mx 0 (v17 - v18)))) = _
        rw [bdS hbr, nI_shl (by omega), bdS hbr2]
      · show ((fX9_asNow fu r w).bind fun g8 => (fX9_allBroken fu g8 (nI i)).bind fun g10 => (fX9_bridge fu t r).bind fun v12 => (fX9_bridge fu t g10).bind fun v13 => (if 0 ≤ (v12 - v13) then some ((v12 - v13), g10, (0 : Int32)) else some (0, g10, 0))) = _
        rw [bdS hw1, bdS hw3, bdS (bridge9 hT (by omega)), bdS (bridge9 hT (by omega)), brg_congr hw4]
        generalize nI (brg N P bk kd wd (cs N r)) - nI (brg N P bk kd wd (fun p => cut (cs N r p) (2 ^ i))) = z
        unfold mx
        by_cases hz : 0 < z
        · rw [if_pos hz, if_pos (Int32.le_of_lt hz)]
        · rw [if_neg hz]
          by_cases hz2 : 0 ≤ z
          · rw [if_pos hz2, show z = 0 from Int32.le_antisymm (Int32.not_lt.mp hz) hz2]
          · rw [if_neg hz2]
