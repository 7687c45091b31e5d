-- numbers that may be anything
/-- out of 0 .. N - 1 -/
def og (x : Int32) (N : Nat) : Prop := x < 0 ∨ nI N ≤ x
theorem og_in {x : Int32} {N : Nat} (h : ¬ og x N) (hN : N < 2 ^ 31) : ∃ j, j < N ∧ x = nI j := by
  rcases pk_ix x hN with q | q | q
  · exact absurd (Or.inl q) h
  · exact absurd (Or.inr q) h
  · exact q
theorem in9 {fu N : Nat} {x : Int32} (hN : N < 2 ^ 30) : (og x N → fX9_in fu x 0 (nI N - 1) = some 0) ∧ (¬ og x N → fX9_in fu x 0 (nI N - 1) = some 1) := by
  have e : nI N - 1 < x ↔ nI N ≤ x := by
    rw [Int32.lt_iff_toInt_lt, Int32.le_iff_toInt_le, show (nI N - 1 : Int32) = nI N - nI 1 from rfl, pk_sub_toInt hN (by decide), nI_toInt (by omega)]
    omega
  unfold fX9_in
  constructor
  · intro h
    by_cases h0 : x < 0
    · rw [if_pos h0]
    · rw [if_neg h0, if_pos (e.mpr (h.resolve_left h0))]
  · intro h
    rw [if_neg (fun q => h (Or.inl q)), if_neg (fun q => h (Or.inr (e.mp q)))]
theorem isPerson9 {N P : Nat} {bk kd wd sl : Nat → Nat} {t : Nat → Int32} (hT : TR N P bk kd wd sl t) {fu : Nat} {x : Int32} : (og x N → fX9_isPerson fu t x = some 0) ∧ (¬ og x N → fX9_isPerson fu t x = some 1) := by
  obtain ⟨hP1, hP8, hN⟩ := hT.1.2.2
  unfold fX9_isPerson
  rw [bdS hT.n]
  exact ⟨fun h => by rw [bdS ((in9 (by omega)).1 h)]; rfl, fun h => by rw [bdS ((in9 (by omega)).2 h)]; rfl⟩
theorem isPlank9 {N P : Nat} {bk kd wd sl : Nat → Nat} {t : Nat → Int32} (hT : TR N P bk kd wd sl t) {fu : Nat} {x : Int32} : (og x P → fX9_isPlank fu t x = some 0) ∧ (¬ og x P → fX9_isPlank fu t x = some 1) := by
  obtain ⟨hP1, hP8, hN⟩ := hT.1.2.2
  unfold fX9_isPlank
  rw [bdS hT.p]
  exact ⟨fun h => by rw [bdS ((in9 (by omega)).1 h)]; rfl, fun h => by rw [bdS ((in9 (by omega)).2 h)]; rfl⟩
theorem hasPersonX {fu N : Nat} {x size : Int32} (hs : size = nI N) : (og x N → fX0_hasPerson fu size x = some 0) ∧ (¬ og x N → fX0_hasPerson fu size x = some 1) := by
  unfold fX0_hasPerson
  constructor
  · intro h
    by_cases h0 : x < 0
    · rw [if_pos h0]
    · rw [if_neg h0, if_pos (by rw [hs]; exact h.resolve_left h0)]
  · intro h
    rw [if_neg (fun q => h (Or.inl q)), if_neg (fun q => h (Or.inr (by rw [hs] at q; exact q)))]
theorem hasPlankX {fu P : Nat} {x planks : Int32} (hs : planks = nI P) : (og x P → fX0_hasPlank fu planks x = some 0) ∧ (¬ og x P → fX0_hasPlank fu planks x = some 1) := by
  unfold fX0_hasPlank
  constructor
  · intro h
    by_cases h0 : x < 0
    · rw [if_pos h0]
    · rw [if_neg h0, if_pos (by rw [hs]; exact h.resolve_left h0)]
  · intro h
    rw [if_neg (fun q => h (Or.inl q)), if_neg (fun q => h (Or.inr (by rw [hs] at q; exact q)))]
/-- a number between two -/
theorem rng {fu : Nat} {x : Int32} {lo hi : Int32} : (fX9_in fu x lo hi = some 0 ∧ fX8_within fu x lo hi = some 0 ∧ (x < lo ∨ hi < x)) ∨ (fX9_in fu x lo hi = some 1 ∧ fX8_within fu x lo hi = some 1 ∧ ¬ x < lo ∧ ¬ hi < x) := by
  unfold fX9_in fX8_within
  by_cases h0 : x < lo
  · left
    rw [if_pos h0]
    exact ⟨rfl, rfl, Or.inl h0⟩
  · rw [if_neg h0]
    by_cases h1 : hi < x
    · left
      rw [if_pos h1]
      exact ⟨rfl, rfl, Or.inr h1⟩
    · right
      rw [if_neg h1]
      exact ⟨rfl, rfl, h0, h1⟩
theorem load1 {fu : Nat} {x : Int32} : (fX9_isLoad fu x = some 0 ∧ fX8_isLoad fu x = some 0) ∨ (fX9_isLoad fu x = some 1 ∧ fX8_isLoad fu x = some 1 ∧ ∃ l, 1 ≤ l ∧ l ≤ 36 ∧ x = nI l) := by
  rcases rng (fu := fu) (x := x) (lo := 1) (hi := 36) with ⟨h1, h2, -⟩ | ⟨h1, h2, h3, h4⟩
  · left
    unfold fX9_isLoad fX8_isLoad
    rw [bdS h1, bdS h2]
    exact ⟨rfl, rfl⟩
  · right
    have h5 : ¬ x < 0 := fun q => h3 (by
      rw [Int32.lt_iff_toInt_lt] at q ⊢
      have e0 : (0 : Int32).toInt = 0 := by decide
      have e1 : (1 : Int32).toInt = 1 := by decide
      omega)
    obtain ⟨l, hl, rfl⟩ := nI_of h5
    refine ⟨?_, ?_, l, ?_, ?_, rfl⟩
    · unfold fX9_isLoad
      rw [bdS h1]; rfl
    · unfold fX8_isLoad
      rw [bdS h2]; rfl
    · rcases Nat.lt_or_ge l 1 with q | q
      · exact absurd (nI_lt (b := 1) q (by decide)) h3
      · exact q
    · rcases Nat.lt_or_ge 36 l with q | q
      · exact absurd (nI_lt (a := 36) q hl) h4
      · exact q
-- rows of promises: the reference's row beside the class's cells
def us (N : Nat) (r : Nat → Int32) (p : Nat) : Nat := mkS N (fun a => decide (0 < r (2 + 8 * a + p)))
def PR (N P d x : Nat) (came under due : Nat → Int32) (r : Nat → Int32) : Prop :=
  (r 0 = nI d ∧ r 1 = nI x) ∧ (∀ p, p < 8 → came p = nI (cs N r p) ∧ under p = nI (us N r p)) ∧
  ∀ a p, a < 8 → p < 8 → (r (2 + 8 * a + p) = 0 ∨ r (2 + 8 * a + p) = -1 ∨ ∃ e, d < e ∧ e ≤ d + 6 ∧ r (2 + 8 * a + p) = nI (e + 1) ∧ due (8 * p + a) = nI e) ∧ (r (2 + 8 * a + p) ≠ 0 → a < N ∧ p < P)
theorem PR.C {N P d x : Nat} {came under due r : Nat → Int32} (h : PR N P d x came under due r) : ∀ p, p < 8 → came p = nI (cs N r p) ∧ cs N r p < 2 ^ N := fun p hp => ⟨(h.2.1 p hp).1, cs_lt _ _ _⟩
theorem us_lt (N : Nat) (r : Nat → Int32) (p : Nat) : us N r p < 2 ^ N := mkS_lt _ _
/-- hold -/
theorem q_hold {N P d x : Nat} {bk kd wd sl : Nat → Nat} {t came under due r bank kind word slow : Nat → Int32} {planks size sworn th : Int32} {fu : Nat} (hfu : 9 ≤ fu) (hT : TR N P bk kd wd sl t) (hF : FR N P bk kd wd sl planks size sworn bank kind word slow) (hR : PR N P d x came under due r) (a p : Int32) : ∃ v, fX8_hold fu size planks word came kind sworn a p = some v ∧ fX9_hold fu t r th a p = some (v, 0) := by
  obtain ⟨hP1, hP8, hN⟩ := hT.1.2.2
  have h8 := pow8 hN
  unfold fX8_hold fX9_hold
  by_cases ha : og a N
  · exact ⟨-1, by rw [bdS ((hasPersonX hF.1.2.1).1 ha)]; rfl, by rw [bdS ((isPerson9 hT).1 ha)]; rfl⟩
  rw [bdS ((hasPersonX hF.1.2.1).2 ha), bdS ((isPerson9 hT).2 ha), if10, if10]
  by_cases hp : og p P
  · exact ⟨-1, by rw [bdS ((hasPlankX hF.1.1).1 hp)]; rfl, by rw [bdS ((isPlank9 hT).1 hp)]; rfl⟩
  rw [bdS ((hasPlankX hF.1.1).2 hp), bdS ((isPlank9 hT).2 hp), if10, if10]
  obtain ⟨i, hi, rfl⟩ := og_in ha (by omega)
  obtain ⟨j, hj, rfl⟩ := og_in hp (by omega)
  obtain ⟨c1, c2⟩ := hR.C j (by omega)
  obtain ⟨-, f2, f3, -⟩ := hF.2 i hi
  obtain ⟨-, -, k5, w9, -⟩ := hT.2 i hi
  refine ⟨nI (hdW N kd i (wd i) j (cs N r j)), ?_, ?_⟩
  · rw [bdS (rdN (by omega) (by decide)), bdS (rdN (by omega) (by decide)), f3, c1, bdS (holdX hN f2 k5.2 hF.1.2.2 hi (by omega) (by omega) w9.2)]
  · rw [bdS (came9 hT hfu (by omega)), bdS (hold9 hT hfu (by omega) hi (by omega))]
theorem standX_loop {N P : Nat} {bk kd wd sl : Nat → Nat} {bank kind word slow : Nat → Int32} {planks size sworn : Int32} (hW : WF N P bk kd wd sl) (hF : FR N P bk kd wd sl planks size sworn bank kind word slow) {fu c p b : Nat} (hc : c < 2 ^ 31) (hp : p < 2 ^ 31) (hb : b ≤ 1) : ∀ (m k n : Nat), N = k + m → m < n → fX7_standing_b6 fu size bank kind word sworn n (nI p) (nI c) (nI b) (nI (mkS k (fun a => (bk a == b || kd a == 3) && c.testBit a && decide (0 < hdW N kd a (wd a) p c)))) (nI k) = some (nI (stS N bk kd wd p c b)) := by
  intro m
  obtain ⟨hP1, hP8, hN⟩ := hW.1
  induction m with
  | zero =>
    intro k n hk hn
    obtain ⟨n, rfl⟩ : ∃ q, n = q + 1 := ⟨n - 1, by omega⟩
    show fX7_standing_b6_body fu size bank kind word sworn _ _ _ _ _ _ = _
    unfold fX7_standing_b6_body
    rw [hF.1.2.1, if_pos (nI_le (by omega) (by omega))]
    have e : k = N := by omega
    subst e
    rfl
  | succ m ih =>
    intro k n hk hn
    obtain ⟨n, rfl⟩ : ∃ q, n = q + 1 := ⟨n - 1, by omega⟩
    have h2 := ih (k + 1) n (by omega) (by omega)
    have hkN : k < N := by omega
    obtain ⟨hb1, hk5, hw9, -⟩ := hW.2 k hkN
    obtain ⟨f1, f2, f3, -⟩ := hF.2 k hkN
    rw [mkS, nI_succ] at h2
    have core : ∀ s0 : Bool, (bk k == b || kd k == 3) = s0 → fX7_standing_b51 fu size bank kind word sworn (fX7_standing_b6 fu size bank kind word sworn n) (nI p) (nI c) (nI b) (nI (mkS k (fun a => (bk a == b || kd a == 3) && c.testBit a && decide (0 < hdW N kd a (wd a) p c)))) (nI k) (bI s0) = some (nI (stS N bk kd wd p c b)) := by
      intro s0 hs
      rw [hs] at h2
      unfold fX7_standing_b51
      rw [bdS (has8 hc (by omega))]
      cases hcb : c.testBit k with
      | false =>
        rw [hcb, Bool.and_false, Bool.false_and, if_neg (by decide), Nat.or_zero] at h2
        rw [if_pos (by decide)]
        exact h2
      | true =>
        rw [hcb] at h2
        rw [if_neg (by decide)]
        cases s0 with
        | false =>
          rw [Bool.false_and, Bool.false_and, if_neg (by decide), Nat.or_zero] at h2
          rw [if_pos (by decide)]
          exact h2
        | true =>
          rw [if_neg (by decide), bdS (rdN (by omega) (by decide)), f3, bdS (holdX hN f2 hk5.2 hF.1.2.2 hkN hc hp hw9.2)]
          have hle := hdW_le (N := N) (kd := kd) (a := k) (p := p) (c := c) hw9.2
          by_cases h0 : 0 < hdW N kd k (wd k) p c
          · rw [if_neg (show ¬ nI (hdW N kd k (wd k) p c) ≤ 0 from nI_ge (a := 0) h0 (by omega)), nI_shl (by omega), nI_or]
            simp only [h0, decide_true, Bool.and_true, if_true] at h2
            exact h2
          · have e0 : hdW N kd k (wd k) p c = 0 := by omega
            rw [if_pos (by rw [e0]; exact nI_le (a := 0) (b := 0) (by omega) (by decide))]
            simp only [h0, decide_false, Bool.and_false] at h2
            rw [if_neg (by decide), Nat.or_zero] at h2
            exact h2
    show fX7_standing_b6_body fu size bank kind word sworn _ _ _ _ _ _ = _
    unfold fX7_standing_b6_body
    rw [if_neg (by rw [hF.1.2.1]; exact nI_ge (by omega) (by omega)), bdS (rdN (by omega) (by decide)), f1]
    by_cases hbb : bk k = b
    · rw [if_pos (by rw [hbb])]
      exact core true (by simp [hbb])
    · rw [if_neg (fun e => hbb ((nI_eq (by omega) (by omega)).mp e)), bdS (rdN (by omega) (by decide)), f2]
      by_cases h3 : kd k = 3
      · rw [if_pos (by rw [h3]; rfl)]
        exact core true (by simp [h3])
      · rw [if_neg (show ¬ nI (kd k) = 3 from fun e => h3 ((nI_eq (b := 3) (by omega) (by decide)).mp e))]
        exact core false (by simp [hbb, h3])
theorem standX {N P : Nat} {bk kd wd sl : Nat → Nat} {bank kind word slow : Nat → Int32} {planks size sworn : Int32} (hW : WF N P bk kd wd sl) (hF : FR N P bk kd wd sl planks size sworn bank kind word slow) {fu c p b : Nat} (hfu : 9 ≤ fu) (hc : c < 2 ^ 31) (hp : p < 2 ^ 31) (hb : b ≤ 1) : fX7_standing fu size bank kind word sworn (nI p) (nI c) (nI b) = some (nI (stS N bk kd wd p c b)) := by
  obtain ⟨hP1, hP8, hN⟩ := hW.1
  exact standX_loop hW hF hc hp hb N 0 fu (by omega) (by omega)
/-- plank -/
theorem q_plank {N P d x : Nat} {bk kd wd sl : Nat → Nat} {t came under due r bank kind word slow borne : Nat → Int32} {planks size sworn th : Int32} {fu : Nat} (hfu : 9 ≤ fu) (hT : TR N P bk kd wd sl t) (hF : FR N P bk kd wd sl planks size sworn bank kind word slow) (hB : BT N bk kd wd borne) (hR : PR N P d x came under due r) (p w : Int32) : ∃ v, fX8_plank fu planks came size bank kind word sworn borne p w = some v ∧ fX9_plank fu t r th p w = some (v, 0) := by
  obtain ⟨hP1, hP8, hN⟩ := hT.1.2.2
  have h8 := pow8 hN
  have hW := hT.wf
  unfold fX8_plank fX9_plank
  by_cases hp : og p P
  · exact ⟨-1, by rw [bdS ((hasPlankX hF.1.1).1 hp)]; rfl, by rw [bdS ((isPlank9 hT).1 hp)]; rfl⟩
  rw [bdS ((hasPlankX hF.1.1).2 hp), bdS ((isPlank9 hT).2 hp), if10, if10]
  obtain ⟨j, hj, rfl⟩ := og_in hp (by omega)
  obtain ⟨c1, c2⟩ := hR.C j (by omega)
  have rc : rd 8 came (nI j) = some (nI (cs N r j)) := by rw [← c1]; exact rdN (by omega) (by decide)
  by_cases w0 : w = 0
  · subst w0
    refine ⟨nI (bears N bk kd wd j (cs N r j)), ?_, ?_⟩
    · rw [if00, bdS rc, bdS (ofX hB hN c2 (by omega))]
    · rw [bdS (show fX9_in fu 0 0 2 = some 1 from rfl), if10, bdS (came9 hT hfu (by omega)), if00, bdS (bears9 hT hfu (by omega) (by omega))]
  by_cases w1 : w = 1
  · subst w1
    refine ⟨nI (stS N bk kd wd j (cs N r j) 0), ?_, ?_⟩
    · rw [if10, if11, bdS rc, show (0 : Int32) = nI 0 from rfl, bdS (standX hW hF hfu (by omega) (by omega) (by omega))]
    · rw [bdS (show fX9_in fu 1 0 2 = some 1 from rfl), if10, bdS (came9 hT hfu (by omega)), if10, show (1 : Int32) - 1 = nI 0 from rfl, bdS (stand9 hT hfu (by omega) (by omega) (by omega))]
  by_cases w2 : w = 2
  · subst w2
    refine ⟨nI (stS N bk kd wd j (cs N r j) 1), ?_, ?_⟩
    · rw [if20, if21, if22, bdS rc, show (1 : Int32) = nI 1 from rfl, bdS (standX hW hF hfu (by omega) (by omega) (by omega))]
    · rw [bdS (show fX9_in fu 2 0 2 = some 1 from rfl), if10, bdS (came9 hT hfu (by omega)), if20, show (2 : Int32) - 1 = nI 1 from rfl, bdS (stand9 hT hfu (by omega) (by omega) (by omega))]
  refine ⟨-1, by rw [if_neg w0, if_neg w1, if_neg w2], ?_⟩
  have : fX9_in fu w 0 2 = some 0 := by
    rcases rng (fu := fu) (x := w) (lo := 0) (hi := 2) with ⟨h1, -, -⟩ | ⟨-, -, h3, h4⟩
    · exact h1
    · exfalso
      obtain ⟨q, hq, rfl⟩ := nI_of h3
      have : ¬ 2 < q := fun z => h4 (nI_lt (a := 2) z hq)
      rcases (by omega : q = 0 ∨ q = 1 ∨ q = 2) with rfl | rfl | rfl
      · exact w0 rfl
      · exact w1 rfl
      · exact w2 rfl
  rw [bdS this]
  rfl
