-- what a text tells, what one holds, what a plank bears: the reference
def TR (N P : Nat) (bk kd wd sl : Nat → Nat) (t : Nat → Int32) : Prop :=
  (t 0 = nI P ∧ t 1 = nI N ∧ 1 ≤ P ∧ P ≤ 8 ∧ N ≤ 8) ∧ ∀ a, a < N → (t (2 + a) = nI (bk a) ∧ t (10 + a) = nI (kd a) ∧ t (18 + a) = nI (wd a) ∧ t (26 + a) = nI (sl a)) ∧ bk a ≤ 1 ∧ (1 ≤ kd a ∧ kd a ≤ 5) ∧ (1 ≤ wd a ∧ wd a ≤ 9) ∧ 1 ≤ sl a ∧ sl a ≤ 5
theorem TR.p {N P : Nat} {bk kd wd sl : Nat → Nat} {t : Nat → Int32} (h : TR N P bk kd wd sl t) : rd 34 t 0 = some (nI P) := by
  rw [← h.1.1]; exact rdN (j := 0) (by decide) (by decide)
theorem TR.n {N P : Nat} {bk kd wd sl : Nat → Nat} {t : Nat → Int32} (h : TR N P bk kd wd sl t) : rd 34 t 1 = some (nI N) := by
  rw [← h.1.2.1]; exact rdN (j := 1) (by decide) (by decide)
theorem TR.bk {N P : Nat} {bk kd wd sl : Nat → Nat} {t : Nat → Int32} (h : TR N P bk kd wd sl t) {a : Nat} (ha : a < N) : rd 34 t (2 + nI a) = some (nI (bk a)) := by
  have hN := h.1.2.2.2.2
  rw [← (h.2 a ha).1.1, show (2 : Int32) + nI a = nI (2 + a) from nI_add 2 a]; exact rdN (by omega) (by decide)
theorem TR.kd {N P : Nat} {bk kd wd sl : Nat → Nat} {t : Nat → Int32} (h : TR N P bk kd wd sl t) {a : Nat} (ha : a < N) : rd 34 t (10 + nI a) = some (nI (kd a)) := by
  have hN := h.1.2.2.2.2
  rw [← (h.2 a ha).1.2.1, show (10 : Int32) + nI a = nI (10 + a) from nI_add 10 a]; exact rdN (by omega) (by decide)
theorem TR.wd {N P : Nat} {bk kd wd sl : Nat → Nat} {t : Nat → Int32} (h : TR N P bk kd wd sl t) {a : Nat} (ha : a < N) : rd 34 t (18 + nI a) = some (nI (wd a)) := by
  have hN := h.1.2.2.2.2
  rw [← (h.2 a ha).1.2.2.1, show (18 : Int32) + nI a = nI (18 + a) from nI_add 18 a]; exact rdN (by omega) (by decide)
theorem TR.sl {N P : Nat} {bk kd wd sl : Nat → Nat} {t : Nat → Int32} (h : TR N P bk kd wd sl t) {a : Nat} (ha : a < N) : rd 34 t (26 + nI a) = some (nI (sl a)) := by
  have hN := h.1.2.2.2.2
  rw [← (h.2 a ha).1.2.2.2, show (26 : Int32) + nI a = nI (26 + a) from nI_add 26 a]; exact rdN (by omega) (by decide)
/-- one of them is a sworn one -/
def anyS (N : Nat) (kd : Nat → Nat) (c : Nat) : Bool := (c &&& mkS N (fun a => kd a == 3)) != 0
theorem any_succ (c k : Nat) (Q : Nat → Bool) : ((c &&& mkS (k + 1) Q) != 0) = ((c &&& mkS k Q) != 0 || (c.testBit k && Q k)) := by
  rw [Bool.eq_iff_iff]
  simp only [Bool.or_eq_true, bne_iff_ne, ne_eq, Bool.and_eq_true]
  constructor
  · intro h
    by_cases h1 : c &&& mkS k Q = 0
    · right
      apply Classical.byContradiction
      intro hn
      apply h
      apply Nat.eq_of_testBit_eq
      intro i
      have e := congrArg (fun z => z.testBit i) h1
      simp only [Nat.testBit_and, mkS_bit, Nat.zero_testBit] at e ⊢
      by_cases hi : i = k
      · subst hi
        cases hc : c.testBit i with
        | false => simp
        | true =>
          cases hQ : Q i with
          | false => simp
          | true => exact absurd ⟨hc, hQ⟩ hn
      · have h3 : decide (i < k + 1) = decide (i < k) := decide_eq_decide.mpr (by omega)
        rw [h3]
        exact e
    · exact Or.inl h1
  · intro h h0
    rcases h with h | ⟨h1, h2⟩
    · apply h
      apply Nat.eq_of_testBit_eq
      intro i
      have e := congrArg (fun z => z.testBit i) h0
      simp only [Nat.testBit_and, mkS_bit, Nat.zero_testBit] at e ⊢
      cases hc : c.testBit i with
      | false => simp
      | true =>
        rw [hc] at e
        by_cases hi : i < k
        · have : i < k + 1 := by omega
          simpa [hi, this] using e
        · simp [hi]
    · have e := congrArg (fun z => z.testBit k) h0
      simp [mkS_bit, h1, h2] at e
def hdW (N : Nat) (kd : Nat → Nat) (a w p c : Nat) : Nat := if kd a = 2 then min w 3 else if kd a = 4 then (if p % 2 = 1 then 2 * w else w) else if kd a = 5 then (if anyS N kd c then 0 else 2 * w) else w
theorem hdW_le {N : Nat} {kd : Nat → Nat} {a w p c : Nat} (hw : w ≤ 9) : hdW N kd a w p c ≤ 18 := by
  unfold hdW
  split
  · omega
  · split
    · split <;> omega
    · split
      · split <;> omega
      · omega
theorem hold9_loop {N P : Nat} {bk kd wd sl : Nat → Nat} {t : Nat → Int32} (hT : TR N P bk kd wd sl t) {fu c w : Nat} (hc : c < 2 ^ 31) : ∀ (m k n : Nat), N = k + m → m < n → fX9_holdOf_b79 fu t n (nI c) (nI w) (bI ((c &&& mkS k (fun a => kd a == 3)) != 0)) (nI k) = some (nI (if anyS N kd c then 0 else 2 * w)) := by
  intro m
  have hN := hT.1.2.2.2.2
  induction m with
  | zero =>
    intro k n hk hn
    obtain ⟨n, rfl⟩ : ∃ q, n = q + 1 := ⟨n - 1, by omega⟩
    show fX9_holdOf_b79_body fu t _ _ _ _ _ = _
    unfold fX9_holdOf_b79_body
    rw [bdS hT.n, if_pos (nI_le (by omega) (by omega))]
    have e : k = N := by omega
    subst e
    unfold anyS
    cases ((c &&& mkS k (fun a => kd a == 3)) != 0) with
    | false => rw [if_pos (by decide), if_neg (by decide)]; exact congrArg some (pk_mul 2 w)
    | true => rw [if_neg (by decide), if_pos (by decide)]; rfl
  | succ m ih =>
    intro k n hk hn
    obtain ⟨n, rfl⟩ : ∃ q, n = q + 1 := ⟨n - 1, by omega⟩
    show fX9_holdOf_b79_body fu t _ _ _ _ _ = _
    unfold fX9_holdOf_b79_body
    rw [bdS hT.n, if_neg (nI_ge (by omega) (by omega))]
    have h2 := ih (k + 1) n (by omega) (by omega)
    rw [any_succ, nI_succ] at h2
    cases hA : ((c &&& mkS k (fun a => kd a == 3)) != 0) with
    | true =>
      rw [hA] at h2
      rw [if_neg (by decide)]
      exact h2
    | false =>
      rw [hA, Bool.false_or] at h2
      rw [if_pos (by decide), bdS (has9 hc (by omega))]
      cases hb : c.testBit k with
      | false =>
        rw [hb] at h2
        rw [if_pos (by decide)]
        exact h2
      | true =>
        rw [hb, Bool.true_and] at h2
        rw [if_neg (by decide), bdS (hT.kd (by omega))]
        have hk5 := (hT.2 k (by omega)).2.2.1
        by_cases h3 : kd k = 3
        · rw [h3] at h2 ⊢
          rw [if_pos (by decide)]
          exact h2
        · have h4 : (kd k == 3) = false := by simp [h3]
          rw [h4] at h2
          rw [if_neg (show ¬ nI (kd k) = 3 from fun e => h3 ((nI_eq (b := 3) (by omega) (by decide)).mp e))]
          exact h2
theorem hold9 {N P : Nat} {bk kd wd sl : Nat → Nat} {t : Nat → Int32} (hT : TR N P bk kd wd sl t) {fu c a p : Nat} (hfu : 9 ≤ fu) (hc : c < 2 ^ 31) (ha : a < N) (hp : p < 2 ^ 31) : fX9_holdOf fu t (nI a) (nI p) (nI c) = some (nI (hdW N kd a (wd a) p c)) := by
  have hN := hT.1.2.2.2.2
  obtain ⟨-, -, hk, hw, -⟩ := hT.2 a ha
  unfold fX9_holdOf
  rw [bdS (hT.kd ha), bdS (hT.wd ha)]
  have k2 : nI (kd a) = 2 ↔ kd a = 2 := nI_eq (b := 2) (by omega) (by omega)
  have k4 : nI (kd a) = 4 ↔ kd a = 4 := nI_eq (b := 4) (by omega) (by omega)
  have k5 : nI (kd a) = 5 ↔ kd a = 5 := nI_eq (b := 5) (by omega) (by omega)
  have k3 : (3 : Int32) ≤ nI (wd a) ↔ 3 ≤ wd a := nI_leI (a := 3) (by omega) (by omega)
  unfold hdW
  by_cases h2 : kd a = 2
  · rw [if_pos (k2.mpr h2), if_pos h2]
    by_cases h3 : 3 ≤ wd a
    · rw [if_pos (k3.mpr h3), Nat.min_eq_right h3]
      rfl
    · rw [if_neg (fun e => h3 (k3.mp e)), Nat.min_eq_left (by omega)]
  · rw [if_neg (fun e => h2 (k2.mp e)), if_neg h2]
    by_cases h4 : kd a = 4
    · rw [if_pos (k4.mpr h4), if_pos h4]
      have e : rmI (nI p) 2 = some (nI (p % 2)) := by
        unfold rmI
        rw [if_neg (by decide)]
        exact congrArg some (pk_rem (d := 2) hp (by decide) (by decide))
      rw [bdS e]
      by_cases h1 : p % 2 = 1
      · rw [h1, if_pos (by decide), if_pos (by decide)]
        exact congrArg some (pk_mul 2 _)
      · have h0 : p % 2 = 0 := by omega
        rw [h0, if_neg (by decide), if_neg (by decide)]
    · rw [if_neg (fun e => h4 (k4.mp e)), if_neg h4]
      by_cases h5 : kd a = 5
      · rw [if_pos (k5.mpr h5), if_pos h5]
        have := hold9_loop hT (fu := fu) (w := wd a) hc N 0 fu (by omega) (by omega)
        have e : ((c &&& mkS 0 (fun a => kd a == 3)) != 0) = false := by simp [mkS]
        rw [e] at this
        exact this
      · rw [if_neg (fun e => h5 (k5.mp e)), if_neg h5]
/-- who stands for a bank -/
def stS (N : Nat) (bk kd wd : Nat → Nat) (p c b : Nat) : Nat := mkS N (fun a => (bk a == b || kd a == 3) && c.testBit a && decide (0 < hdW N kd a (wd a) p c))
theorem stand9_loop {N P : Nat} {bk kd wd sl : Nat → Nat} {t : Nat → Int32} (hT : TR N P bk kd wd sl t) {fu c p b : Nat} (hfu : 9 ≤ fu) (hc : c < 2 ^ 31) (hp : p < 2 ^ 31) (hb : b ≤ 1) : ∀ (m k n : Nat), N = k + m → m < n → fX9_standing_b6 fu t n (nI p) (nI c) (nI b) (nI (mkS k (fun a => (bk a == b || kd a == 3) && c.testBit a && decide (0 < hdW N kd a (wd a) p c)))) (nI k) = some (nI (stS N bk kd wd p c b)) := by
  intro m
  have hN := hT.1.2.2.2.2
  induction m with
  | zero =>
    intro k n hk hn
    obtain ⟨n, rfl⟩ : ∃ q, n = q + 1 := ⟨n - 1, by omega⟩
    show fX9_standing_b6_body fu t _ _ _ _ _ _ = _
    unfold fX9_standing_b6_body
    rw [bdS hT.n, if_pos (nI_le (by omega) (by omega))]
    have e : k = N := by omega
    subst e
    rfl
  | succ m ih =>
    intro k n hk hn
    obtain ⟨n, rfl⟩ : ∃ q, n = q + 1 := ⟨n - 1, by omega⟩
    have h2 := ih (k + 1) n (by omega) (by omega)
    have hkN : k < N := by omega
    obtain ⟨-, hb1, hk5, hw9, -⟩ := hT.2 k hkN
    rw [mkS, nI_succ, ← nI_or] at h2
    show fX9_standing_b6_body fu t _ _ _ _ _ _ = _
    unfold fX9_standing_b6_body
    rw [bdS hT.n, if_neg (nI_ge (by omega) (by omega)), bdS (hT.bk hkN)]
    have core : ∀ s0 : Bool, (bk k == b || kd k == 3) = s0 → fX9_standing_b49 fu t (fX9_standing_b6 fu t n) (nI p) (nI c) (nI b) (nI (mkS k (fun a => (bk a == b || kd a == 3) && c.testBit a && decide (0 < hdW N kd a (wd a) p c)))) (nI k) (bI s0) = some (nI (stS N bk kd wd p c b)) := by
      intro s0 hs
      rw [hs] at h2
      unfold fX9_standing_b49
      cases s0 with
      | false =>
        rw [if_pos (by decide)]
        exact h2
      | true =>
        rw [if_neg (by decide), bdS (has9 hc (by omega))]
        cases hcb : c.testBit k with
        | false =>
          rw [hcb] at h2
          rw [if_pos (by decide)]
          exact h2
        | true =>
          rw [hcb] at h2
          rw [if_neg (by decide), bdS (hold9 hT hfu hc hkN hp)]
          have hle := hdW_le (N := N) (kd := kd) (a := k) (p := p) (c := c) hw9.2
          by_cases h0 : 0 < hdW N kd k (wd k) p c
          · rw [if_neg (show ¬ nI (hdW N kd k (wd k) p c) ≤ 0 from nI_ge (a := 0) h0 (by omega)), nI_shl (by omega)]
            simp only [h0, decide_true, Bool.and_true, if_true] at h2
            exact h2
          · have e0 : hdW N kd k (wd k) p c = 0 := by omega
            rw [if_pos (by rw [e0]; exact nI_le (a := 0) (b := 0) (by omega) (by decide))]
            simp only [h0, decide_false, Bool.and_false, if_false] at h2
            exact h2
    by_cases hbb : bk k = b
    · rw [if_pos (by rw [hbb])]
      exact core true (by simp [hbb])
    · rw [if_neg (fun e => hbb ((nI_eq (by omega) (by omega)).mp e)), bdS (hT.kd hkN)]
      by_cases h3 : kd k = 3
      · rw [if_pos (by rw [h3]; rfl)]
        exact core true (by simp [h3])
      · rw [if_neg (show ¬ nI (kd k) = 3 from fun e => h3 ((nI_eq (b := 3) (by omega) (by decide)).mp e))]
        exact core false (by simp [hbb, h3])
theorem stand9 {N P : Nat} {bk kd wd sl : Nat → Nat} {t : Nat → Int32} (hT : TR N P bk kd wd sl t) {fu c p b : Nat} (hfu : 9 ≤ fu) (hc : c < 2 ^ 31) (hp : p < 2 ^ 31) (hb : b ≤ 1) : fX9_standing fu t (nI p) (nI c) (nI b) = some (nI (stS N bk kd wd p c b)) := by
  have hN := hT.1.2.2.2.2
  exact stand9_loop hT hfu hc hp hb N 0 fu (by omega) (by omega)
/-- two of them together -/
def pv (N : Nat) (bk kd wd : Nat → Nat) (p c a b : Nat) : Nat := if a ≠ b ∧ (stS N bk kd wd p c 0).testBit a = true ∧ (stS N bk kd wd p c 1).testBit b = true then hdW N kd a (wd a) p c + hdW N kd b (wd b) p c else 0
/-- what a plank bears -/
def bears (N : Nat) (bk kd wd : Nat → Nat) (p c : Nat) : Nat := sup N (fun a => sup N (fun b => pv N bk kd wd p c a b))
theorem stS_lt {N : Nat} {bk kd wd : Nat → Nat} {p c b : Nat} (hN : N ≤ 8) : stS N bk kd wd p c b < 2 ^ 31 := Nat.lt_of_lt_of_le (mkS_lt N _) (Nat.pow_le_pow_right (by omega) (by omega))
theorem pv_le {N : Nat} {bk kd wd : Nat → Nat} {p c a b : Nat} (ha : wd a ≤ 9) (hb : wd b ≤ 9) : pv N bk kd wd p c a b ≤ 36 := by
  unfold pv
  have h1 := hdW_le (N := N) (kd := kd) (a := a) (p := p) (c := c) ha
  have h2 := hdW_le (N := N) (kd := kd) (a := b) (p := p) (c := c) hb
  split <;> omega
theorem bears_le {N : Nat} {bk kd wd : Nat → Nat} {p c : Nat} (hw : ∀ a, a < N → wd a ≤ 9) : bears N bk kd wd p c ≤ 36 := sup_le (fun a ha => sup_le (fun b hb => pv_le (hw a ha) (hw b hb)))
theorem bears9_in {N P : Nat} {bk kd wd sl : Nat → Nat} {t : Nat → Int32} (hT : TR N P bk kd wd sl t) {fu c p : Nat} (hfu : 9 ≤ fu) (hc : c < 2 ^ 31) (hp : p < 2 ^ 31) {r : Int32 → Int32 → Int32 → Int32 → Int32 → Int32 → Option Int32} {x a : Nat} (ha : a < N) (hx : x ≤ 36) : ∀ (m k n : Nat), N = k + m → m < n → fX9_bearsBy_b37 fu t r n (nI p) (nI c) (nI (stS N bk kd wd p c 0)) (nI (stS N bk kd wd p c 1)) (nI (max x (sup k (fun b => pv N bk kd wd p c a b)))) (nI a) (nI k) = r (nI p) (nI c) (nI (stS N bk kd wd p c 0)) (nI (stS N bk kd wd p c 1)) (nI (max x (sup N (fun b => pv N bk kd wd p c a b)))) (nI a + 1) := by
  intro m
  have hN := hT.1.2.2.2.2
  induction m with
  | zero =>
    intro k n hk hn
    obtain ⟨n, rfl⟩ : ∃ q, n = q + 1 := ⟨n - 1, by omega⟩
    show fX9_bearsBy_b37_body fu t r _ _ _ _ _ _ _ _ = _
    unfold fX9_bearsBy_b37_body
    rw [bdS hT.n, if_pos (nI_le (by omega) (by omega))]
    have e : k = N := by omega
    rw [e]
  | succ m ih =>
    intro k n hk hn
    obtain ⟨n, rfl⟩ : ∃ q, n = q + 1 := ⟨n - 1, by omega⟩
    have hkN : k < N := by omega
    have h2 := ih (k + 1) n (by omega) (by omega)
    rw [sup, ← Nat.max_assoc, nI_succ] at h2
    have hM : max x (sup k (fun b => pv N bk kd wd p c a b)) ≤ 36 := Nat.max_le.mpr ⟨hx, sup_le (fun i hi => pv_le (hT.2 a ha).2.2.2.1.2 (hT.2 i (by omega)).2.2.2.1.2)⟩
    have hv := pv_le (N := N) (bk := bk) (kd := kd) (p := p) (c := c) (hT.2 a ha).2.2.2.1.2 (hT.2 k hkN).2.2.2.1.2
    have core : ∀ s0 : Nat, pv N bk kd wd p c a k = s0 → fX9_bearsBy_b95 fu t r (fX9_bearsBy_b37 fu t r n) (nI p) (nI c) (nI (stS N bk kd wd p c 0)) (nI (stS N bk kd wd p c 1)) (nI (max x (sup k (fun b => pv N bk kd wd p c a b)))) (nI a) (nI k) (nI s0) = r (nI p) (nI c) (nI (stS N bk kd wd p c 0)) (nI (stS N bk kd wd p c 1)) (nI (max x (sup N (fun b => pv N bk kd wd p c a b)))) (nI a + 1) := by
      intro s0 hs
      rw [hs] at h2 hv
      unfold fX9_bearsBy_b95
      by_cases hle : s0 ≤ max x (sup k (fun b => pv N bk kd wd p c a b))
      · rw [if_pos (nI_le hle (by omega))]
        rw [Nat.max_eq_left hle] at h2
        exact h2
      · rw [if_neg (nI_ge (by omega) (by omega))]
        rw [Nat.max_eq_right (by omega)] at h2
        exact h2
    show fX9_bearsBy_b37_body fu t r _ _ _ _ _ _ _ _ = _
    unfold fX9_bearsBy_b37_body
    rw [bdS hT.n, if_neg (nI_ge (by omega) (by omega))]
    by_cases hak : a = k
    · rw [if_pos (by rw [hak])]
      exact core 0 (by unfold pv; rw [if_neg (fun h => h.1 hak)])
    · rw [if_neg (fun e => hak ((nI_eq (by omega) (by omega)).mp e)), bdS (has9 (stS_lt hN) (by omega))]
      cases h0 : (stS N bk kd wd p c 0).testBit a with
      | false =>
        rw [if_pos (by decide)]
        exact core 0 (by unfold pv; rw [if_neg (fun h => by rw [h0] at h; exact absurd h.2.1 (by decide))])
      | true =>
        rw [if_neg (by decide), bdS (has9 (stS_lt hN) (by omega))]
        cases h1 : (stS N bk kd wd p c 1).testBit k with
        | false =>
          rw [if_pos (by decide)]
          exact core 0 (by unfold pv; rw [if_neg (fun h => by rw [h1] at h; exact absurd h.2.2 (by decide))])
        | true =>
          rw [if_neg (by decide), bdS (hold9 hT hfu hc ha hp), bdS (hold9 hT hfu hc hkN hp), nI_add]
          exact core _ (by unfold pv; rw [if_pos ⟨hak, h0, h1⟩])
theorem bears9_out {N P : Nat} {bk kd wd sl : Nat → Nat} {t : Nat → Int32} (hT : TR N P bk kd wd sl t) {fu c p : Nat} (hfu : 9 ≤ fu) (hc : c < 2 ^ 31) (hp : p < 2 ^ 31) : ∀ (m k n : Nat), N = k + m → m < n → fX9_bearsBy_b23 fu t n (nI p) (nI c) (nI (stS N bk kd wd p c 0)) (nI (stS N bk kd wd p c 1)) (nI (sup k (fun a => sup N (fun b => pv N bk kd wd p c a b)))) (nI k) = some (nI (bears N bk kd wd p c)) := by
  intro m
  have hN := hT.1.2.2.2.2
  induction m with
  | zero =>
    intro k n hk hn
    obtain ⟨n, rfl⟩ : ∃ q, n = q + 1 := ⟨n - 1, by omega⟩
    show fX9_bearsBy_b23_body fu t _ _ _ _ _ _ _ = _
    unfold fX9_bearsBy_b23_body
    rw [bdS hT.n, if_pos (nI_le (by omega) (by omega))]
    have e : k = N := by omega
    rw [e]
    rfl
  | succ m ih =>
    intro k n hk hn
    obtain ⟨n, rfl⟩ : ∃ q, n = q + 1 := ⟨n - 1, by omega⟩
    have hkN : k < N := by omega
    have h2 := ih (k + 1) n (by omega) (by omega)
    rw [sup, nI_succ] at h2
    show fX9_bearsBy_b23_body fu t _ _ _ _ _ _ _ = _
    unfold fX9_bearsBy_b23_body
    rw [bdS hT.n, if_neg (nI_ge (by omega) (by omega))]
    have hM : sup k (fun a => sup N (fun b => pv N bk kd wd p c a b)) ≤ 36 := sup_le (fun i hi => sup_le (fun j hj => pv_le (hT.2 i (by omega)).2.2.2.1.2 (hT.2 j hj).2.2.2.1.2))
    have h3 := bears9_in hT hfu hc hp (r := fX9_bearsBy_b23 fu t n) hkN hM N 0 fu (by omega) (by omega)
    rw [sup, Nat.max_zero] at h3
    rw [show (0 : Int32) = nI 0 from rfl, h3]
    exact h2
theorem bears9 {N P : Nat} {bk kd wd sl : Nat → Nat} {t : Nat → Int32} (hT : TR N P bk kd wd sl t) {fu c p : Nat} (hfu : 9 ≤ fu) (hc : c < 2 ^ 31) (hp : p < 2 ^ 31) : fX9_bearsBy fu t (nI p) (nI c) = some (nI (bears N bk kd wd p c)) := by
  have hN := hT.1.2.2.2.2
  unfold fX9_bearsBy
  rw [show (0 : Int32) = nI 0 from rfl, show (1 : Int32) = nI 1 from rfl, bdS (stand9 hT hfu hc hp (by omega)), bdS (stand9 hT hfu hc hp (by omega))]
  exact bears9_out hT hfu hc hp N 0 fu (by omega) (by omega)
