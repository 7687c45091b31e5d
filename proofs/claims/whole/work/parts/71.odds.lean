-- odds
theorem rmIN {a b : Nat} (ha : a < 2 ^ 31) (h0 : 0 < b) (hb : b < 2 ^ 31) : rmI (nI a) (nI b) = some (nI (a % b)) := by
  unfold rmI
  rw [if_neg (nI_ne0 h0 hb), pk_rem ha h0 hb]
theorem dvIN {a b : Nat} (ha : a < 2 ^ 31) (h0 : 0 < b) (hb : b < 2 ^ 31) : dvI (nI a) (nI b) = some (nI (a / b)) := by
  unfold dvI
  rw [if_neg (nI_ne0 h0 hb), pk_div ha h0 hb]
/-- Euclid's steps -/
def eu : Nat → Nat → Nat → Option Nat
  | 0, _, _ => none
  | n + 1, x, y => if y = 0 then some x else eu n y (x % y)
theorem eu_ok : ∀ (n x y m : Nat), y < 2 ^ n → 2 * n + 1 ≤ m → eu m x y = some (Nat.gcd x y) := by
  intro n
  induction n with
  | zero =>
    intro x y m hy hm
    obtain ⟨m, rfl⟩ : ∃ m', m = m' + 1 := ⟨m - 1, by omega⟩
    rw [eu, if_pos (by omega), show y = 0 by omega, Nat.gcd_zero_right]
  | succ n ih =>
    intro x y m hy hm
    obtain ⟨m, rfl⟩ : ∃ m', m = m' + 1 + 1 := ⟨m - 2, by omega⟩
    rw [eu]
    by_cases h0 : y = 0
    · rw [if_pos h0, h0, Nat.gcd_zero_right]
    rw [if_neg h0, eu]
    have e1 : Nat.gcd x y = Nat.gcd y (x % y) := by rw [Nat.gcd_comm x y, Nat.gcd_rec y x, Nat.gcd_comm]
    have hr : x % y < y := Nat.mod_lt _ (by omega)
    by_cases h1 : x % y = 0
    · rw [if_pos h1, e1, h1, Nat.gcd_zero_right]
    rw [if_neg h1]
    have e2 : Nat.gcd y (x % y) = Nat.gcd (x % y) (y % (x % y)) := by rw [Nat.gcd_comm y (x % y), Nat.gcd_rec (x % y) y, Nat.gcd_comm]
    have hs : y % (x % y) < x % y := Nat.mod_lt _ (by omega)
    have hs2 : y % (x % y) ≤ y - x % y := by
      rw [Nat.mod_eq_sub_mod (Nat.le_of_lt hr)]
      exact Nat.mod_le _ _
    have hp : 2 ^ (n + 1) = 2 * 2 ^ n := by rw [Nat.pow_succ]; omega
    rw [e1, e2]
    exact ih (x % y) (y % (x % y)) m (by omega) (by omega)
theorem euX {fu g : Nat} : ∀ (m k n x y : Nat), eu m x y = some g → k + m ≤ 65 → m ≤ n → x < 2 ^ 31 → y < 2 ^ 31 → fX8_commonDivisor_b7 fu n (nI x) (nI y) (nI k) = some (nI g) := by
  intro m
  induction m with
  | zero => intro k n x y h; exact absurd h (by rw [eu]; intro q; cases q)
  | succ m ih =>
    intro k n x y h hk hn hx hy
    obtain ⟨n, rfl⟩ : ∃ n', n = n' + 1 := ⟨n - 1, by omega⟩
    rw [eu] at h
    show fX8_commonDivisor_b7_body fu _ _ _ _ = _
    unfold fX8_commonDivisor_b7_body
    by_cases h0 : y = 0
    · rw [if_pos h0] at h
      have hg : x = g := Option.some.inj h
      rw [h0, hg]
      split
      · rfl
      · rw [if_pos (show nI 0 = 0 from rfl)]
    · rw [if_neg h0] at h
      have hm : 1 ≤ m := by
        rcases m with _ | m
        · rw [eu] at h; cases h
        · omega
      rw [if_neg (show ¬ 64 ≤ nI k from nI_ge (b := 64) (by omega) (by omega)), if_neg (nI_ne0 (by omega) hy), bdS (rmIN hx (by omega) hy), ← nI_succ]
      have := Nat.mod_lt x (show y > 0 by omega)
      exact ih (k + 1) n y (x % y) h (by omega) (by omega) hy (by omega)
theorem eu9 {fu g : Nat} : ∀ (m n x y : Nat), eu m x y = some g → m ≤ n → x < 2 ^ 31 → y < 2 ^ 31 → fX9_gcd_b6 fu n (lN x) (lN y) = some (lN g) := by
  intro m
  induction m with
  | zero => intro n x y h; exact absurd h (by rw [eu]; intro q; cases q)
  | succ m ih =>
    intro n x y h hn hx hy
    obtain ⟨n, rfl⟩ : ∃ n', n = n' + 1 := ⟨n - 1, by omega⟩
    rw [eu] at h
    show fX9_gcd_b6_body fu _ _ _ = _
    unfold fX9_gcd_b6_body
    have e : lg_cmp (lN y) 0 = 0 ↔ y = 0 := by
      rw [lg_cmp_eq]
      exact lN_eq (a := y) (b := 0) hy (by omega)
    by_cases h0 : y = 0
    · rw [if_pos h0] at h
      rw [if_pos (e.mpr h0), Option.some.inj h]
    · rw [if_neg h0] at h
      rw [if_neg (fun q => h0 (e.mp q)), bdS (rmLN (by omega) (by omega) (by omega))]
      have := Nat.mod_lt x (show y > 0 by omega)
      exact ih n y (x % y) h (by omega) hy (by omega)
theorem powX {fu b e : Nat} (hfu : 10 ≤ fu) (he : e ≤ 8) : fX8_power fu (nI b) (nI e) = some (nI (b ^ e)) := by
  refine lp (N := e) (G := fun m k => fX8_power_b4 fu m (nI b) (nI e) (nI (b ^ k)) (nI k)) ?_ ?_ e 0 fu (by omega) (by omega)
  · intro m
    show fX8_power_b4_body fu _ _ _ _ _ = _
    unfold fX8_power_b4_body
    rw [if_pos (nI_le (by omega) (by omega))]
  · intro m k hk
    right
    show fX8_power_b4_body fu _ _ _ _ _ = _
    unfold fX8_power_b4_body
    rw [if_neg (nI_ge (by omega) (by omega)), pk_mul, ← nI_succ, ← Nat.pow_succ]
/-- the part of one set of people who break their words -/
def pt (x g : Nat) : Nat → Nat
  | 0 => 1
  | k + 1 => pt x g k * (if g.testBit k then x else 10 - x)
theorem pt_eq (x g : Nat) : ∀ k, pt x g k = x ^ cnt k (fun a => g.testBit a) * (10 - x) ^ (k - cnt k (fun a => g.testBit a)) := by
  intro k
  induction k with
  | zero => rfl
  | succ k ih =>
    have hc := cnt_le k (fun a => g.testBit a)
    rw [pt, ih, cnt_s]
    by_cases h : g.testBit k = true
    · rw [if_pos h, if_pos h, show k + 1 - (cnt k (fun a => g.testBit a) + 1) = k - cnt k (fun a => g.testBit a) by omega, Nat.pow_succ]
      rw [Nat.mul_assoc, Nat.mul_assoc, Nat.mul_comm x]
    · rw [if_neg h, if_neg h, Nat.add_zero, show k + 1 - cnt k (fun a => g.testBit a) = k - cnt k (fun a => g.testBit a) + 1 by omega, Nat.pow_succ, Nat.mul_assoc]
def ptB (x N : Nat) : Bool := decide (sumN (2 ^ N) (fun g => pt x g N) = 10 ^ N)
theorem pt_all : ∀ x, x ≤ 10 → ∀ N, N ≤ 8 → ptB x N = true := by decide +kernel
theorem sumN_le {n : Nat} {f g : Nat → Nat} (h : ∀ i, i < n → f i ≤ g i) : sumN n f ≤ sumN n g := by
  induction n with
  | zero => exact Nat.le_refl _
  | succ n ih => rw [sumN, sumN]; exact Nat.add_le_add (ih (fun i hi => h i (by omega))) (h n (by omega))
theorem up_le {x N : Nat} {B : Nat → Bool} (hx : x ≤ 10) (hN : N ≤ 8) : sumN (2 ^ N) (fun g => if B g then pt x g N else 0) ≤ 10 ^ N := by
  have h1 : sumN (2 ^ N) (fun g => pt x g N) = 10 ^ N := of_decide_eq_true (pt_all x hx N hN)
  rw [← h1]
  refine sumN_le (fun i _ => ?_)
  split
  · exact Nat.le_refl _
  · exact Nat.zero_le _
theorem ten8 {N : Nat} (h : N ≤ 8) : 10 ^ N ≤ 100000000 := Nat.pow_le_pow_right (n := 10) (j := 8) (by omega) h
theorem chX {N P q x : Nat} {bk kd wd : Nat → Nat} {borne came : Nat → Int32} {planks size : Int32} {fu : Nat} {C : Nat → Nat} (hfu : 300 ≤ fu) (hB : BT N bk kd wd borne) (hN : N ≤ 8) (hP : 1 ≤ P ∧ P ≤ 8) (hpl : planks = nI P) (hsz : size = nI N) (hC : ∀ p, p < 8 → came p = nI (C p) ∧ C p < 2 ^ N) (hw : ∀ a, a < N → wd a ≤ 9) (hq : q ≤ 36) (hx : x ≤ 10) : fX1_chancesFor fu size came borne planks (nI x) (nI q) = some (nI (sumN (2 ^ N) (fun g => if decide (q ≤ brg N P bk kd wd (fun p => cut (C p) g)) then pt x g N else 0))) := by
  have h8 := pow8 hN
  have h1 := pow0 N
  refine lp (N := 2 ^ N) (G := fun m g => fX1_chancesFor_b5 fu size came borne planks m (nI x) (nI q) (nI (sumN g (fun g => if decide (q ≤ brg N P bk kd wd (fun p => cut (C p) g)) then pt x g N else 0))) (nI g)) ?_ ?_ (2 ^ N) 0 fu (by omega) (by omega)
  · intro m
    show fX1_chancesFor_b5_body fu size came borne planks _ _ _ _ _ = _
    unfold fX1_chancesFor_b5_body
    rw [bdS (show fX0_everyone fu size = _ by rw [hsz]; exact everyX hN), if_pos (nI_lt (by omega) (by omega))]
  · intro m g hg
    right
    have hb := brg_le (N := N) (P := P) (bk := bk) (kd := kd) (wd := wd) (C := fun p => cut (C p) g) hP.1 hw
    have hcn : cnt 8 (fun a => g.testBit a) = cnt N (fun a => g.testBit a) := cnt_ext hN (fun i h2 _ => Nat.testBit_lt_two_pow (Nat.lt_of_lt_of_le hg (Nat.pow_le_pow_right (by omega) h2)))
    have hc := cnt_le N (fun a => g.testBit a)
    show fX1_chancesFor_b5_body fu size came borne planks _ _ _ _ _ = fX1_chancesFor_b5 fu size came borne planks m (nI x) (nI q) (nI (sumN (g + 1) _)) (nI (g + 1))
    unfold fX1_chancesFor_b5_body
    rw [bdS (show fX0_everyone fu size = _ by rw [hsz]; exact everyX hN), if_neg (nI_nlt (by omega) (by omega)), bdS (bridgeX (by omega) hB hN hP hpl hC hw), sumN, nI_succ]
    by_cases h : q ≤ brg N P bk kd wd (fun p => cut (C p) g)
    · rw [if_neg (nI_nlt h (by omega)), bdS (popX (by omega)), hcn, bdS (powX (by omega) (by omega)), show (10 : Int32) - nI x = nI (10 - x) from nI_sub (a := 10) hx, show size - nI (cnt N (fun a => g.testBit a)) = nI (N - cnt N (fun a => g.testBit a)) by rw [hsz]; exact nI_sub hc, bdS (powX (by omega) (by omega)), pk_mul, nI_add, ← pt_eq, decide_eq_true h]
      rfl
    · rw [if_pos (nI_lt (by omega) (by omega)), decide_eq_false h]
      rfl
theorem cut_mod {c g k : Nat} (hg : g.testBit k = true) : cut (cut c (g % 2 ^ k)) (2 ^ k) = cut c (g % 2 ^ (k + 1)) := by
  apply Nat.eq_of_testBit_eq
  intro i
  rw [cut_bit, cut_bit, cut_bit, Nat.testBit_mod_two_pow, Nat.testBit_mod_two_pow, Nat.testBit_two_pow]
  by_cases e : k = i
  · subst e; simp [hg]
  · have : decide (i < k + 1) = decide (i < k) := by
      by_cases q : i < k
      · rw [decide_eq_true q, decide_eq_true (by omega)]
      · rw [decide_eq_false q, decide_eq_false (by omega)]
    rw [this]
    cases decide (i < 8) <;> cases c.testBit i <;> cases decide (i < k) <;> cases g.testBit i <;> simp [e]
theorem cut_mod0 {c g k : Nat} (hg : g.testBit k = false) : cut c (g % 2 ^ k) = cut c (g % 2 ^ (k + 1)) := by
  apply Nat.eq_of_testBit_eq
  intro i
  rw [cut_bit, cut_bit, Nat.testBit_mod_two_pow, Nat.testBit_mod_two_pow]
  by_cases e : k = i
  · subst e; simp [hg]
  · have : decide (i < k + 1) = decide (i < k) := by
      by_cases q : i < k
      · rw [decide_eq_true q, decide_eq_true (by omega)]
      · rw [decide_eq_false q, decide_eq_false (by omega)]
    rw [this]
theorem odds_in {N P q x g : Nat} {bk kd wd sl : Nat → Nat} {t r : Nat → Int32} {fu : Nat} {l3 : Int32} {l4 : Int64} {r42 : Int32 → Int32 → Int32 → Int64 → Int64 → Int32 → (Nat → Int32) → Int32 → Option (Int32 × (Nat → Int32) × Int32)} (hfu : 67 ≤ fu) (hT : TR N P bk kd wd sl t) (hq : q ≤ 36) (hx : x ≤ 10) (hg : g < 2 ^ N) : ∀ (m k n : Nat) (w : Nat → Int32), N = k + m → m < n → (∀ p, p < 8 → cs N w p = cut (cs N r p) (g % 2 ^ k)) → ∃ w', fX9_odds_b68 fu t r r42 n (nI x) (nI q) l3 l4 (lN (10 ^ k)) (nI g) (lN (pt x g k)) (nI k) w 0 = r42 (nI x) (nI q) l3 (l4 + lN (if decide (q ≤ brg N P bk kd wd (fun p => cut (cs N r p) g)) then pt x g N else 0)) (lN (10 ^ N)) (nI (g + 1)) w' 0 := by
  obtain ⟨hP1, hP8, hN⟩ := hT.1.2.2
  have h8 := pow8 hN
  have hw9 : ∀ a, a < N → wd a ≤ 9 := fun a ha => (hT.wf.2 a ha).2.2.1.2
  intro m
  induction m with
  | zero =>
    intro k n w e hn hw
    obtain ⟨n, rfl⟩ : ∃ n', n = n' + 1 := ⟨n - 1, by omega⟩
    have ek : k = N := by omega
    subst ek
    have hb := brg_le (N := k) (P := P) (bk := bk) (kd := kd) (wd := wd) (C := fun p => cut (cs k r p) g) hP1 hw9
    have eb : brg k P bk kd wd (cs k w) = brg k P bk kd wd (fun p => cut (cs k r p) g) := brg_congr (fun p hp => by rw [hw p (by omega), Nat.mod_eq_of_lt hg])
    refine ⟨w, ?_⟩
    show fX9_odds_b68_body fu t r r42 _ _ _ _ _ _ _ _ _ _ _ = _
    unfold fX9_odds_b68_body
    rw [bdS hT.n, if_pos (nI_le (by omega) (by omega)), bdS (bridge9 hT (by omega)), eb, nI_succ]
    by_cases h : q ≤ brg k P bk kd wd (fun p => cut (cs k r p) g)
    · rw [if_neg (nI_nlt h (by omega)), decide_eq_true h]
      rfl
    · rw [if_pos (nI_lt (by omega) (by omega)), decide_eq_false h]
      rfl
  | succ m ih =>
    intro k n w e hn hw
    obtain ⟨n, rfl⟩ : ∃ n', n = n' + 1 := ⟨n - 1, by omega⟩
    by_cases hb : g.testBit k = true
    · obtain ⟨w', h1⟩ := ih (k + 1) n (brk w k) (by omega) (by omega) (fun p hp => by rw [cs_brk hN hp, hw p hp, cut_mod hb])
      refine ⟨w', ?_⟩
      rw [← h1]
      show fX9_odds_b68_body fu t r r42 _ _ _ _ _ _ _ _ _ _ _ = _
      unfold fX9_odds_b68_body fX9_odds_b101
      rw [bdS hT.n, if_neg (nI_ge (by omega) (by omega)), bdS (has9 (by omega) (by omega)), hb, if_neg (show ¬ bI true = 0 by decide), bdS (has9 (by omega) (by omega)), hb, if_neg (show ¬ bI true = 0 by decide), bdS (broken9 (by omega) (by omega)), nI_l (by omega), lN_mul, ← nI_succ, show lN (10 ^ k) * 10 = lN (10 ^ (k + 1)) from lN_mul (10 ^ k) 10, pt, if_pos hb]
    · have hb' : g.testBit k = false := by simpa using hb
      obtain ⟨w', h1⟩ := ih (k + 1) n w (by omega) (by omega) (fun p hp => by rw [hw p hp, cut_mod0 hb'])
      refine ⟨w', ?_⟩
      rw [← h1]
      show fX9_odds_b68_body fu t r r42 _ _ _ _ _ _ _ _ _ _ _ = _
      unfold fX9_odds_b68_body fX9_odds_b101
      rw [bdS hT.n, if_neg (nI_ge (by omega) (by omega)), bdS (has9 (by omega) (by omega)), hb', if_pos (show bI false = 0 by decide), bdS (has9 (by omega) (by omega)), hb', if_pos (show bI false = 0 by decide), show (10 : Int32) - nI x = nI (10 - x) from nI_sub (a := 10) hx, nI_l (by omega), lN_mul, ← nI_succ, show lN (10 ^ k) * 10 = lN (10 ^ (k + 1)) from lN_mul (10 ^ k) 10, pt, if_neg hb]
theorem odds9 {N P q x y g : Nat} {bk kd wd sl : Nat → Nat} {t r w : Nat → Int32} {fu : Nat} (hfu : 300 ≤ fu) (hT : TR N P bk kd wd sl t) (hq : q ≤ 36) (hx : x ≤ 10) (hy : y ≤ 1) (hgc : eu 55 (sumN (2 ^ N) (fun g => if decide (q ≤ brg N P bk kd wd (fun p => cut (cs N r p) g)) then pt x g N else 0)) (10 ^ N) = some g) (hg : 0 < g ∧ g < 2 ^ 31) : ∃ z : Int32 × (Nat → Int32) × Int32, fX9_odds_b42 fu t r fu (nI x) (nI q) (nI y) 0 1 0 w 0 = some z ∧ z.1 = nI ((if y = 0 then sumN (2 ^ N) (fun g => if decide (q ≤ brg N P bk kd wd (fun p => cut (cs N r p) g)) then pt x g N else 0) else 10 ^ N) / g) ∧ z.2.2 = 0 := by
  obtain ⟨hP1, hP8, hN⟩ := hT.1.2.2
  have h8 := pow8 hN
  have h1 := pow0 N
  have ht := ten8 hN
  have hu := up_le (x := x) (N := N) (B := fun g => decide (q ≤ brg N P bk kd wd (fun p => cut (cs N r p) g))) hx hN
  refine lpI (N := 2 ^ N) (k0 := 0) (F := fun m g (y' : Int64 × (Nat → Int32)) => fX9_odds_b42 fu t r m (nI x) (nI q) (nI y) (lN (sumN g (fun g => if decide (q ≤ brg N P bk kd wd (fun p => cut (cs N r p) g)) then pt x g N else 0))) y'.1 (nI g) y'.2 0) (I := fun g y' => g = 0 ∨ y'.1 = lN (10 ^ N)) ?_ ?_ (2 ^ N) 0 fu (1, w) (Nat.le_refl _) (Or.inl rfl) (by omega) (by omega)
  · rintro m ⟨a, w1⟩ hI
    have ha : a = lN (10 ^ N) := by
      rcases hI with h | h
      · omega
      · exact h
    subst ha
    refine ⟨(nI ((if y = 0 then sumN (2 ^ N) (fun g => if decide (q ≤ brg N P bk kd wd (fun p => cut (cs N r p) g)) then pt x g N else 0) else 10 ^ N) / g), w1, 0), ?_, rfl, rfl⟩
    show fX9_odds_b42_body fu t r _ _ _ _ _ _ _ _ _ = _
    unfold fX9_odds_b42_body fX9_gcd
    rw [bdS hT.n, nI_shl (by omega), if_pos (nI_le (by omega) (by omega)), bdS (eu9 55 fu _ _ hgc (by omega) (by omega) (by omega))]
    by_cases hy0 : y = 0
    · rw [if_pos (show nI y = 0 by rw [hy0]; rfl), if_pos hy0, bdS (dvLN (by omega) hg.1 (by omega)), lN_i]
    · rw [if_neg (show ¬ nI y = 0 from nI_ne0 (by omega) (by omega)), if_neg hy0, bdS (dvLN (by omega) hg.1 (by omega)), lN_i]
  · rintro m s ⟨a, w1⟩ _ hs _
    right
    obtain ⟨w2, k1, k2⟩ := asNow9 (fu := fu) (r := r) (w := w1) (by omega)
    obtain ⟨w', h2⟩ := odds_in (fu := fu) (r := r) (g := s) (l3 := nI y) (l4 := lN (sumN s (fun g => if decide (q ≤ brg N P bk kd wd (fun p => cut (cs N r p) g)) then pt x g N else 0))) (r42 := fX9_odds_b42 fu t r m) (by omega) hT hq hx hs N 0 fu w2 (by omega) (by omega) (fun p hp => by
      rw [cs_congr hN hp k2, show s % 2 ^ 0 = 0 by rw [Nat.pow_zero, Nat.mod_one], cut_0 (Nat.lt_of_lt_of_le (cs_lt N r p) h8)])
    refine ⟨(lN (10 ^ N), w'), Or.inr rfl, ?_⟩
    show fX9_odds_b42_body fu t r _ _ _ _ _ _ _ _ _ = fX9_odds_b42 fu t r m (nI x) (nI q) (nI y) (lN (sumN (s + 1) _)) (lN (10 ^ N)) (nI (s + 1)) w' 0
    unfold fX9_odds_b42_body
    rw [bdS hT.n, nI_shl (by omega), if_neg (nI_ge (by omega) (by omega)), bdS k1, sumN, ← lN_add]
    exact h2
theorem q_odds {N P : Nat} {bk kd wd sl : Nat → Nat} {day crossed th planks size sworn : Int32} {t came under due r bank kind word slow borne w : Nat → Int32} {fu : Nat} (hfu : 300 ≤ fu) (hT : TR N P bk kd wd sl t) (hF : FR N P bk kd wd sl planks size sworn bank kind word slow) (hB : BT N bk kd wd borne) (hS : ST N P day crossed came under due r) (x l y : Int32) : ∃ v w', fX8_odds fu size came borne planks x l y = some v ∧ fX9_odds fu t r w th x l y = some (v, w', 0) := by
  obtain ⟨hP1, hP8, hN⟩ := hT.1.2.2
  obtain ⟨d, c, hd, hx, ed, ex, hR⟩ := id hS
  have hw9 : ∀ a, a < N → wd a ≤ 9 := fun a ha => (hT.wf.2 a ha).2.2.1.2
  unfold fX8_odds fX9_odds
  rcases rng (fu := fu) (x := x) (lo := 0) (hi := 10) with ⟨a1, a2, -⟩ | ⟨a1, a2, a3, a4⟩
  · exact ⟨-1, w, by rw [bdS a2]; rfl, by rw [bdS a1]; rfl⟩
  rw [bdS a2, bdS a1, if10, if10]
  rcases load1 (fu := fu) (x := l) with ⟨l1, l2⟩ | ⟨l1, l2, q, hq1, hq2, rfl⟩
  · exact ⟨-1, w, by rw [bdS l2]; rfl, by rw [bdS l1]; rfl⟩
  rw [bdS l2, bdS l1, if10, if10]
  rcases rng (fu := fu) (x := y) (lo := 0) (hi := 1) with ⟨b1, b2, -⟩ | ⟨b1, b2, b3, b4⟩
  · exact ⟨-1, w, by rw [bdS b2]; rfl, by rw [bdS b1]; rfl⟩
  rw [bdS b2, bdS b1, if10, if10]
  obtain ⟨X, hX1, rfl⟩ := nI_of a3
  have hX : X ≤ 10 := Nat.le_of_not_lt (fun h => a4 (nI_lt (a := 10) h hX1))
  obtain ⟨Y, hY1, rfl⟩ := nI_of b3
  have hY : Y ≤ 1 := Nat.le_of_not_lt (fun h => b4 (nI_lt (a := 1) h hY1))
  have ht := ten8 hN
  have hu := up_le (x := X) (N := N) (B := fun g => decide (q ≤ brg N P bk kd wd (fun p => cut (cs N r p) g))) hX hN
  have hp10 : 0 < 10 ^ N := Nat.pow_pos (by omega)
  have hgc := eu_ok 27 (sumN (2 ^ N) (fun g => if decide (q ≤ brg N P bk kd wd (fun p => cut (cs N r p) g)) then pt X g N else 0)) (10 ^ N) 55 (by omega) (by omega)
  have hg1 := Nat.gcd_pos_of_pos_right (sumN (2 ^ N) (fun g => if decide (q ≤ brg N P bk kd wd (fun p => cut (cs N r p) g)) then pt X g N else 0)) hp10
  have hg2 := Nat.gcd_le_right (sumN (2 ^ N) (fun g => if decide (q ≤ brg N P bk kd wd (fun p => cut (cs N r p) g)) then pt X g N else 0)) hp10
  have hch := chX (fu := fu) (q := q) (x := X) (by omega) hB hN ⟨hP1, hP8⟩ hF.1.1 hF.1.2.1 hR.C hw9 hq2 hX
  generalize Nat.gcd _ (10 ^ N) = g at hgc hg1 hg2
  obtain ⟨⟨z1, z2, z3⟩, k1, k2, k3⟩ := odds9 (fu := fu) (w := w) (y := Y) hfu hT hq2 hX hY hgc ⟨hg1, by omega⟩
  simp only at k2 k3
  refine ⟨z1, z2, ?_, by rw [k1, k3]⟩
  have hcd : fX8_commonDivisor fu (nI (sumN (2 ^ N) (fun g => if decide (q ≤ brg N P bk kd wd (fun p => cut (cs N r p) g)) then pt X g N else 0))) (nI (10 ^ N)) = some (nI g) := euX 55 0 fu _ _ hgc (by omega) (by omega) (by omega) (by omega)
  rw [bdS hch, bdS (show fX8_power fu 10 size = some (nI (10 ^ N)) by rw [hF.1.2.1]; exact powX (b := 10) (by omega) hN), bdS hcd, if_pos (nIp0 hg1 (by omega)), k2]
  unfold fX8_odds_b80
  by_cases hy0 : Y = 0
  · rw [if_pos (show nI Y = 0 by rw [hy0]; rfl), if_pos hy0, bdS (dvIN (by omega) hg1 (by omega))]
  · rw [if_neg (show ¬ nI Y = 0 from nI_ne0 (by omega) (by omega)), if_neg hy0, bdS (dvIN (by omega) hg1 (by omega))]
