-- a loop that goes up
theorem lpF {β : Type} {G : Nat → Nat → Option β} {N k0 : Nat} {r : Option β} (h0 : ∀ n, G (n + 1) N = r) (h1 : ∀ n k, k0 ≤ k → k < N → G (n + 1) k = r ∨ G (n + 1) k = G n (k + 1)) : ∀ m k n, k0 ≤ k → N = k + m → m < n → G n k = r := by
  intro m
  induction m with
  | zero =>
    intro k n _ hk hn
    obtain ⟨n, rfl⟩ : ∃ q, n = q + 1 := ⟨n - 1, by omega⟩
    have e : k = N := by omega
    rw [e]; exact h0 n
  | succ m ih =>
    intro k n h2 hk hn
    obtain ⟨n, rfl⟩ : ∃ q, n = q + 1 := ⟨n - 1, by omega⟩
    rcases h1 n k h2 (by omega) with h | h
    · exact h
    · rw [h]; exact ih (k + 1) n (by omega) (by omega) (by omega)
theorem lp {β : Type} {G : Nat → Nat → Option β} {N : Nat} {r : Option β} (h0 : ∀ n, G (n + 1) N = r) (h1 : ∀ n k, k < N → G (n + 1) k = r ∨ G (n + 1) k = G n (k + 1)) (m k n : Nat) (hk : N = k + m) (hn : m < n) : G n k = r :=
  lpF (k0 := 0) h0 (fun n k _ h => h1 n k h) m k n (Nat.zero_le _) hk hn
def lyS (N P : Nat) (bk kd wd : Nat → Nat) (C : Nat → Nat) : Nat := mkS P (fun p => decide (0 < bears N bk kd wd p (C p)))
theorem le0 {b : Nat} (hb : b < 2 ^ 31) : nI b ≤ 0 ↔ b = 0 := by
  constructor
  · intro h
    rcases Nat.eq_zero_or_pos b with q | q
    · exact q
    · exact absurd h (nI_ge (a := 0) q hb)
  · intro h
    rw [h]
    exact nI_le (a := 0) (b := 0) (by omega) (by decide)
theorem lyingX {N P : Nat} {bk kd wd : Nat → Nat} {borne came : Nat → Int32} {planks : Int32} {fu : Nat} {C : Nat → Nat} (hfu : 9 ≤ fu) (hB : BT N bk kd wd borne) (hN : N ≤ 8) (hP : 1 ≤ P ∧ P ≤ 8) (hpl : planks = nI P) (hC : ∀ p, p < 8 → came p = nI (C p) ∧ C p < 2 ^ N) (hw : ∀ a, a < N → wd a ≤ 9) : fX7_lying fu planks came borne = some (nI (lyS N P bk kd wd C)) := by
  refine lp (N := P) (G := fun n k => fX7_lying_b4 fu planks came borne n (nI (mkS k (fun p => decide (0 < bears N bk kd wd p (C p))))) (nI k)) ?_ ?_ P 0 fu (by omega) (by omega)
  · intro n
    show fX7_lying_b4_body fu planks came borne _ _ _ = _
    unfold fX7_lying_b4_body
    rw [hpl, if_pos (nI_le (by omega) (by omega))]
    rfl
  · intro n k hk
    right
    show fX7_lying_b4_body fu planks came borne _ _ _ = _
    unfold fX7_lying_b4_body
    obtain ⟨c1, c2⟩ := hC k (by omega)
    have hb := bears_le (N := N) (bk := bk) (kd := kd) (p := k) (c := C k) hw
    rw [hpl, if_neg (nI_ge (by omega) (by omega)), bdS (rdN (by omega) (by decide)), c1, bdS (ofX hB hN c2 (by omega))]
    rw [mkS]
    by_cases h : bears N bk kd wd k (C k) = 0
    · rw [if_pos ((le0 (by omega)).mpr h), nI_succ]
      simp [h]
    · rw [if_neg (fun e => h ((le0 (by omega)).mp e)), nI_succ, nI_shl (by omega), nI_or]
      have : 0 < bears N bk kd wd k (C k) := by omega
      simp [this]
theorem lying9 {N P : Nat} {bk kd wd sl : Nat → Nat} {t r : Nat → Int32} (hT : TR N P bk kd wd sl t) {fu : Nat} (hfu : 9 ≤ fu) : fX9_lying fu t r = some (nI (lyS N P bk kd wd (cs N r))) := by
  obtain ⟨hP1, hP8, hN⟩ := hT.1.2.2
  have h8 := pow8 hN
  have hw : ∀ a, a < N → wd a ≤ 9 := fun a ha => (hT.wf.2 a ha).2.2.1.2
  refine lp (N := P) (G := fun n k => fX9_lying_b4 fu t r n (nI (mkS k (fun p => decide (0 < bears N bk kd wd p (cs N r p))))) (nI k)) ?_ ?_ P 0 fu (by omega) (by omega)
  · intro n
    show fX9_lying_b4_body fu t r _ _ _ = _
    unfold fX9_lying_b4_body
    rw [bdS hT.p, if_pos (nI_le (by omega) (by omega))]
    rfl
  · intro n k hk
    right
    show fX9_lying_b4_body fu t r _ _ _ = _
    unfold fX9_lying_b4_body
    have c2 := cs_lt N r k
    have hb := bears_le (N := N) (bk := bk) (kd := kd) (p := k) (c := cs N r k) hw
    rw [bdS hT.p, if_neg (nI_ge (by omega) (by omega)), bdS (came9 hT hfu (by omega)), bdS (bears9 hT hfu (by omega) (by omega))]
    rw [mkS]
    by_cases h : bears N bk kd wd k (cs N r k) = 0
    · rw [if_pos ((le0 (by omega)).mpr h), nI_succ, show (0 : Int32) = nI 0 from rfl, nI_or]
      simp [h]
    · rw [if_neg (fun e => h ((le0 (by omega)).mp e)), nI_succ, nI_shl (by omega), nI_or]
      have : 0 < bears N bk kd wd k (cs N r k) := by omega
      simp [this]
/-- how many below n -/
def cnt : Nat → (Nat → Bool) → Nat
  | 0, _ => 0
  | n + 1, P => cnt n P + (if P n then 1 else 0)
theorem cnt_le (n : Nat) (P : Nat → Bool) : cnt n P ≤ n := by
  induction n with
  | zero => exact Nat.le_refl _
  | succ n ih =>
    rw [cnt]
    split <;> omega
theorem cnt_congr {n : Nat} {P Q : Nat → Bool} (h : ∀ i, i < n → P i = Q i) : cnt n P = cnt n Q := by
  induction n with
  | zero => rfl
  | succ n ih => rw [cnt, cnt, ih (fun i hi => h i (by omega)), h n (by omega)]
theorem pop8 : ∀ c, c < 256 → fJ6_bitCount_0f7a4 0 (nI c) = some (nI (cnt 8 (fun a => c.testBit a))) := by decide +kernel
theorem popX {fu c : Nat} (hc : c < 256) : fJ6_bitCount_0f7a4 fu (nI c) = some (nI (cnt 8 (fun a => c.testBit a))) := pop8 c hc
theorem popM {fu N : Nat} {P : Nat → Bool} (hN : N ≤ 8) : fJ6_bitCount_0f7a4 fu (nI (mkS N P)) = some (nI (cnt N P)) := by
  have h8 := pow8 hN
  have h1 := mkS_lt N P
  rw [popX (by omega)]
  have : ∀ n m (Q : Nat → Bool), n ≤ m → cnt m (fun a => decide (a < n) && Q a) = cnt n Q := by
    intro n m Q
    induction m with
    | zero => intro h; have : n = 0 := by omega
              subst this; rfl
    | succ m ih =>
      intro h
      by_cases e : n = m + 1
      · subst e
        exact cnt_congr (fun i hi => by simp [hi])
      · rw [cnt, ih (by omega)]
        have : ¬ m < n := by omega
        simp [this]
  rw [show (fun a => (mkS N P).testBit a) = (fun a => decide (a < N) && P a) from funext (fun a => mkS_bit N P a), this N 8 P hN]
def lsum (r : Nat → Int32) : Nat := cnt 66 (fun k => decide (2 ≤ k) && decide (0 < r k))
theorem way9 {fu : Nat} {r : Nat → Int32} (hfu : 65 ≤ fu) : fX9_underWay fu r = some (nI (lsum r)) := by
  refine lpF (N := 66) (k0 := 2) (G := fun n k => fX9_underWay_b4 fu r n (nI (cnt k (fun k => decide (2 ≤ k) && decide (0 < r k)))) (nI k)) ?_ ?_ 64 2 fu (by omega) (by omega) (by omega)
  · intro n
    show fX9_underWay_b4_body fu r _ _ _ = _
    unfold fX9_underWay_b4_body
    rw [if_pos (by decide)]
    rfl
  · intro n k hk2 hk
    right
    show fX9_underWay_b4_body fu r _ _ _ = _
    unfold fX9_underWay_b4_body
    rw [if_neg (show ¬ 66 ≤ nI k from nI_ge (b := 66) (by omega) (by decide)), bdS (rdN (by omega) (by decide)), cnt, nI_succ]
    by_cases h : r k ≤ 0
    · rw [if_pos h]
      have h' : ¬ 0 < r k := Int32.not_lt.mpr h
      simp [h', show ∀ x : Int32, x + 0 = x from Int32.add_zero]
    · rw [if_neg h]
      have h' : 0 < r k := Int32.not_le.mp h
      simp [h', hk2, nI_succ]
def sumN : Nat → (Nat → Nat) → Nat
  | 0, _ => 0
  | n + 1, f => sumN n f + f n
theorem sumN_congr {n : Nat} {f g : Nat → Nat} (h : ∀ i, i < n → f i = g i) : sumN n f = sumN n g := by
  induction n with
  | zero => rfl
  | succ n ih => rw [sumN, sumN, ih (fun i hi => h i (by omega)), h n (by omega)]
theorem cnt_ext {n m : Nat} {P : Nat → Bool} (hn : n ≤ m) (h : ∀ i, n ≤ i → i < m → P i = false) : cnt m P = cnt n P := by
  induction m with
  | zero => have : n = 0 := by omega
            subst this; rfl
  | succ m ih =>
    by_cases e : n = m + 1
    · rw [e]
    · rw [cnt, ih (by omega) (fun i h1 h2 => h i h1 (by omega)), h m (by omega) (by omega)]
      rfl
theorem lsum_8 (r : Nat → Int32) : lsum r = sumN 8 (fun p => cnt 8 (fun a => decide (0 < r (2 + 8 * a + p)))) := by
  have : ∀ x : Nat → Bool, cnt 66 (fun k => decide (2 ≤ k) && x k) = sumN 8 (fun p => cnt 8 (fun a => x (2 + 8 * a + p))) := by
    intro x
    simp [cnt, sumN]
    omega
  exact this (fun k => decide (0 < r k))
theorem wayX {N P d x : Nat} {came under due r : Nat → Int32} {fu : Nat} (hfu : 9 ≤ fu) (hN : N ≤ 8) (hR : PR N P d x came under due r) : fX5_lettersUnderWay fu under = some (nI (lsum r)) := by
  have h8 := pow8 hN
  have e : ∀ p, p < 8 → cnt N (fun a => decide (0 < r (2 + 8 * a + p))) = cnt 8 (fun a => decide (0 < r (2 + 8 * a + p))) := by
    intro p hp
    refine (cnt_ext hN (fun i h1 h2 => ?_)).symm
    rcases Decidable.em (r (2 + 8 * i + p) = 0) with q | q
    · rw [q]; rfl
    · have := ((hR.2.2 i p h2 hp).2 q).1
      omega
  rw [lsum_8, ← sumN_congr e]
  refine lp (N := 8) (G := fun n k => fX5_lettersUnderWay_b4 fu under n (nI (sumN k (fun p => cnt N (fun a => decide (0 < r (2 + 8 * a + p)))))) (nI k)) ?_ ?_ 8 0 fu (by omega) (by omega)
  · intro n
    show fX5_lettersUnderWay_b4_body fu under _ _ _ = _
    unfold fX5_lettersUnderWay_b4_body
    rw [if_pos (by decide)]
  · intro n k hk
    right
    show fX5_lettersUnderWay_b4_body fu under _ _ _ = _
    unfold fX5_lettersUnderWay_b4_body
    rw [if_neg (show ¬ 8 ≤ nI k from nI_ge (b := 8) (by omega) (by decide)), bdS (rdN (by omega) (by decide)), (hR.2.1 k hk).2]
    unfold us
    rw [bdS (popM hN), sumN, nI_succ, nI_add]
/-- now -/
theorem q_now {N P d x : Nat} {bk kd wd sl : Nat → Nat} {t came under due r bank kind word slow borne : Nat → Int32} {planks size sworn th day crossed known um : Int32} {fu : Nat} (hfu : 65 ≤ fu) (hT : TR N P bk kd wd sl t) (hF : FR N P bk kd wd sl planks size sworn bank kind word slow) (hB : BT N bk kd wd borne) (hR : PR N P d x came under due r) (hd : day = nI d) (hx : crossed = nI x) (hk : known = um) (w : Int32) : ∃ v, fX8_now fu known under crossed planks came borne day w = some v ∧ fX9_now fu r t um th w = some (v, 0) := by
  obtain ⟨hP1, hP8, hN⟩ := hT.1.2.2
  have h8 := pow8 hN
  have hW := hT.wf
  have hw : ∀ a, a < N → wd a ≤ 9 := fun a ha => (hT.wf.2 a ha).2.2.1.2
  unfold fX8_now fX9_now
  rcases rng (fu := fu) (x := w) (lo := 0) (hi := 5) with ⟨h1, -, h2⟩ | ⟨h1, -, h3, h4⟩
  · refine ⟨-1, ?_, by rw [bdS h1]; rfl⟩
    have n : ∀ y : Int32, ¬ y < 0 → ¬ 5 < y → w ≠ y := by
      intro y a b e
      subst e
      exact h2.elim a b
    rw [if_neg (n 0 (by decide) (by decide)), if_neg (n 1 (by decide) (by decide)), if_neg (n 2 (by decide) (by decide)), if_neg (n 3 (by decide) (by decide)), if_neg (n 4 (by decide) (by decide)), if_neg (n 5 (by decide) (by decide))]
  · rw [bdS h1, if10]
    obtain ⟨q, hq, rfl⟩ := nI_of h3
    have hq5 : ¬ 5 < q := fun z => h4 (nI_lt (a := 5) z hq)
    have hbr := bridgeX (g := 0) (fu := fu) (by omega) hB hN ⟨hP1, hP8⟩ hF.1.1 hR.C hw
    rw [show (fun p => cut (cs N r p) 0) = cs N r from funext (fun p => cut_0 (by have := cs_lt N r p; omega))] at hbr
    rcases (by omega : q = 0 ∨ q = 1 ∨ q = 2 ∨ q = 3 ∨ q = 4 ∨ q = 5) with rfl | rfl | rfl | rfl | rfl | rfl
    · refine ⟨day, rfl, ?_⟩
      show ((rd 66 r 0).bind fun v12 => some (v12, 0)) = _
      rw [show (0 : Int32) = nI 0 from rfl, bdS (rdN (by omega) (by decide)), hR.1.1, hd]
    · refine ⟨nI (brg N P bk kd wd (cs N r)), ?_, ?_⟩
      · show ((fX7_bridge fu came borne planks 0).bind fun v2 => some v2) = _
        rw [show (0 : Int32) = nI 0 from rfl, bdS hbr]
      · show ((fX9_bridge fu t r).bind fun v => some (v, 0)) = _
        rw [bdS (bridge9 hT (by omega))]
    · refine ⟨nI (lyS N P bk kd wd (cs N r)), ?_, ?_⟩
      · show ((fX7_lying fu planks came borne).bind fun v2 => some v2) = _
        rw [bdS (lyingX (by omega) hB hN ⟨hP1, hP8⟩ hF.1.1 hR.C hw)]
      · show ((fX9_lying fu t r).bind fun v => some (v, 0)) = _
        rw [bdS (lying9 hT (by omega))]
    · refine ⟨crossed, rfl, ?_⟩
      show ((rd 66 r 1).bind fun v12 => some (v12, 0)) = _
      rw [show (1 : Int32) = nI 1 from rfl, bdS (rdN (by omega) (by decide)), hR.1.2, hx]
    · refine ⟨nI (lsum r), ?_, ?_⟩
      · show ((fX5_lettersUnderWay fu under).bind fun v2 => some v2) = _
        rw [bdS (wayX (by omega) hN hR)]
      · show ((fX9_underWay fu r).bind fun v => some (v, 0)) = _
        rw [bdS (way9 hfu)]
    · exact ⟨known, rfl, by rw [hk]; rfl⟩
