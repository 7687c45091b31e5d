-- friends: pairs of people on planks
def sb (x S : Nat) : Prop := ∀ i, x.testBit i = true → S.testBit i = true
def dn (c : Nat → Nat) (i : Nat) : Nat → Nat := up c i (c i - 1)
theorem dn_at (c : Nat → Nat) (i : Nat) : dn c i i = c i - 1 := up_at _ _ _
theorem dn_ne {c : Nat → Nat} {i j : Nat} (h : j ≠ i) : dn c i j = c j := up_ne h
theorem dn_comm (c : Nat → Nat) (i j : Nat) : dn (dn c i) j = dn (dn c j) i := by
  funext k
  by_cases h1 : i = j
  · rw [h1]
  · by_cases h2 : k = i
    · subst h2
      rw [dn_ne h1, dn_at, dn_at, dn_ne h1]
    · by_cases h3 : k = j
      · subst h3
        rw [dn_at, dn_ne h2, dn_ne h2, dn_at]
      · rw [dn_ne h3, dn_ne h2, dn_ne h2, dn_ne h3]
theorem dn_pos {c : Nat → Nat} {i j : Nat} (h1 : 0 < c i) (h2 : 0 < dn c i j) : 0 < c j ∧ 0 < dn c j i := by
  by_cases e : i = j
  · subst e
    exact ⟨h1, h2⟩
  · rw [dn_ne (fun q => e q.symm)] at h2
    rw [dn_ne e]
    exact ⟨h2, h1⟩
theorem cutb {S x i : Nat} : (cut S x).testBit i = true ↔ i < 8 ∧ S.testBit i = true ∧ x.testBit i = false := by
  rw [cut_bit]
  simp
theorem extb {a b : Nat} (h : ∀ i, a.testBit i = true ↔ b.testBit i = true) : a = b := Nat.eq_of_testBit_eq (fun i => Bool.eq_iff_iff.mpr (h i))
theorem bit8 {x i : Nat} (hx : x < 256) (h : x.testBit i = true) : i < 8 := by
  refine Nat.lt_of_not_le (fun q => ?_)
  rw [Nat.testBit_lt_two_pow (Nat.lt_of_lt_of_le hx (Nat.pow_le_pow_right (n := 2) (i := 8) (by omega) q))] at h
  cases h
theorem cut_comm (S x y : Nat) : cut (cut S x) y = cut (cut S y) x := extb (fun i => by
  rw [cutb, cutb, cutb, cutb]
  exact ⟨fun ⟨h1, ⟨_, h2, h3⟩, h4⟩ => ⟨h1, ⟨h1, h2, h4⟩, h3⟩, fun ⟨h1, ⟨_, h2, h3⟩, h4⟩ => ⟨h1, ⟨h1, h2, h4⟩, h3⟩⟩)
theorem on_cut {S x : Nat} (h : sb x S) : on S = on (cut S x) + on x := by
  unfold on
  rw [← cnt_or (fun i _ hh => by have := (cutb.mp hh.1).2.2; rw [hh.2] at this; cases this)]
  refine cnt_congr (fun i hi => ?_)
  rw [cut_bit, decide_eq_true hi, Bool.true_and]
  cases hx : x.testBit i
  · simp
  · rw [h i hx]; rfl
/-- so many pairs of S can be on planks, c of each kind -/
def Kp (B : Nat → Nat → Prop) : Nat → Nat → (Nat → Nat) → Prop
  | 0, _, _ => True
  | m + 1, S, c => ∃ x i, (x < 256 ∧ on x = 2 ∧ sb x S) ∧ (i < 2 ∧ 0 < c i ∧ B i x) ∧ Kp B m (cut S x) (dn c i)
theorem K_mono {B : Nat → Nat → Prop} : ∀ (m S S' : Nat) (c c' : Nat → Nat), sb S S' → (∀ i, i < 2 → c i ≤ c' i) → Kp B m S c → Kp B m S' c' := by
  intro m
  induction m with
  | zero => intro _ _ _ _ _ _ _; trivial
  | succ m ih =>
    rintro S S' c c' hs hc ⟨x, i, ⟨h1, h2, h3⟩, ⟨h4, h5, h6⟩, h7⟩
    have h8 := hc i h4
    refine ⟨x, i, ⟨h1, h2, fun j hj => hs j (h3 j hj)⟩, ⟨h4, by omega, h6⟩, ih (cut S x) (cut S' x) (dn c i) (dn c' i) (fun j hj => ?_) (fun j hj => ?_) h7⟩
    · obtain ⟨a1, a2, a3⟩ := cutb.mp hj
      exact cutb.mpr ⟨a1, hs j a2, a3⟩
    · by_cases e : j = i
      · rw [e, dn_at, dn_at]; omega
      · rw [dn_ne e, dn_ne e]; exact hc j hj
theorem sb_cut {x y S : Nat} (hx : x < 256) (h1 : sb x S) (h2 : ∀ i, x.testBit i = true → y.testBit i = false) : sb x (cut S y) := fun i hi => cutb.mpr ⟨bit8 hx hi, h1 i hi, h2 i hi⟩
theorem bit_pow {a i : Nat} : (2 ^ a).testBit i = true ↔ a = i := by rw [Nat.testBit_two_pow]; simp
theorem bit_pair {a b i : Nat} : (2 ^ a ||| 2 ^ b).testBit i = true ↔ a = i ∨ b = i := by
  rw [Nat.testBit_or, Bool.or_eq_true, bit_pow, bit_pow]
theorem orc (a b : Nat) : a ||| b = b ||| a := extb (fun i => by rw [Nat.testBit_or, Nat.testBit_or, Bool.or_comm])
theorem fal {b : Bool} (h : ¬ b = true) : b = false := by simpa using h
theorem K_person {B : Nat → Nat → Prop} {a : Nat} (ha : a < 8) : ∀ (m S : Nat) (c : Nat → Nat), S.testBit a = true → Kp B m S c → Kp B m (cut S (2 ^ a)) c ∨ ∃ b i n, m = n + 1 ∧ b ≠ a ∧ b < 8 ∧ S.testBit b = true ∧ (i < 2 ∧ 0 < c i ∧ B i (2 ^ a ||| 2 ^ b)) ∧ Kp B n (cut S (2 ^ a ||| 2 ^ b)) (dn c i) := by
  intro m
  induction m with
  | zero => intro _ _ _ _; left; trivial
  | succ m ih =>
    rintro S c hS ⟨x, i, ⟨h1, h2, h3⟩, ⟨h4, h5, h6⟩, h7⟩
    by_cases hax : x.testBit a = true
    · right
      obtain ⟨u, hu, v, hv, huv, rfl⟩ := on_2 x h1 h2
      rcases bit_pair.mp hax with e | e
      · subst e
        exact ⟨v, i, m, rfl, by omega, hv, h3 v (bit_pair.mpr (Or.inr rfl)), ⟨h4, h5, h6⟩, h7⟩
      · subst e
        rw [orc] at h6 h7
        exact ⟨u, i, m, rfl, by omega, hu, h3 u (bit_pair.mpr (Or.inl rfl)), ⟨h4, h5, h6⟩, h7⟩
    · rcases ih (cut S x) (dn c i) (cutb.mpr ⟨ha, hS, fal hax⟩) h7 with h8 | ⟨b, j, n, k1, k2, k3, k4, ⟨k5, k6, k7⟩, k8⟩
      · left
        rw [cut_comm] at h8
        refine ⟨x, i, ⟨h1, h2, sb_cut h1 h3 (fun j hj => fal (fun q => ?_))⟩, ⟨h4, h5, h6⟩, h8⟩
        rw [bit_pow] at q
        rw [q] at hax
        exact hax hj
      · right
        obtain ⟨p1, p2⟩ := dn_pos h5 k6
        have kb := cutb.mp k4
        refine ⟨b, j, m, rfl, k2, k3, kb.2.1, ⟨k5, p1, k7⟩, ?_⟩
        rw [k1]
        rw [cut_comm, dn_comm] at k8
        refine ⟨x, i, ⟨h1, h2, sb_cut h1 h3 (fun j hj => fal (fun q => ?_))⟩, ⟨h4, p2, h6⟩, k8⟩
        rcases bit_pair.mp q with q | q
        · rw [q] at hax; exact hax hj
        · have := kb.2.2
          rw [q, hj] at this
          cases this
theorem K_type {B : Nat → Nat → Prop} {i : Nat} (hi2 : i < 2) : ∀ (m S : Nat) (c : Nat → Nat), Kp B m S c → Kp B m S (dn c i) ∨ ∃ x n, m = n + 1 ∧ (x < 256 ∧ on x = 2 ∧ sb x S) ∧ (0 < c i ∧ B i x) ∧ Kp B n (cut S x) (dn c i) := by
  intro m
  induction m with
  | zero => intro _ _ _; left; trivial
  | succ m ih =>
    rintro S c ⟨x, j, ⟨h1, h2, h3⟩, ⟨h4, h5, h6⟩, h7⟩
    by_cases e : j = i
    · subst e
      right
      exact ⟨x, m, rfl, ⟨h1, h2, h3⟩, ⟨h5, h6⟩, h7⟩
    · rcases ih (cut S x) (dn c j) h7 with h8 | ⟨y, n, k1, ⟨k2, k3, k4⟩, ⟨k5, k6⟩, k7⟩
      · left
        rw [dn_comm] at h8
        exact ⟨x, j, ⟨h1, h2, h3⟩, ⟨h4, by rw [dn_ne e]; exact h5, h6⟩, h8⟩
      · right
        rw [dn_ne (fun q => e q.symm)] at k5
        rw [cut_comm, dn_comm] at k7
        refine ⟨y, m, rfl, ⟨k2, k3, fun z hz => (cutb.mp (k4 z hz)).2.1⟩, ⟨k5, k6⟩, ?_⟩
        rw [k1]
        refine ⟨x, j, ⟨h1, h2, sb_cut h1 h3 (fun z hz => fal (fun q => ?_))⟩, ⟨h4, by rw [dn_ne e]; exact h5, h6⟩, k7⟩
        have := (cutb.mp (k4 z q)).2.2
        rw [hz] at this
        cases this
theorem K_bound {B : Nat → Nat → Prop} : ∀ (m S : Nat) (c : Nat → Nat), Kp B m S c → 2 * m ≤ on S ∧ m ≤ c 0 + c 1 := by
  intro m
  induction m with
  | zero => intro _ _ _; omega
  | succ m ih =>
    rintro S c ⟨x, j, ⟨h1, h2, h3⟩, ⟨h4, h5, h6⟩, h7⟩
    obtain ⟨k1, k2⟩ := ih _ _ h7
    have := on_cut h3
    rcases (by omega : j = 0 ∨ j = 1) with rfl | rfl
    · rw [dn_at, dn_ne (by omega)] at k2; omega
    · rw [dn_at, dn_ne (by omega)] at k2; omega
theorem K_exact {B : Nat → Nat → Prop} : ∀ (m U : Nat) (c : Nat → Nat), Kp B m U c → ∃ S, S < 256 ∧ sb S U ∧ on S = 2 * m ∧ Kp B m S c := by
  intro m
  induction m with
  | zero => intro U c _; exact ⟨0, by omega, fun i hi => (by rw [Nat.zero_testBit] at hi; cases hi), by decide, trivial⟩
  | succ m ih =>
    rintro U c ⟨x, j, ⟨h1, h2, h3⟩, h4, h7⟩
    obtain ⟨S, k1, k2, k3, k4⟩ := ih _ _ h7
    have ec : cut (x ||| S) x = S := extb (fun i => by
      rw [cutb, Nat.testBit_or]
      constructor
      · rintro ⟨_, q1, q2⟩
        rw [q2] at q1
        exact q1
      · intro q
        have := cutb.mp (k2 i q)
        exact ⟨this.1, by rw [q]; simp, this.2.2⟩)
    have hsx : sb x (x ||| S) := fun i hi => by rw [Nat.testBit_or, hi]; rfl
    refine ⟨x ||| S, Nat.or_lt_two_pow (n := 8) h1 k1, fun i hi => ?_, ?_, x, j, ⟨h1, h2, hsx⟩, h4, by rw [ec]; exact k4⟩
    · rw [Nat.testBit_or, Bool.or_eq_true] at hi
      rcases hi with hi | hi
      · exact h3 i hi
      · exact (cutb.mp (k2 i hi)).2.1
    · have := on_cut hsx
      rw [ec] at this
      omega
def Gr (B : Nat → Nat → Prop) (S : Nat) (c : Nat → Nat) (v : Nat) : Prop := Kp B v S c ∧ ∀ m, Kp B m S c → m ≤ v
theorem Gr_u {B : Nat → Nat → Prop} {S : Nat} {c : Nat → Nat} {v w : Nat} (h : Gr B S c v) (k : Gr B S c w) : v = w := Nat.le_antisymm (k.2 _ h.1) (h.2 _ k.1)
def ce (e o : Nat) : Nat → Nat := fun i => if i = 0 then e else if i = 1 then o else 0
theorem ce_0 (e o : Nat) : ce e o 0 = e := rfl
theorem ce_1 (e o : Nat) : ce e o 1 = o := rfl
theorem dn_0 (e o : Nat) : dn (ce e o) 0 = ce (e - 1) o := by
  funext k
  by_cases h : k = 0
  · rw [h, dn_at]; rfl
  · rw [dn_ne h]
    unfold ce
    rw [if_neg h, if_neg h]
theorem dn_1 (e o : Nat) : dn (ce e o) 1 = ce e (o - 1) := by
  funext k
  by_cases h : k = 1
  · rw [h, dn_at]; rfl
  · rw [dn_ne h]
    unfold ce
    rw [if_neg h, if_neg h]
-- the class's side
theorem most_end {N q a S e o best bd : Nat} {bk kd wd : Nat → Nat} {borne : Nat → Int32} {fu : Nat} {rc : Int32 → Int32 → Int32 → Int32 → Int32 → Option Int32} (ha : a < 8) (hS8 : S < 256) (hSa : S.testBit a = true) (hSb : ∀ i, S.testBit i = true → a ≤ i) (hbd : bd = min (on S / 2) (e + o)) (hrc : ∃ v, rc (nI q) (nI (a + 1)) (nI (cut S (2 ^ a))) (nI e) (nI o) = some (nI v) ∧ v ≤ 8 ∧ Gr (fun i x => q ≤ bears N bk kd wd i x) (cut S (2 ^ a)) (ce e o) v) (hb : Kp (fun i x => q ≤ bears N bk kd wd i x) best S (ce e o)) (hJ : bd ≤ best ∨ ∀ b, a < b → b < 8 → S.testBit b = true → ∀ i, i < 2 → 0 < ce e o i → q ≤ bears N bk kd wd i (2 ^ a ||| 2 ^ b) → ∀ m, Kp (fun i x => q ≤ bears N bk kd wd i x) m (cut S (2 ^ a ||| 2 ^ b)) (dn (ce e o) i) → m + 1 ≤ best) : ∃ y, fX4_mostPairs_b202 fu borne rc (nI q) (nI a) (nI e) (nI o) (nI bd) (nI (cut S (2 ^ a))) (nI best) = some y ∧ ∃ v, y = nI v ∧ v ≤ 8 ∧ Gr (fun i x => q ≤ bears N bk kd wd i x) S (ce e o) v := by
  have hon := on_le S
  have hbb : ∀ m, Kp (fun i x => q ≤ bears N bk kd wd i x) m S (ce e o) → m ≤ bd := fun m hm => by
    have := K_bound _ _ _ hm
    rw [ce_0, ce_1] at this
    omega
  have h8 := hbb _ hb
  unfold fX4_mostPairs_b202
  by_cases h : bd ≤ best
  · exact ⟨nI best, by rw [if_pos (nI_le h (by omega))], best, rfl, by omega, hb, fun m hm => Nat.le_trans (hbb m hm) h⟩
  obtain ⟨v, h1, h2, h3, h4⟩ := hrc
  refine ⟨nI (max best v), ?_, max best v, rfl, by omega, ?_, fun m hm => ?_⟩
  · rw [if_neg (nI_ge (by omega) (by omega)), ← nI_succ, bdS h1, mxN (by omega) (by omega)]
  · by_cases q1 : v ≤ best
    · rw [Nat.max_eq_left q1]; exact hb
    · rw [Nat.max_eq_right (by omega)]
      exact K_mono v _ _ _ _ (fun i hi => (cutb.mp hi).2.1) (fun _ _ => Nat.le_refl _) h3
  · rcases K_person ha m S (ce e o) hSa hm with q1 | ⟨b, i, n, k1, k2, k3, k4, ⟨k5, k6, k7⟩, k8⟩
    · have := h4 m q1; omega
    · rcases hJ with hJ | hJ
      · omega
      · have := hSb b k4
        have := hJ b (by omega) k3 k4 i k5 k6 k7 n k8
        omega
theorem most_odd {N q a b S e o best : Nat} {bk kd wd : Nat → Nat} {borne : Nat → Int32} {bd : Int32} {fu : Nat} {rc : Int32 → Int32 → Int32 → Int32 → Int32 → Option Int32} {r68 : Int32 → Int32 → Int32 → Int32 → Int32 → Int32 → Int32 → Int32 → Option Int32} (hB : BT N bk kd wd borne) (hN : N ≤ 8) (hw : ∀ a, a < N → wd a ≤ 9) (hq : q ≤ 36) (hx : 2 ^ a ||| 2 ^ b < 2 ^ N) (hx2 : on (2 ^ a ||| 2 ^ b) = 2) (hxs : sb (2 ^ a ||| 2 ^ b) S) (ho : o ≤ 8) (hrc : 0 < o → ∃ v, rc (nI q) (nI (a + 1)) (nI (cut S (2 ^ a ||| 2 ^ b))) (nI e) (nI (o - 1)) = some (nI v) ∧ v ≤ 8 ∧ Gr (fun i x => q ≤ bears N bk kd wd i x) (cut S (2 ^ a ||| 2 ^ b)) (ce e (o - 1)) v) (hb : Kp (fun i x => q ≤ bears N bk kd wd i x) best S (ce e o)) : ∃ best', best ≤ best' ∧ Kp (fun i x => q ≤ bears N bk kd wd i x) best' S (ce e o) ∧ (0 < o → q ≤ bears N bk kd wd 1 (2 ^ a ||| 2 ^ b) → ∀ m, Kp (fun i x => q ≤ bears N bk kd wd i x) m (cut S (2 ^ a ||| 2 ^ b)) (dn (ce e o) 1) → m + 1 ≤ best') ∧ fX4_mostPairs_b155 fu borne rc r68 (nI q) (nI a) (nI e) (nI o) bd (nI (cut S (2 ^ a))) (nI best) (nI b) (nI (2 ^ a ||| 2 ^ b)) (nI (cut S (2 ^ a ||| 2 ^ b))) = r68 (nI q) (nI a) (nI e) (nI o) bd (nI (cut S (2 ^ a))) (nI best') (nI (b + 1)) := by
  have h8 := pow8 hN
  have hbe := bears_le (N := N) (bk := bk) (kd := kd) (p := 1) (c := 2 ^ a ||| 2 ^ b) hw
  have hbb := (K_bound _ _ _ hb).1
  have hon := on_le S
  unfold fX4_mostPairs_b155
  by_cases h0 : o = 0
  · refine ⟨best, Nat.le_refl _, hb, fun h => by omega, ?_⟩
    rw [if_pos (show nI o ≤ 0 by rw [h0]; decide), ← nI_succ]
  rw [if_neg (show ¬ nI o ≤ 0 from nI_nle (by omega) (by omega)), bdS (show fX7_of fu borne 1 (nI (2 ^ a ||| 2 ^ b)) = some (nI (bears N bk kd wd 1 (2 ^ a ||| 2 ^ b))) from ofX (p := 1) hB hN hx (by omega))]
  by_cases h1 : q ≤ bears N bk kd wd 1 (2 ^ a ||| 2 ^ b)
  · obtain ⟨v, k1, k2, k3, k4⟩ := hrc (by omega)
    have hv : Kp (fun i x => q ≤ bears N bk kd wd i x) (1 + v) S (ce e o) := by
      rw [Nat.add_comm]
      exact ⟨2 ^ a ||| 2 ^ b, 1, ⟨by omega, hx2, hxs⟩, ⟨by omega, by rw [ce_1]; omega, h1⟩, by rw [dn_1]; exact k3⟩
    refine ⟨max best (1 + v), Nat.le_max_left _ _, ?_, fun _ _ m hm => ?_, ?_⟩
    · by_cases z : 1 + v ≤ best
      · rw [Nat.max_eq_left z]; exact hb
      · rw [Nat.max_eq_right (by omega)]; exact hv
    · rw [dn_1] at hm
      have := k4 m hm
      omega
    · rw [if_neg (nI_nlt h1 (by omega)), ← nI_succ, show nI o - 1 = nI (o - 1) from nI_sub (b := 1) (by omega), bdS k1, show (1 : Int32) + nI v = nI (1 + v) from nI_add 1 v, mxN (by omega) (by omega), ← nI_succ]
  · refine ⟨best, Nat.le_refl _, hb, fun _ h => absurd h h1, ?_⟩
    rw [if_pos (nI_lt (by omega) (by omega)), ← nI_succ]
theorem mostX {N q : Nat} {bk kd wd : Nat → Nat} {borne : Nat → Int32} {fu : Nat} (hfu : 10 ≤ fu) (hB : BT N bk kd wd borne) (hN : N ≤ 8) (hw : ∀ a, a < N → wd a ≤ 9) (hq : q ≤ 36) : ∀ (n a S e o : Nat), 8 - a < n → a ≤ 8 → S < 2 ^ N → (∀ i, S.testBit i = true → a ≤ i) → e ≤ 8 → o ≤ 8 → ∃ v, fX4_mostPairs fu borne n (nI q) (nI a) (nI S) (nI e) (nI o) = some (nI v) ∧ v ≤ 8 ∧ Gr (fun i x => q ≤ bears N bk kd wd i x) S (ce e o) v := by
  have h8 := pow8 hN
  intro n
  induction n with
  | zero => intro a S e o h; omega
  | succ n ih =>
    intro a S e o hn ha hS hSb he ho
    have hon := on_le S
    show ∃ v, fX4_mostPairs_rb fu borne (fX4_mostPairs fu borne n) _ _ _ _ _ = _ ∧ _
    unfold fX4_mostPairs_rb
    rw [bdS (show fJ6_bitCount_0f7a4 fu (nI S) = some (nI (on S)) from popX (by omega)), bdS (show dvI (nI (on S)) 2 = some (nI (on S / 2)) from dvIN (b := 2) (by omega) (by omega) (by omega)), nI_add, mnN (by omega) (by omega)]
    have hbb : ∀ m, Kp (fun i x => q ≤ bears N bk kd wd i x) m S (ce e o) → m ≤ min (on S / 2) (e + o) := fun m hm => by
      have := K_bound _ _ _ hm
      rw [ce_0, ce_1] at this
      omega
    by_cases h1 : 8 ≤ a
    · refine ⟨0, by rw [if_pos (show 8 ≤ nI a from nI_le (a := 8) h1 (by omega))]; rfl, by omega, trivial, fun m hm => ?_⟩
      have hS0 : S = 0 := extb (fun i => by
        rw [Nat.zero_testBit]
        constructor
        · intro z
          have := hSb i z
          have := bit8 (by omega) z
          omega
        · intro z; cases z)
      have := (K_bound _ _ _ hm).1
      rw [hS0, show on 0 = 0 by decide] at this
      omega
    rw [if_neg (show ¬ 8 ≤ nI a from nI_ge (b := 8) (by omega) (by omega))]
    by_cases h2 : min (on S / 2) (e + o) = 0
    · refine ⟨0, by rw [h2, if_neg (show ¬ 0 < nI 0 by decide)]; rfl, by omega, trivial, fun m hm => ?_⟩
      have := hbb m hm
      omega
    rw [if_pos (nIp0 (by omega) (by omega)), bdS (has8 (by omega) (by omega))]
    by_cases h3 : S.testBit a = true
    · rw [h3, if_neg (show ¬ bI true = 0 by decide), nI_shl (by omega), nI_cut (by omega)]
      have haN : a < N := Nat.lt_of_not_le (fun z => by
        rw [Nat.testBit_lt_two_pow (Nat.lt_of_lt_of_le hS (Nat.pow_le_pow_right (by omega) z))] at h3; cases h3)
      have hend := ih (a + 1) (cut S (2 ^ a)) e o (by omega) (by omega) (cut_lt hS) (fun i hi => by
        obtain ⟨z1, z2, z3⟩ := cutb.mp hi
        have := hSb i z2
        by_cases z : a = i
        · rw [bit_pow.mpr z] at z3; cases z3
        · omega) he ho
      have key : ∃ y, fX4_mostPairs_b68 fu borne (fX4_mostPairs fu borne n) fu (nI q) (nI a) (nI e) (nI o) (nI (min (on S / 2) (e + o))) (nI (cut S (2 ^ a))) (nI 0) (nI (a + 1)) = some y ∧ ∃ v, y = nI v ∧ v ≤ 8 ∧ Gr (fun i x => q ≤ bears N bk kd wd i x) S (ce e o) v := by
        refine lpI (N := 8) (k0 := a + 1) (F := fun m b (best : Nat) => fX4_mostPairs_b68 fu borne (fX4_mostPairs fu borne n) m (nI q) (nI a) (nI e) (nI o) (nI (min (on S / 2) (e + o))) (nI (cut S (2 ^ a))) (nI best) (nI b)) (I := fun b best => Kp (fun i x => q ≤ bears N bk kd wd i x) best S (ce e o) ∧ ∀ b', a < b' → b' < b → S.testBit b' = true → ∀ i, i < 2 → 0 < ce e o i → q ≤ bears N bk kd wd i (2 ^ a ||| 2 ^ b') → ∀ m, Kp (fun i x => q ≤ bears N bk kd wd i x) m (cut S (2 ^ a ||| 2 ^ b')) (dn (ce e o) i) → m + 1 ≤ best) ?_ ?_ (7 - a) (a + 1) fu 0 (Nat.le_refl _) ⟨trivial, fun b' z1 z2 => by omega⟩ (by omega) (by omega)
        · rintro m best ⟨i1, i2⟩
          obtain ⟨y, e1, e2⟩ := most_end (fu := fu) (borne := borne) (rc := fX4_mostPairs fu borne n) (by omega) (by omega) h3 hSb rfl hend i1 (Or.inr i2)
          refine ⟨y, ?_, e2⟩
          show fX4_mostPairs_b68_body fu borne _ _ _ _ _ _ _ _ _ _ = _
          unfold fX4_mostPairs_b68_body
          rw [if_pos (show 8 ≤ nI 8 by decide)]
          exact e1
        · rintro m b best hb1 hb2 ⟨i1, i2⟩
          have hbs := hbb _ i1
          by_cases hfull : min (on S / 2) (e + o) ≤ best
          · left
            obtain ⟨y, e1, e2⟩ := most_end (fu := fu) (borne := borne) (rc := fX4_mostPairs fu borne n) (by omega) (by omega) h3 hSb rfl hend i1 (Or.inl hfull)
            refine ⟨y, ?_, e2⟩
            show fX4_mostPairs_b68_body fu borne _ _ _ _ _ _ _ _ _ _ = _
            unfold fX4_mostPairs_b68_body
            rw [if_neg (show ¬ 8 ≤ nI b from nI_ge (b := 8) (by omega) (by omega)), if_pos (nI_le hfull (by omega))]
            exact e1
          right
          have hoth : cut S (2 ^ a) < 2 ^ N := cut_lt hS
          have hothb : (cut S (2 ^ a)).testBit b = S.testBit b := by
            have hf : (2 ^ a).testBit b = false := fal (fun z => by rw [bit_pow] at z; omega)
            rw [cut_bit, decide_eq_true hb2, Bool.true_and, hf]
            simp
          by_cases hSbb : S.testBit b = true
          · have hbN : b < N := Nat.lt_of_not_le (fun z => by
              rw [Nat.testBit_lt_two_pow (Nat.lt_of_lt_of_le hS (Nat.pow_le_pow_right (by omega) z))] at hSbb; cases hSbb)
            have hx : 2 ^ a ||| 2 ^ b < 2 ^ N := Nat.or_lt_two_pow (Nat.pow_lt_pow_right (by omega) haN) (Nat.pow_lt_pow_right (by omega) hbN)
            have hx2 : on (2 ^ a ||| 2 ^ b) = 2 := on_ab a (by omega) b hb2 (by omega)
            have hxs : sb (2 ^ a ||| 2 ^ b) S := fun i hi => by
              rcases bit_pair.mp hi with z | z
              · rw [← z]; exact h3
              · rw [← z]; exact hSbb
            have hleft : cut (cut S (2 ^ a)) (2 ^ a ||| 2 ^ b) = cut S (2 ^ a ||| 2 ^ b) := extb (fun i => by
              rw [cutb, cutb, cutb]
              refine ⟨fun ⟨z1, ⟨_, z2, _⟩, z3⟩ => ⟨z1, z2, z3⟩, fun ⟨z1, z2, z3⟩ => ⟨z1, ⟨z1, z2, fal (fun z4 => ?_)⟩, z3⟩⟩
              rw [bit_pow] at z4
              rw [bit_pair.mpr (Or.inl z4)] at z3
              cases z3)
            have hlb : ∀ i, (cut S (2 ^ a ||| 2 ^ b)).testBit i = true → a + 1 ≤ i := fun i hi => by
              obtain ⟨z1, z2, z3⟩ := cutb.mp hi
              have := hSb i z2
              by_cases z : a = i
              · rw [bit_pair.mpr (Or.inl z)] at z3; cases z3
              · omega
            have hbe := bears_le (N := N) (bk := bk) (kd := kd) (p := 0) (c := 2 ^ a ||| 2 ^ b) hw
            have even : ∃ best1, best ≤ best1 ∧ Kp (fun i x => q ≤ bears N bk kd wd i x) best1 S (ce e o) ∧ (0 < e → q ≤ bears N bk kd wd 0 (2 ^ a ||| 2 ^ b) → ∀ m, Kp (fun i x => q ≤ bears N bk kd wd i x) m (cut S (2 ^ a ||| 2 ^ b)) (dn (ce e o) 0) → m + 1 ≤ best1) ∧ fX4_mostPairs_b68 fu borne (fX4_mostPairs fu borne n) (m + 1) (nI q) (nI a) (nI e) (nI o) (nI (min (on S / 2) (e + o))) (nI (cut S (2 ^ a))) (nI best) (nI b) = fX4_mostPairs_b155 fu borne (fX4_mostPairs fu borne n) (fX4_mostPairs_b68 fu borne (fX4_mostPairs fu borne n) m) (nI q) (nI a) (nI e) (nI o) (nI (min (on S / 2) (e + o))) (nI (cut S (2 ^ a))) (nI best1) (nI b) (nI (2 ^ a ||| 2 ^ b)) (nI (cut S (2 ^ a ||| 2 ^ b))) := by
              have e0 : fX4_mostPairs_b68 fu borne (fX4_mostPairs fu borne n) (m + 1) (nI q) (nI a) (nI e) (nI o) (nI (min (on S / 2) (e + o))) (nI (cut S (2 ^ a))) (nI best) (nI b) = if nI e ≤ 0 then fX4_mostPairs_b155 fu borne (fX4_mostPairs fu borne n) (fX4_mostPairs_b68 fu borne (fX4_mostPairs fu borne n) m) (nI q) (nI a) (nI e) (nI o) (nI (min (on S / 2) (e + o))) (nI (cut S (2 ^ a))) (nI best) (nI b) (nI (2 ^ a ||| 2 ^ b)) (nI (cut S (2 ^ a ||| 2 ^ b))) else if nI (bears N bk kd wd 0 (2 ^ a ||| 2 ^ b)) < nI q then fX4_mostPairs_b155 fu borne (fX4_mostPairs fu borne n) (fX4_mostPairs_b68 fu borne (fX4_mostPairs fu borne n) m) (nI q) (nI a) (nI e) (nI o) (nI (min (on S / 2) (e + o))) (nI (cut S (2 ^ a))) (nI best) (nI b) (nI (2 ^ a ||| 2 ^ b)) (nI (cut S (2 ^ a ||| 2 ^ b))) else (fX4_mostPairs fu borne n (nI q) (nI a + 1) (nI (cut S (2 ^ a ||| 2 ^ b))) (nI e - 1) (nI o)).bind fun v20 => fX4_mostPairs_b155 fu borne (fX4_mostPairs fu borne n) (fX4_mostPairs_b68 fu borne (fX4_mostPairs fu borne n) m) (nI q) (nI a) (nI e) (nI o) (nI (min (on S / 2) (e + o))) (nI (cut S (2 ^ a))) (mx (nI best) (1 + v20)) (nI b) (nI (2 ^ a ||| 2 ^ b)) (nI (cut S (2 ^ a ||| 2 ^ b))) := by
                show fX4_mostPairs_b68_body fu borne _ _ _ _ _ _ _ _ _ _ = _
                unfold fX4_mostPairs_b68_body
                rw [if_neg (show ¬ 8 ≤ nI b from nI_ge (b := 8) (by omega) (by omega)), if_neg (show ¬ nI (min (on S / 2) (e + o)) ≤ nI best from nI_ge (by omega) (by omega)), bdS (has8 (by omega) (by omega)), hothb, hSbb, if_neg (show ¬ bI true = 0 by decide), nI_shl (by omega), nI_shl (by omega), nI_or, nI_cut (by omega), hleft, bdS (show fX7_of fu borne 0 (nI (2 ^ a ||| 2 ^ b)) = some (nI (bears N bk kd wd 0 (2 ^ a ||| 2 ^ b))) from ofX (p := 0) hB hN hx (by omega))]
              rw [e0]
              by_cases z0 : e = 0
              · exact ⟨best, Nat.le_refl _, i1, fun z => by omega, by rw [if_pos (show nI e ≤ 0 by rw [z0]; decide)]⟩
              rw [if_neg (show ¬ nI e ≤ 0 from nI_nle (by omega) (by omega))]
              by_cases z1 : q ≤ bears N bk kd wd 0 (2 ^ a ||| 2 ^ b)
              · obtain ⟨v, k1, k2, k3, k4⟩ := ih (a + 1) (cut S (2 ^ a ||| 2 ^ b)) (e - 1) o (by omega) (by omega) (cut_lt hS) hlb (by omega) ho
                have hv : Kp (fun i x => q ≤ bears N bk kd wd i x) (1 + v) S (ce e o) := by
                  rw [Nat.add_comm]
                  exact ⟨2 ^ a ||| 2 ^ b, 0, ⟨by omega, hx2, hxs⟩, ⟨by omega, by rw [ce_0]; omega, z1⟩, by rw [dn_0]; exact k3⟩
                refine ⟨max best (1 + v), Nat.le_max_left _ _, ?_, fun _ _ m hm => ?_, ?_⟩
                · by_cases z : 1 + v ≤ best
                  · rw [Nat.max_eq_left z]; exact i1
                  · rw [Nat.max_eq_right (by omega)]; exact hv
                · rw [dn_0] at hm
                  have := k4 m hm
                  omega
                · rw [if_neg (nI_nlt z1 (by omega)), ← nI_succ, show nI e - 1 = nI (e - 1) from nI_sub (b := 1) (by omega), bdS k1, show (1 : Int32) + nI v = nI (1 + v) from nI_add 1 v, mxN (by omega) (by omega)]
              · exact ⟨best, Nat.le_refl _, i1, fun _ h => absurd h z1, by rw [if_pos (nI_lt (by omega) (by omega))]⟩
            obtain ⟨best1, j1, j2, j3, j4⟩ := even
            obtain ⟨best2, g1, g2, g3, g4⟩ := most_odd (fu := fu) (bd := nI (min (on S / 2) (e + o))) (rc := fX4_mostPairs fu borne n) (r68 := fX4_mostPairs_b68 fu borne (fX4_mostPairs fu borne n) m) (a := a) (b := b) (e := e) hB hN hw hq hx hx2 hxs ho (fun _ => ih (a + 1) (cut S (2 ^ a ||| 2 ^ b)) e (o - 1) (by omega) (by omega) (cut_lt hS) hlb he (by omega)) j2
            refine ⟨best2, ⟨g2, fun b' z1 z2 z3 i z4 z5 z6 m' z7 => ?_⟩, j4.trans g4⟩
            by_cases eb : b' = b
            · subst eb
              rcases (by omega : i = 0 ∨ i = 1) with rfl | rfl
              · have := j3 z5 z6 m' z7; omega
              · exact g3 z5 z6 m' z7
            · have := i2 b' z1 (by omega) z3 i z4 z5 z6 m' z7
              omega
          · refine ⟨best, ⟨i1, fun b' z1 z2 z3 i z4 z5 z6 m' z7 => ?_⟩, ?_⟩
            · by_cases eb : b' = b
              · subst eb; exact absurd z3 hSbb
              · exact i2 b' z1 (by omega) z3 i z4 z5 z6 m' z7
            · show fX4_mostPairs_b68_body fu borne _ _ _ _ _ _ _ _ _ _ = _
              unfold fX4_mostPairs_b68_body
              rw [if_neg (show ¬ 8 ≤ nI b from nI_ge (b := 8) (by omega) (by omega)), if_neg (show ¬ nI (min (on S / 2) (e + o)) ≤ nI best from nI_ge (by omega) (by omega)), bdS (has8 (by omega) (by omega)), hothb, fal hSbb, if_pos (show bI false = 0 by decide), ← nI_succ]
      obtain ⟨y, k1, v, rfl, k2⟩ := key
      refine ⟨v, ?_, k2⟩
      rw [← k1, nI_succ]
      rfl
    · rw [fal h3, if_pos (show bI false = 0 by decide), ← nI_succ]
      obtain ⟨v, k1, k2⟩ := ih (a + 1) S e o (by omega) (by omega) hS (fun i hi => by
        have := hSb i hi
        by_cases z : a = i
        · subst z; exact absurd hi h3
        · omega) he ho
      exact ⟨v, by rw [bdS k1], k2⟩
theorem heldX {N P q : Nat} {bk kd wd : Nat → Nat} {borne : Nat → Int32} {planks size : Int32} {fu : Nat} (hfu : 10 ≤ fu) (hB : BT N bk kd wd borne) (hN : N ≤ 8) (hP : P ≤ 8) (hpl : planks = nI P) (hsz : size = nI N) (hw : ∀ a, a < N → wd a ≤ 9) (hq : q ≤ 36) : ∃ v, fX4_mostHeld fu planks size borne (nI q) = some (nI v) ∧ Gr (fun i x => q ≤ bears N bk kd wd i x) (2 ^ N - 1) (ce (P - P / 2) (P / 2)) v := by
  have h1 := pow0 N
  obtain ⟨v, k1, -, k2⟩ := mostX (fu := fu) (q := q) hfu hB hN hw hq 10 0 (2 ^ N - 1) (P - P / 2) (P / 2) (by omega) (by omega) (by omega) (fun _ _ => Nat.zero_le _) (by omega) (by omega)
  refine ⟨v, ?_, k2⟩
  unfold fX4_mostHeld
  rw [hpl, hsz, bdS (show dvI (nI P) 2 = some (nI (P / 2)) from dvIN (b := 2) (by omega) (by omega) (by omega)), bdS (everyX hN), show nI P - nI (P / 2) = nI (P - P / 2) from nI_sub (by omega), bdS (show fX4_mostPairs fu borne 10 (nI q) 0 (nI (2 ^ N - 1)) (nI (P - P / 2)) (nI (P / 2)) = _ from k1)]
