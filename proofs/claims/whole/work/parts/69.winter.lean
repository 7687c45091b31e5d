-- winter
theorem rmLN {a b : Nat} (ha : a < 2 ^ 63) (h0 : 0 < b) (hb : b < 2 ^ 63) : rmL (lN a) (lN b) = some (lN (a % b)) := by
  unfold rmL
  rw [if_neg (show ¬ lN b = 0 from fun h => by have := (pk_lEQ (a := b) (b := 0) hb (by omega)).mp h; omega), pk_lRem ha h0 hb]
theorem dvLN {a b : Nat} (ha : a < 2 ^ 63) (h0 : 0 < b) (hb : b < 2 ^ 63) : dvL (lN a) (lN b) = some (lN (a / b)) := by
  unfold dvL
  rw [if_neg (show ¬ lN b = 0 from fun h => by have := (pk_lEQ (a := b) (b := 0) hb (by omega)).mp h; omega), pk_lDiv ha h0 hb]
theorem turn_w {N P d x y : Nat} {bk kd wd sl : Nat → Nat} {t came under due r w bank kind word slow : Nat → Int32} {planks size sworn : Int32} {fu : Nat} (hfu : 67 ≤ fu) (hT : TR N P bk kd wd sl t) (hF : FR N P bk kd wd sl planks size sworn bank kind word slow) (hR : PR N P d x came under due w) (hd : d < 2 ^ 29) (hy : y < 2 ^ 31) : ∃ came' under' due' w', PR N P d x came' under' due' w' ∧ fX1_turnOne fu size planks (nI d) slow bank came under due (lN y) = some (came', under', due') ∧ ∀ (r48 : Int32 → Int32 → Int64 → Int32 → Int32 → (Nat → Int32) → Int32 → Option (Int32 × (Nat → Int32) × Int32)) (l1 l3 l6 l7 th : Int32) (z : Int64), ¬ l1 ≤ l7 → rmL (z * 16807) 2147483647 = some (lN y) → fX9_winter_b48_body fu r t r48 l1 l3 z l6 l7 w th = fX9_winter_b155 fu r t r48 l1 l3 (lN y) l6 l7 w' th := by
  obtain ⟨hP1, hP8, hN⟩ := hT.1.2.2
  by_cases h0 : N = 0
  · refine ⟨came, under, due, w, hR, ?_, ?_⟩
    · unfold fX1_turnOne
      rw [if_pos (show size ≤ 0 by rw [hF.1.2.1, h0]; decide)]
    · intro r48 l1 l3 l6 l7 th z hl hz
      unfold fX9_winter_b48_body
      rw [if_neg hl, bdS hz, bdS hT.n, if_pos (show nI N ≤ 0 by rw [h0]; decide)]
  have ea : rmL (lN y) (nI N).toInt64 = some (lN (y % N)) := by
    rw [nI_l (by omega)]; exact rmLN (by omega) (by omega) (by omega)
  have e8 : dvL (lN y) 8 = some (lN (y / 8)) := dvLN (b := 8) (by omega) (by omega) (by omega)
  have ep : rmL (lN (y / 8)) (nI P).toInt64 = some (lN (y / 8 % P)) := by
    rw [nI_l (by omega)]; exact rmLN (by omega) (by omega) (by omega)
  have ha : y % N < N := Nat.mod_lt _ (by omega)
  have hp : y / 8 % P < P := Nat.mod_lt _ (by omega)
  generalize y % N = a at ea ha
  generalize y / 8 % P = p at ep hp
  have hsl := (hT.wf.2 a ha).2.2.2
  by_cases hw : w (2 + 8 * a + p) = 0
  · refine ⟨came, _, _, _, PR_post hR hN hP8 (by omega) ha hp hw (cmD_in (N := N) (d := d) (bk := bk) (r := w) (p := p) hsl), ?_, ?_⟩
    · unfold fX1_turnOne
      rw [if_neg (show ¬ size ≤ 0 by rw [hF.1.2.1]; exact nI_nle (by omega) (by omega)), if_pos (show 0 < planks by rw [hF.1.1]; exact nIp0 (by omega) (by omega)), bdS (show rmL (lN y) size.toInt64 = _ by rw [hF.1.2.1]; exact ea), bdS e8, bdS (show rmL (lN (y / 8)) planks.toInt64 = _ by rw [hF.1.1]; exact ep), lN_i, lN_i, bdS (gaveX hR hN (by omega) ha (by omega)), hw, if_pos (by decide), postX (by omega) hT.wf hF (hR.2.1 p (by omega)).2 ha (by omega)]
      rfl
    · intro r48 l1 l3 l6 l7 th z hl hz
      unfold fX9_winter_b48_body
      rw [if_neg hl, bdS hz, bdS hT.n, if_neg (show ¬ nI N ≤ 0 from nI_nle (by omega) (by omega)), bdS hT.n, bdS ea, bdS e8, bdS hT.p, bdS ep, lN_i, lN_i, ix9, bdS (rdN (by omega) (by decide)), if_pos hw, posts9 (by omega) hT hR.1.1 ha (by omega)]
      rfl
  · have hg : decide (w (2 + 8 * a + p) ≠ 0) = true := by simp [hw]
    refine ⟨_, _, due, _, PR_drop hR hN hP8 ha hp, ?_, ?_⟩
    · unfold fX1_turnOne
      rw [if_neg (show ¬ size ≤ 0 by rw [hF.1.2.1]; exact nI_nle (by omega) (by omega)), if_pos (show 0 < planks by rw [hF.1.1]; exact nIp0 (by omega) (by omega)), bdS (show rmL (lN y) size.toInt64 = _ by rw [hF.1.2.1]; exact ea), bdS e8, bdS (show rmL (lN (y / 8)) planks.toInt64 = _ by rw [hF.1.1]; exact ep), lN_i, lN_i, bdS (gaveX hR hN (by omega) ha (by omega)), hg, if_neg (show ¬ bI true = 0 by decide), dropX hN (hR.2.1 p (by omega)).1 (hR.2.1 p (by omega)).2 (by omega) (by omega)]
      rfl
    · intro r48 l1 l3 l6 l7 th z hl hz
      unfold fX9_winter_b48_body
      rw [if_neg hl, bdS hz, bdS hT.n, if_neg (show ¬ nI N ≤ 0 from nI_nle (by omega) (by omega)), bdS hT.n, bdS ea, bdS e8, bdS hT.p, bdS ep, lN_i, lN_i, ix9, bdS (rdN (by omega) (by decide)), if_neg hw, bdS (wrN (by omega) (by decide))]
theorem winterL {N P x q D : Nat} {bk kd wd sl : Nat → Nat} {t r bank kind word slow borne pcm pu pdu : Nat → Int32} {planks size sworn pd pc cr : Int32} {fu : Nat} (hfu : 67 ≤ fu) (hT : TR N P bk kd wd sl t) (hF : FR N P bk kd wd sl planks size sworn bank kind word slow) (hB : BT N bk kd wd borne) (hq : q ≤ 36) (hD : D ≤ 60) : ∀ (m k n d y b : Nat) (came under due w : Nat → Int32), D = k + m → m < n → d + m < 2000 → y < 2 ^ 31 → PR N P d x came under due w → ∃ v c' u' du' dy' w', fX1_daysBorne_b21 fu pd pc pcm pu pdu size planks slow bank borne n (nI D) (nI q) (lN y) (nI b) (nI k) came under due (nI d) cr = some (v, c', u', du', dy', cr) ∧ fX9_winter_b48 fu r t n (nI D) (nI q) (lN y) (nI b) (nI k) w 0 = some (v, w', 0) := by
  obtain ⟨hP1, hP8, hN⟩ := hT.1.2.2
  have hw9 : ∀ a, a < N → wd a ≤ 9 := fun a ha => (hT.wf.2 a ha).2.2.1.2
  intro m
  induction m with
  | zero =>
    intro k n d y b came under due w e hn hd hy hR
    obtain ⟨n, rfl⟩ : ∃ n', n = n' + 1 := ⟨n - 1, by omega⟩
    refine ⟨nI b, came, under, due, nI d, w, ?_, ?_⟩
    · show fX1_daysBorne_b21_body fu pd pc pcm pu pdu size planks slow bank borne _ _ _ _ _ _ _ _ _ _ _ = _
      unfold fX1_daysBorne_b21_body
      rw [if_pos (nI_le (by omega) (by omega))]
    · show fX9_winter_b48_body fu r t _ _ _ _ _ _ _ _ = _
      unfold fX9_winter_b48_body
      rw [if_pos (nI_le (by omega) (by omega))]
  | succ m ih =>
    intro k n d y b came under due w e hn hd hy hR
    obtain ⟨n, rfl⟩ : ∃ n', n = n' + 1 := ⟨n - 1, by omega⟩
    have hz : rmL (lN y * 16807) 2147483647 = some (lN (y * 16807 % 2147483647)) := by
      rw [show lN y * 16807 = lN (y * 16807) from lN_mul y 16807]
      exact rmLN (b := 2147483647) (by omega) (by omega) (by omega)
    have hy2 : y * 16807 % 2147483647 < 2 ^ 31 := by omega
    generalize y * 16807 % 2147483647 = y2 at hz hy2
    obtain ⟨c1, u1, d1, w1, hR1, h1, h2⟩ := turn_w (r := r) hfu hT hF hR (by omega) hy2
    obtain ⟨c2, u2, h3, hR2⟩ := passX (fu := fu) (by omega) hR1 hN (by omega)
    have hb := brX0 (fu := fu) (by omega) hT hF hB hR2
    have hb9 := bridge9 hT (r := go w1 d) (fu := fu) (by omega)
    have hble := brg_le (N := N) (P := P) (bk := bk) (kd := kd) (wd := wd) (C := cs N (go w1 d)) hP1 hw9
    have e1 : fX1_daysBorne_b21 fu pd pc pcm pu pdu size planks slow bank borne (n + 1) (nI D) (nI q) (lN y) (nI b) (nI k) came under due (nI d) cr = if nI (brg N P bk kd wd (cs N (go w1 d))) < nI q then fX1_daysBorne_b21 fu pd pc pcm pu pdu size planks slow bank borne n (nI D) (nI q) (lN y2) (nI b) (nI k + 1) c2 u2 d1 (nI (d + 1)) cr else fX1_daysBorne_b21 fu pd pc pcm pu pdu size planks slow bank borne n (nI D) (nI q) (lN y2) (nI b + 1) (nI k + 1) c2 u2 d1 (nI (d + 1)) cr := by
      show fX1_daysBorne_b21_body fu pd pc pcm pu pdu size planks slow bank borne _ _ _ _ _ _ _ _ _ _ _ = _
      unfold fX1_daysBorne_b21_body
      rw [if_neg (nI_ge (by omega) (by omega)), bdS hz, h1]
      show ((fX5_pass fu d1 (nI d) c1 u1).bind fun (v13, g14, g15, g16) => _) = _
      rw [h3]
      show ((fX7_bridge fu c2 borne planks 0).bind fun v17 => _) = _
      rw [bdS hb]
    have e2 : fX9_winter_b48 fu r t (n + 1) (nI D) (nI q) (lN y) (nI b) (nI k) w 0 = if nI (brg N P bk kd wd (cs N (go w1 d))) < nI q then fX9_winter_b48 fu r t n (nI D) (nI q) (lN y2) (nI b) (nI k + 1) (go w1 d) 0 else fX9_winter_b48 fu r t n (nI D) (nI q) (lN y2) (nI b + 1) (nI k + 1) (go w1 d) 0 := by
      show fX9_winter_b48_body fu r t _ _ _ _ _ _ _ _ = _
      rw [h2 _ _ _ _ _ _ _ (nI_ge (by omega) (by omega)) hz]
      unfold fX9_winter_b155
      rw [goes9 (by omega) hR1.1.1]
      show ((fX9_bridge fu t (go w1 d)).bind fun v15 => _) = _
      rw [bdS hb9, Int32.add_zero]
    rw [e1, e2]
    by_cases h : q ≤ brg N P bk kd wd (cs N (go w1 d))
    · rw [if_neg (nI_nlt h (by omega)), if_neg (nI_nlt h (by omega)), ← nI_succ, ← nI_succ]
      exact ih (k + 1) n (d + 1) y2 (b + 1) c2 u2 d1 (go w1 d) (by omega) (by omega) (by omega) hy2 hR2
    · rw [if_pos (nI_lt (by omega) (by omega)), if_pos (nI_lt (by omega) (by omega)), ← nI_succ]
      exact ih (k + 1) n (d + 1) y2 b c2 u2 d1 (go w1 d) (by omega) (by omega) (by omega) hy2 hR2
theorem q_winter {N P : Nat} {bk kd wd sl : Nat → Nat} {day crossed th planks size sworn td tc : Int32} {t came under due r bank kind word slow borne w tcm tu tdu : Nat → Int32} {fu : Nat} (hfu : 67 ≤ fu) (hT : TR N P bk kd wd sl t) (hF : FR N P bk kd wd sl planks size sworn bank kind word slow) (hB : BT N bk kd wd borne) (hS : ST N P day crossed came under due r) (n s l : Int32) : ∃ v c' u' du' dy' cr' w', fX8_winter fu day crossed came under due size planks slow bank borne tcm tu tdu td tc n s l = some (v, c', u', du', dy', cr') ∧ fX9_winter fu r t w th n s l = some (v, w', 0) := by
  obtain ⟨hP1, hP8, hN⟩ := hT.1.2.2
  obtain ⟨d, x, hd, hx, ed, ex, hR⟩ := id hS
  unfold fX8_winter fX9_winter
  rcases rng (fu := fu) (x := n) (lo := 0) (hi := 60) with ⟨a1, a2, -⟩ | ⟨a1, a2, a3, a4⟩
  · exact ⟨-1, tcm, tu, tdu, td, tc, w, by rw [bdS a2]; rfl, by rw [bdS a1]; rfl⟩
  rw [bdS a2, bdS a1, if10, if10]
  rcases rng (fu := fu) (x := s) (lo := 1) (hi := 999999) with ⟨b1, b2, -⟩ | ⟨b1, b2, b3, b4⟩
  · exact ⟨-1, tcm, tu, tdu, td, tc, w, by rw [bdS b2]; rfl, by rw [bdS b1]; rfl⟩
  rw [bdS b2, bdS b1, if10, if10]
  rcases load1 (fu := fu) (x := l) with ⟨l1, l2⟩ | ⟨l1, l2, q, hq1, hq2, rfl⟩
  · exact ⟨-1, tcm, tu, tdu, td, tc, w, by rw [bdS l2]; rfl, by rw [bdS l1]; rfl⟩
  rw [bdS l2, bdS l1, if10, if10]
  obtain ⟨D, hD1, rfl⟩ := nI_of a3
  have hD : D ≤ 60 := Nat.le_of_not_lt (fun h => a4 (nI_lt (a := 60) h hD1))
  have s0 : ¬ s < 0 := fun h => b3 (Int32.lt_trans h (by decide))
  obtain ⟨y, hy, rfl⟩ := nI_of s0
  obtain ⟨w1, hw1, hw2⟩ := asNow9 (fu := fu) (r := r) (w := w) hfu
  have hR1 : PR N P d x (va_cpy came tcm 0 0 8) (va_cpy under tu 0 0 8) (va_cpy due tdu 0 0 64) w1 := PR_congr hN hR (fun p hp => cpy8 _ _ hp) (fun p hp => cpy8 _ _ hp) (fun p hp => cpy8 _ _ hp) hw2
  obtain ⟨v, c', u', du', dy', w', h1, h2⟩ := winterL (fu := fu) (q := q) (D := D) (pd := day) (pc := crossed) (pcm := came) (pu := under) (pdu := due) (cr := crossed) (r := r) hfu hT hF hB hq2 hD D 0 fu d y 0 _ _ _ _ (by omega) (by omega) (by omega) hy hR1
  refine ⟨v, c', u', du', dy', crossed, w', ?_, ?_⟩
  · have e : fX1_daysBorne fu day crossed came under due size planks slow bank borne tcm tu tdu td tc (nI D) (nI y) (nI q) = some (v, c', u', du', dy', crossed) := by
      unfold fX1_daysBorne fX5_become
      rw [nI_l hy, ed]
      rw [ed] at h1
      exact h1
    rw [e]
    rfl
  · rw [bdS hw1, nI_l hy]
    exact h2
