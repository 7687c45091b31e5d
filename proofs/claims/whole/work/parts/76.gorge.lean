-- a promise that came
theorem lastN {N w : Nat} (hN : N ≤ 8) (hw : w < 2 ^ 31) (h : ¬ nI N - 1 < nI w) : w < N := by
  rcases N with _ | n
  · exact absurd (Int32.lt_of_lt_of_le (show nI 0 - 1 < 0 by decide) (nI_pos' hw)) h
  · rw [nI_pred] at h
    exact Nat.lt_of_not_le (fun z => h (nI_lt (by omega) hw))
theorem prom {fu k N P e pl1 e1 w1 : Nat} {L T : Nat → Int32} {c : Nat → Nat} {bk kd wd sl : Nat → Nat} {ct1 rt1 v1 planks size sworn : Int32} {dr dn bank kind word slow tc : Nat → Int32} (hfu : 130 ≤ fu) (h : LC k L T c) (hR : DR N P bk kd wd sl dr dn planks size sworn bank kind word slow tc) (hD : DT fu k L e pl1 e1 ct1 rt1 w1 v1) : (∃ f tk v p a, f ≤ k ∧ (∀ cv cp t0, ∃ at' v' t', fX6_readPromise fu size (nI k) L planks (nI e) cv cp t0 tc = some (0, at', v', nI f, t', tc)) ∧ fX9_readsItem fu (nI k) T rt1 v1 (-1) (nI pl1) (nI e1) dr dn 120 = some (tk, v, nI f, p, a, dr, dn)) ∨ (∃ e2 a p pl3 e3 ct3 rt3 w3 v3, (e < e2 ∧ e2 ≤ k) ∧ (a < N ∧ p < P ∧ dn (2 + 8 * a + p) = 0) ∧ DT fu k L e2 pl3 e3 ct3 rt3 w3 v3 ∧ (∀ cv cp t0, ∃ v' p' t', fX6_readPromise fu size (nI k) L planks (nI e) cv cp t0 tc = some (1, nI e2, v', p', t', upd tc p (nI (cs N dn p ||| 2 ^ a)))) ∧ fX9_readsItem fu (nI k) T rt1 v1 (-1) (nI pl1) (nI e1) dr dn 120 = some (rt3, v3, -1, nI pl3, nI e3, dr, upd dn (2 + 8 * a + p) (-1))) := by
  have hk := h.1
  obtain ⟨hT, hF, hP⟩ := id hR
  obtain ⟨hP1, hP8, hN⟩ := hT.1.2.2
  have h8 := pow8 hN
  obtain ⟨hX, hV⟩ := id hD
  obtain ⟨-, ⟨hX2, hX3, hX4⟩, hX5⟩ := id hX
  obtain ⟨t1, t2, -⟩ := tk2 hX5
  have r0 : fX9_readsItem fu (nI k) T rt1 v1 (-1) (nI pl1) (nI e1) dr dn 120 = ((fX9_number fu (nI k) T rt1 v1 (-1) (nI pl1) (nI e1) 0 (nI N - 1)).bind fun (v34, g35, g36, g37, g38, g39) => (fX9_isWell fu g37).bind fun v40 => (if v40 = 0 then fX9_readsItem_b100 fu (nI k) T v34 0 g35 g36 g37 g38 g39 dr dn else (if g35 = 2 then (rd 34 dr 0).bind fun v51 => (fX9_in fu g36 0 (v51 - 1)).bind fun v52 => (if v52 = 0 then fX9_readsItem_b100 fu (nI k) T v34 0 g35 g36 g37 g38 g39 dr dn else (rd 66 dn ((2 + (8 * v34)) + g36)).bind fun v54 => (if v54 = 0 then fX9_readsItem_b100 fu (nI k) T v34 1 g35 g36 g37 g38 g39 dr dn else fX9_readsItem_b100 fu (nI k) T v34 0 g35 g36 g37 g38 g39 dr dn)) else fX9_readsItem_b100 fu (nI k) T v34 0 g35 g36 g37 g38 g39 dr dn))) := by
    unfold fX9_readsItem
    rw [if_neg (show ¬ (120 : Int32) = 110 by decide), if_pos (show (120 : Int32) = 120 from rfl), bdS hT.n]
  by_cases hn1 : rt1 ≠ 2 ∨ nI w1 < 0 ∨ nI N - 1 < nI w1
  · left
    have r1 := num0 (fu := fu) (ty := nI k) (T := T) (p := nI pl1) (a := nI e1) (w := w1) (v := v1) (lo := 0) (hi := nI N - 1) (fun z => hV (by rw [z]; decide) (by rw [z]; decide)) hn1
    refine ⟨pl1, rt1, v1, nI pl1, nI e1, by omega, fun cv cp t0 => ?_, ?_⟩
    · obtain ⟨v'', g2⟩ := cnum0 hX hn1 cv cp t0
      refine ⟨nI e1, v'', ct1, ?_⟩
      unfold fX6_readPromise
      rw [hF.1.2.1, g2]
      rfl
    · rw [r0, r1]
      show ((fX9_isWell fu (nI pl1)).bind _) = _
      rw [bdS (show fX9_isWell fu (nI pl1) = some 0 by unfold fX9_isWell; rw [if_pos (nI_pos' (by omega))]), if00]
      unfold fX9_readsItem_b100
      rw [takeF (by omega)]
      rfl
  have z1 : rt1 = 2 := Decidable.byContradiction (fun z => hn1 (Or.inl z))
  have z2 : ¬ nI w1 < 0 := fun z => hn1 (Or.inr (Or.inl z))
  have z3 : ¬ nI N - 1 < nI w1 := fun z => hn1 (Or.inr (Or.inr z))
  obtain ⟨w99, hlt⟩ := t2 z1
  have hwN := lastN hN (by omega) z3
  have hv1 : v1 = nI w1 := hV (by rw [z1]; decide) (by rw [z1]; decide)
  obtain ⟨pl2, e2, ct2, rt2, w2, v2, hD2, r2⟩ := num1 (p := nI pl1) (lo := 0) (hi := nI N - 1) hfu h hX4 z1 hv1 z2 z3
  obtain ⟨hX', hV2⟩ := id hD2
  obtain ⟨-, ⟨q1, q2, q3⟩, q5⟩ := id hX'
  obtain ⟨s1, s2, -⟩ := tk2 q5
  have r3 : fX9_readsItem fu (nI k) T rt1 v1 (-1) (nI pl1) (nI e1) dr dn 120 = (if rt2 = 2 then (rd 34 dr 0).bind fun v51 => (fX9_in fu v2 0 (v51 - 1)).bind fun v52 => (if v52 = 0 then fX9_readsItem_b100 fu (nI k) T (nI w1) 0 rt2 v2 (-1) (nI pl2) (nI e2) dr dn else (rd 66 dn ((2 + (8 * nI w1)) + v2)).bind fun v54 => (if v54 = 0 then fX9_readsItem_b100 fu (nI k) T (nI w1) 1 rt2 v2 (-1) (nI pl2) (nI e2) dr dn else fX9_readsItem_b100 fu (nI k) T (nI w1) 0 rt2 v2 (-1) (nI pl2) (nI e2) dr dn)) else fX9_readsItem_b100 fu (nI k) T (nI w1) 0 rt2 v2 (-1) (nI pl2) (nI e2) dr dn) := by
    rw [r0, r2]
    rfl
  have c0 : ∀ cv cp t0, fX6_readPromise fu size (nI k) L planks (nI e) cv cp t0 tc = ((fX6_readNumber fu (nI k) L (nI e1) (nI w1) (nI pl1) ct1 0 (nI P - 1)).bind fun (v7, g8, g9, g10, g11) => (if v7 = 0 then some ((0 : Int32), g8, g9, g10, g11, tc) else (rd 8 tc g9).bind fun v13 => (fX8_has fu v13 (nI w1)).bind fun v14 => (if v14 = 0 then (rd 8 tc g9).bind fun v16 => (wr 8 tc g9 (v16 ||| ((1 : Int32) <<< (nI w1 &&& 31)))).bind fun g17 => some ((1 : Int32), g8, g9, g10, g11, g17) else some ((0 : Int32), g8, g9, g10, g11, tc)))) := fun cv cp t0 => by
    unfold fX6_readPromise
    rw [hF.1.2.1, hF.1.1, cnum1 hX z1 z2 z3 cv cp t0]
    rfl
  have bad : fX9_readsItem_b100 fu (nI k) T (nI w1) 0 rt2 v2 (-1) (nI pl2) (nI e2) dr dn = some (rt2, v2, nI pl2, nI pl2, nI e2, dr, dn) := rfl
  by_cases hn2 : rt2 ≠ 2 ∨ nI w2 < 0 ∨ nI P - 1 < nI w2
  · left
    refine ⟨pl2, rt2, v2, nI pl2, nI e2, by omega, fun cv cp t0 => ?_, ?_⟩
    · obtain ⟨v'', g2⟩ := cnum0 hX' hn2 (nI w1) (nI pl1) ct1
      refine ⟨nI e2, v'', ct2, ?_⟩
      rw [c0, g2]
      rfl
    · rw [r3, bad]
      by_cases y1 : rt2 = 2
      · have hv2 : v2 = nI w2 := hV2 (by rw [y1]; decide) (by rw [y1]; decide)
        rw [if_pos y1, bdS hT.p, hv2]
        rcases rng (fu := fu) (x := nI w2) (lo := 0) (hi := nI P - 1) with ⟨y2, -, -⟩ | ⟨-, -, y3, y4⟩
        · rw [bdS y2, if00]
        · rcases hn2 with y | y | y
          · exact absurd y1 y
          · exact absurd y y3
          · exact absurd y y4
      · rw [if_neg y1]
  have y1 : rt2 = 2 := Decidable.byContradiction (fun z => hn2 (Or.inl z))
  have y2 : ¬ nI w2 < 0 := fun z => hn2 (Or.inr (Or.inl z))
  have y3 : ¬ nI P - 1 < nI w2 := fun z => hn2 (Or.inr (Or.inr z))
  obtain ⟨w99', hlt'⟩ := s2 y1
  have hwP := lastN hP8 (by omega) y3
  have hv2 : v2 = nI w2 := hV2 (by rw [y1]; decide) (by rw [y1]; decide)
  have hin : fX9_in fu (nI w2) 0 (nI P - 1) = some 1 := by
    rcases rng (fu := fu) (x := nI w2) (lo := 0) (hi := nI P - 1) with ⟨-, -, y5⟩ | ⟨y5, -, -⟩
    · rcases y5 with y | y
      · exact absurd y y2
      · exact absurd y y3
    · exact y5
  have htc := (hP.2.1 w2 (by omega)).1
  have hcs := cs_lt N dn w2
  have hbit : (cs N dn w2).testBit w1 = decide (dn (2 + 8 * w1 + w2) = -1) := by
    rw [cs_bit, decide_eq_true hwN, Bool.true_and]
  have c1 : ∀ cv cp t0, fX6_readPromise fu size (nI k) L planks (nI e) cv cp t0 tc = if bI (decide (dn (2 + 8 * w1 + w2) = -1)) = 0 then some (1, nI e2, nI w2, nI pl2, ct2, upd tc w2 (nI (cs N dn w2 ||| 2 ^ w1))) else some (0, nI e2, nI w2, nI pl2, ct2, tc) := fun cv cp t0 => by
    rw [c0, cnum1 hX' y1 y2 y3]
    show ((rd 8 tc (nI w2)).bind _) = _
    rw [bdS (rdN (by omega) (by decide)), htc, bdS (has8 (by omega) (by omega)), hbit, bdS (rdN (by omega) (by decide)), htc, nI_shl (by omega), nI_or, bdS (wrN (by omega) (by decide))]
  have r4 : fX9_readsItem fu (nI k) T rt1 v1 (-1) (nI pl1) (nI e1) dr dn 120 = if dn (2 + 8 * w1 + w2) = 0 then fX9_readsItem_b100 fu (nI k) T (nI w1) 1 rt2 v2 (-1) (nI pl2) (nI e2) dr dn else some (rt2, v2, nI pl2, nI pl2, nI e2, dr, dn) := by
    rw [r3, if_pos y1, bdS hT.p, hv2, bdS hin, if10, ix9, bdS (rdN (by omega) (by decide)), ← hv2, bad]
  by_cases hd : dn (2 + 8 * w1 + w2) = 0
  · right
    obtain ⟨pl3, e3, ct3, rt3, w3, v3, hD3, r5⟩ := take1 (p := nI pl2) (v := v2) (t := rt2) hfu h q3
    refine ⟨e2, w1, w2, pl3, e3, ct3, rt3, w3, v3, ⟨by omega, q3⟩, ⟨hwN, hwP, hd⟩, hD3, fun cv cp t0 => ⟨nI w2, nI pl2, ct2, ?_⟩, ?_⟩
    · rw [c1, hd, if_pos (by decide)]
    · rw [r4, if_pos hd]
      unfold fX9_readsItem_b100
      rw [r5]
      show ((wr 66 dn ((2 + (8 * nI w1)) + v2) (-1)).bind _) = _
      rw [hv2, ix9, bdS (wrN (by omega) (by decide))]
  · left
    have hd1 : dn (2 + 8 * w1 + w2) = -1 := by
      rcases hR.e (a := w1) (p := w2) (by omega) (by omega) with y | y
      · exact absurd y hd
      · exact y
    refine ⟨pl2, rt2, v2, nI pl2, nI e2, by omega, fun cv cp t0 => ⟨nI e2, nI w2, ct2, ?_⟩, ?_⟩
    · rw [c1, hd1, if_neg (by decide)]
    · rw [r4, if_neg hd]
theorem DR_prom {N P a p : Nat} {bk kd wd sl : Nat → Nat} {dr dn : Nat → Int32} {planks size sworn : Int32} {bank kind word slow tc : Nat → Int32} (h : DR N P bk kd wd sl dr dn planks size sworn bank kind word slow tc) (ha : a < N) (hp : p < P) : DR N P bk kd wd sl dr (upd dn (2 + 8 * a + p) (-1)) planks size sworn bank kind word slow (upd tc p (nI (cs N dn p ||| 2 ^ a))) := by
  obtain ⟨hT, hF, hR⟩ := id h
  obtain ⟨hP1, hP8, hN⟩ := hT.1.2.2
  refine ⟨hT, hF, PR_0 (fun q hq => ?_) ?_ (fun b q hb hq => ?_) hN⟩
  · rw [cs_add ha hN (by omega) hq]
    by_cases e : q = p
    · rw [e, upd_at, up_at]
    · rw [upd_ne e, up_ne e]; exact (hR.2.1 q hq).1
  · rw [upd_ne (by omega), upd_ne (by omega)]; exact hR.1
  · by_cases e : 2 + 8 * b + q = 2 + 8 * a + p
    · rw [e, upd_at]
      exact Or.inr ⟨rfl, by omega, by omega⟩
    · rw [upd_ne e]; exact h.e2 b q hb hq
theorem DR_n {P P' : Nat} {bk kd wd sl : Nat → Nat} {dr dn : Nat → Int32} {planks size sworn : Int32} {bank kind word slow tc : Nat → Int32} (h : DR 0 P bk kd wd sl dr dn planks size sworn bank kind word slow tc) (hP : 1 ≤ P' ∧ P' ≤ 8) : DR 0 P' bk kd wd sl (upd dr 0 (nI P')) dn (nI P') size sworn bank kind word slow tc := by
  obtain ⟨hT, hF, hR⟩ := id h
  refine ⟨⟨⟨by rw [upd_at], by rw [upd_ne (by omega)]; exact hT.1.2.1, hP.1, hP.2, by omega⟩, fun a ha => by omega⟩, ⟨⟨rfl, hF.1.2⟩, fun a ha => by omega⟩, PR_0 (fun p hp => (hR.2.1 p hp).1) hR.1 (fun a p ha hp => ?_) (by omega)⟩
  rcases h.e2 a p ha hp with q | q
  · exact Or.inl q
  · omega
-- the end of an item
theorem b77f {fu f : Nat} {T : Nat → Int32} {r25 : Int32 → (Nat → Int32) → (Nat → Int32) → Int32 → Int32 → Int32 → Int32 → Int32 → Int32 → (Nat → Int32) → (Nat → Int32) → (Nat → Int32) → Int32 → Int32 → Int32 → Option (Int32 × (Nat → Int32) × (Nat → Int32) × Int32 × Int32 × Int32 × Int32 × Int32 × Int32 × (Nat → Int32) × (Nat → Int32) × (Nat → Int32) × Int32 × Int32 × Int32)} {l1 a ty v p t th sm um : Int32} {dr dn told s ik : Nat → Int32} (hf : f < 2 ^ 31) : fX9_gorge_b77 fu T r25 l1 dr dn a ty v p (nI f) t told s ik th sm um = r25 (l1 + 1) dr dn a ty v p (nI f) t told s ik th sm um := by
  unfold fX9_gorge_b77 fX9_gorge_b91
  rw [takeF hf, takeF hf]
  split <;> rfl
theorem b77w {fu k e pl : Nat} {L T : Nat → Int32} {c : Nat → Nat} {r25 : Int32 → (Nat → Int32) → (Nat → Int32) → Int32 → Int32 → Int32 → Int32 → Int32 → Int32 → (Nat → Int32) → (Nat → Int32) → (Nat → Int32) → Int32 → Int32 → Int32 → Option (Int32 × (Nat → Int32) × (Nat → Int32) × Int32 × Int32 × Int32 × Int32 × Int32 × Int32 × (Nat → Int32) × (Nat → Int32) × (Nat → Int32) × Int32 × Int32 × Int32)} {l1 v t th sm um : Int32} {dr dn told s ik : Nat → Int32} (hfu : 130 ≤ fu) (h : LC k L T c) (he : e ≤ k) : (t = 3 → ∃ pl' e' ct' rt' w' v', DT fu k L e pl' e' ct' rt' w' v' ∧ fX9_gorge_b77 fu T r25 l1 dr dn (nI e) (nI k) v (nI pl) (-1) t told s ik th sm um = r25 (l1 + 1) dr dn (nI e') (nI k) v' (nI pl') (-1) rt' told s ik th sm um) ∧ (t ≠ 3 → fX9_gorge_b77 fu T r25 l1 dr dn (nI e) (nI k) v (nI pl) (-1) t told s ik th sm um = r25 (l1 + 1) dr dn (nI e) (nI k) v (nI pl) (nI pl) t told s ik th sm um) := by
  unfold fX9_gorge_b77 fX9_gorge_b91
  refine ⟨fun q => ?_, fun q => ?_⟩
  · obtain ⟨pl', e', ct', rt', w', v', h1, h2⟩ := take1 (p := nI pl) (v := v) (t := t) hfu h he
    refine ⟨pl', e', ct', rt', w', v', h1, ?_⟩
    rw [if_pos q, h2]
    rfl
  · rw [if_neg q, take0]
    rfl
theorem firstW {fu k e pl w it : Nat} {L T : Nat → Int32} {c : Nat → Nat} {r25 : Int32 → (Nat → Int32) → (Nat → Int32) → Int32 → Int32 → Int32 → Int32 → Int32 → Int32 → (Nat → Int32) → (Nat → Int32) → (Nat → Int32) → Int32 → Int32 → Int32 → Option (Int32 × (Nat → Int32) × (Nat → Int32) × Int32 × Int32 × Int32 × Int32 × Int32 × Int32 × (Nat → Int32) × (Nat → Int32) × (Nat → Int32) × Int32 × Int32 × Int32)} {v rt th sm um : Int32} {dr dn told s ik : Nat → Int32} (hfu : 130 ≤ fu) (h : LC k L T c) (he : e ≤ k) (hpl : pl ≤ k) (h0 : rt ≠ 0) : (rt ≠ 1 ∨ fX9_mayBegin fu v dr (nI it) = some 0 → fX9_gorge_b25_body fu T r25 (nI it) dr dn (nI e) (nI k) v (nI pl) (-1) rt told s ik th sm um = r25 (nI it + 1) dr dn (nI e) (nI k) v (nI pl) (nI pl) rt told s ik th sm um) ∧ (rt = 1 → fX9_mayBegin fu v dr (nI it) = some 1 → ∃ pl' e' ct' rt' w' v', DT fu k L e pl' e' ct' rt' w' v' ∧ fX9_gorge_b25_body fu T r25 (nI it) dr dn (nI e) (nI k) v (nI pl) (-1) rt told s ik th sm um = (fX9_readsItem fu (nI k) T rt' v' (-1) (nI pl') (nI e') dr dn v).bind fun (g38, g39, g40, g41, g42, g43, g44) => fX9_gorge_b77 fu T r25 (nI it) g43 g44 g42 (nI k) g39 g41 g40 g38 told s ik th sm um) := by
  have hk := h.1
  have bad : fX9_gorge_b61 fu T r25 (nI it) 0 dr dn (nI e) (nI k) v (nI pl) (-1) rt told s ik th sm um = r25 (nI it + 1) dr dn (nI e) (nI k) v (nI pl) (nI pl) rt told s ik th sm um := by
    unfold fX9_gorge_b61
    rw [bdS take0]
    show ((fX9_isWell fu (nI pl)).bind _) = _
    rw [bdS (show fX9_isWell fu (nI pl) = some 0 by unfold fX9_isWell; rw [if_pos (nI_pos' (by omega))]), if00]
    exact b77f (by omega)
  unfold fX9_gorge_b25_body
  rw [bdS (show fX9_isWell fu (-1) = some 1 from rfl), if10, if_neg h0]
  refine ⟨fun q => ?_, fun q q2 => ?_⟩
  · by_cases h1 : rt = 1
    · rw [if_pos h1]
      rcases q with q | q
      · exact absurd h1 q
      · rw [bdS q, if00]
        exact bad
    · rw [if_neg h1]
      exact bad
  · obtain ⟨pl', e', ct', rt', w', v', h1, h2⟩ := take1 (p := nI pl) (v := v) (t := rt) hfu h he
    refine ⟨pl', e', ct', rt', w', v', h1, ?_⟩
    rw [if_pos q, bdS q2, if10]
    unfold fX9_gorge_b61
    rw [h2]
    rfl
