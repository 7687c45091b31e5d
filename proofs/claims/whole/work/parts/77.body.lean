-- one item
theorem rdItem0 {fu : Nat} {len ct size a cv p planks sworn it : Int32} {L tc bank kind word slow : Nat → Int32} (h : ct ≠ 110 ∧ ct ≠ 117 ∧ ct ≠ 118 ∧ ct ≠ 120) : fX6_readItem fu len L ct size a cv p planks tc bank kind word slow sworn it = some (0, ct, size, a, cv, p, planks, tc, bank, kind, word, slow, sworn) := by
  unfold fX6_readItem
  rw [if_neg h.1, if_neg h.2.1, if_neg h.2.2.1, if_neg h.2.2.2]
theorem persItem {fu k N P i e pl b it : Nat} {L T : Nat → Int32} {c : Nat → Nat} {r25 : Int32 → (Nat → Int32) → (Nat → Int32) → Int32 → Int32 → Int32 → Int32 → Int32 → Int32 → (Nat → Int32) → (Nat → Int32) → (Nat → Int32) → Int32 → Int32 → Int32 → Option (Int32 × (Nat → Int32) × (Nat → Int32) × Int32 × Int32 × Int32 × Int32 × Int32 × Int32 × (Nat → Int32) × (Nat → Int32) × (Nat → Int32) × Int32 × Int32 × Int32)} {bk kd wd sl : Nat → Nat} {ct rt v planks size sworn th sm um : Int32} {dr dn bank kind word slow tc told s ik : Nat → Int32} (hfu : 130 ≤ fu) (h : LC k L T c) (hR : DR N P bk kd wd sl dr dn planks size sworn bank kind word slow tc) (hie : i < e ∧ e ≤ k ∧ pl ≤ k) (hb : b ≤ 1) (hrt : rt = 1) (hct : ct = nI (117 + b)) (hv : v = nI (117 + b)) : (∃ f tk v' p' a' dr' dn', f ≤ k ∧ (∀ cv, ∃ t' sz' at' v'' pk' tc' b' k' w' s' sw', fX6_readItem fu (nI k) L ct size (nI e) cv (nI pl) planks tc bank kind word slow sworn (nI it) = some (0, t', sz', at', v'', nI f, pk', tc', b', k', w', s', sw')) ∧ fX9_gorge_b25_body fu T r25 (nI it) dr dn (nI e) (nI k) v (nI pl) (-1) rt told s ik th sm um = r25 (nI it + 1) dr' dn' a' (nI k) v' p' (nI f) tk told s ik th sm um) ∨ (∃ i' N' P' bk' kd' wd' sl' dr' dn' planks' size' sworn' bank' kind' word' slow' tc' pl' e' ct' rt' w' v', (i < i' ∧ i' ≤ k) ∧ DR N' P' bk' kd' wd' sl' dr' dn' planks' size' sworn' bank' kind' word' slow' tc' ∧ DT fu k L i' pl' e' ct' rt' w' v' ∧ (∀ cv, ∃ t' v'' p'', fX6_readItem fu (nI k) L ct size (nI e) cv (nI pl) planks tc bank kind word slow sworn (nI it) = some (1, t', size', nI i', v'', p'', planks', tc', bank', kind', word', slow', sworn')) ∧ fX9_gorge_b25_body fu T r25 (nI it) dr dn (nI e) (nI k) v (nI pl) (-1) rt told s ik th sm um = r25 (nI it + 1) dr' dn' (nI e') (nI k) v' (nI pl') (-1) rt' told s ik th sm um) := by
  have hk := h.1
  obtain ⟨hT, hF, hP⟩ := id hR
  obtain ⟨hP1, hP8, hN⟩ := hT.1.2.2
  obtain ⟨f1, f2⟩ := firstW (r25 := r25) (dr := dr) (dn := dn) (told := told) (s := s) (ik := ik) (th := th) (sm := sm) (um := um) (v := v) (rt := rt) (it := it) (w := 0) (pl := pl) hfu h hie.2.1 hie.2.2 (by rw [hrt]; decide)
  have cls : ∀ cv, fX6_readItem fu (nI k) L ct size (nI e) cv (nI pl) planks tc bank kind word slow sworn (nI it) = ((fX6_readPerson fu (nI k) L size (nI e) cv (nI pl) ct bank kind word slow sworn (nI b)).bind fun (v16, g17, g18, g19, g20, g21, g22, g23, g24, g25, g26) => (if v16 = 0 then some ((0 : Int32), g21, g17, g18, g19, g20, planks, tc, g22, g23, g24, g25, g26) else (fX6_readEnd fu (nI k) L g18 g19 g20 g21).bind fun (v28, g29, g30, g31, g32) => (if v28 = 0 then some ((0 : Int32), g32, g17, g29, g30, g31, planks, tc, g22, g23, g24, g25, g26) else some ((1 : Int32), g32, g17, g29, g30, g31, planks, tc, g22, g23, g24, g25, g26)))) := fun cv => by
    unfold fX6_readItem
    rcases (by omega : b = 0 ∨ b = 1) with rfl | rfl
    · rw [hct, if_neg (show ¬ nI (117 + 0) = 110 by decide), if_pos (show nI (117 + 0) = 117 from rfl)]
      rfl
    · rw [hct, if_neg (show ¬ nI (117 + 1) = 110 by decide), if_neg (show ¬ nI (117 + 1) = 117 by decide), if_pos (show nI (117 + 1) = 118 from rfl)]
      rfl
  have may : fX9_mayBegin fu v dr (nI it) = if 8 ≤ nI N then some 0 else some 1 := by
    unfold fX9_mayBegin fX9_mayBegin_b39
    rcases (by omega : b = 0 ∨ b = 1) with rfl | rfl
    · rw [hv, if_neg (show ¬ nI (117 + 0) = 110 by decide), if_pos (show nI (117 + 0) = 117 from rfl), bdS hT.n]
    · rw [hv, if_neg (show ¬ nI (117 + 1) = 110 by decide), if_neg (show ¬ nI (117 + 1) = 117 by decide), if_pos (show nI (117 + 1) = 118 from rfl), bdS hT.n]
  by_cases hN8 : N = 8
  · left
    refine ⟨pl, rt, v, nI pl, nI e, dr, dn, hie.2.2, fun cv => ?_, f1 (Or.inr (by rw [may, if_pos (show 8 ≤ nI N by rw [hN8]; decide)]))⟩
    refine ⟨ct, size, nI e, cv, planks, tc, bank, kind, word, slow, sworn, ?_⟩
    rw [cls]
    unfold fX6_readPerson
    rw [if_neg (show ¬ size < 8 by rw [hF.1.2.1, hN8]; decide)]
    rfl
  obtain ⟨pl1, e1, ct1, rt1, w1, v1, hD1, g1⟩ := f2 hrt (by rw [may, if_neg (show ¬ 8 ≤ nI N from nI_ge (b := 8) (by omega) (by omega))])
  have rd : fX9_readsItem fu (nI k) T rt1 v1 (-1) (nI pl1) (nI e1) dr dn v = fX9_readsItem_b155 fu (nI k) T (nI N) (nI b) (2 + nI N) rt1 v1 (-1) (nI pl1) (nI e1) dr dn := by
    unfold fX9_readsItem
    rcases (by omega : b = 0 ∨ b = 1) with rfl | rfl
    · rw [hv, if_neg (show ¬ nI (117 + 0) = 110 by decide), if_neg (show ¬ nI (117 + 0) = 120 by decide), bdS hT.n, if_pos (show nI (117 + 0) = 117 from rfl)]
      rfl
    · rw [hv, if_neg (show ¬ nI (117 + 1) = 110 by decide), if_neg (show ¬ nI (117 + 1) = 120 by decide), bdS hT.n, if_neg (show ¬ nI (117 + 1) = 117 by decide)]
      rfl
  rcases pers (bank := bank) (kind := kind) (word := word) (slow := slow) (sworn := sworn) (dn := dn) hfu h (show N < 8 by omega) hb hF.1.2.1 hT.1.2.1 hD1 with ⟨f, tk, v', p', a', dr', hf, k1, k2⟩ | ⟨e3, κ, u, sl', pl4, e4, ct4, rt4, w4, v4, ⟨m1, m2⟩, hκ, hu, hsl, hD4, k1, k2⟩
  · left
    refine ⟨f, tk, v', p', a', dr', dn, hf, fun cv => ?_, ?_⟩
    · obtain ⟨at', v'', t', g2⟩ := k1 cv (nI pl) ct
      refine ⟨t', size, at', v'', planks, tc, bank, kind, word, slow, sworn, ?_⟩
      rw [cls, g2]
      rfl
    · rw [g1, rd, k2]
      exact b77f (by omega)
  · have hD4' := hD4.1
    obtain ⟨-, ⟨n1, n2, n3⟩, n5⟩ := id hD4'
    have b7 := b77w (r25 := r25) (dr := upd (upd (upd (upd (upd dr (2 + N) (nI b)) (10 + N) (nI κ)) (18 + N) (nI u)) (26 + N) (nI sl')) 1 (nI (N + 1))) (dn := dn) (told := told) (s := s) (ik := ik) (th := th) (sm := sm) (um := um) (l1 := nI it) (v := v4) (t := rt4) (pl := pl4) hfu h n3
    by_cases h3 : rt4 = 3
    · right
      obtain ⟨pl5, e5, ct5, rt5, w5, v5, hD5, g5⟩ := b7.1 h3
      have := (tk2 n5).2.2.2.2.1 h3
      refine ⟨e4, N + 1, P, up bk N b, up kd N κ, up wd N u, up sl N sl', _, dn, planks, nI (N + 1), if κ = 3 then sworn ||| nI (2 ^ N) else sworn, _, _, _, _, tc, pl5, e5, ct5, rt5, w5, v5, ⟨by omega, n3⟩, DR_join hR (by omega) hb hκ hu hsl rfl, hD5, fun cv => ?_, ?_⟩
      · obtain ⟨p2, t2, g2⟩ := k1 cv (nI pl) ct
        obtain ⟨v6, g6⟩ := cend hD4' (nI sl') p2 t2
        refine ⟨ct4, v6, nI pl4, ?_⟩
        rw [cls, g2]
        show ((fX6_readEnd fu (nI k) L (nI e3) (nI sl') p2 t2).bind _) = _
        rw [g6, if_pos h3]
        rfl
      · rw [g1, rd, k2]
        exact g5
    · left
      refine ⟨pl4, rt4, v4, nI pl4, nI e4, upd (upd (upd (upd (upd dr (2 + N) (nI b)) (10 + N) (nI κ)) (18 + N) (nI u)) (26 + N) (nI sl')) 1 (nI (N + 1)), dn, by omega, fun cv => ?_, ?_⟩
      · obtain ⟨p2, t2, g2⟩ := k1 cv (nI pl) ct
        obtain ⟨v6, g6⟩ := cend hD4' (nI sl') p2 t2
        refine ⟨ct4, nI (N + 1), nI e4, v6, planks, tc, upd bank N (nI b), upd kind N (nI κ), upd word N (nI u), upd slow N (nI sl'), if κ = 3 then sworn ||| nI (2 ^ N) else sworn, ?_⟩
        rw [cls, g2]
        show ((fX6_readEnd fu (nI k) L (nI e3) (nI sl') p2 t2).bind _) = _
        rw [g6, if_neg h3]
        rfl
      · rw [g1, rd, k2]
        exact b7.2 h3
theorem promItem {fu k N P i e pl it : Nat} {L T : Nat → Int32} {c : Nat → Nat} {r25 : Int32 → (Nat → Int32) → (Nat → Int32) → Int32 → Int32 → Int32 → Int32 → Int32 → Int32 → (Nat → Int32) → (Nat → Int32) → (Nat → Int32) → Int32 → Int32 → Int32 → Option (Int32 × (Nat → Int32) × (Nat → Int32) × Int32 × Int32 × Int32 × Int32 × Int32 × Int32 × (Nat → Int32) × (Nat → Int32) × (Nat → Int32) × Int32 × Int32 × Int32)} {bk kd wd sl : Nat → Nat} {ct rt v planks size sworn th sm um : Int32} {dr dn bank kind word slow tc told s ik : Nat → Int32} (hfu : 130 ≤ fu) (h : LC k L T c) (hR : DR N P bk kd wd sl dr dn planks size sworn bank kind word slow tc) (hie : i < e ∧ e ≤ k ∧ pl ≤ k) (hrt : rt = 1) (hct : ct = 120) (hv : v = 120) : (∃ f tk v' p' a' dr' dn', f ≤ k ∧ (∀ cv, ∃ t' sz' at' v'' pk' tc' b' k' w' s' sw', fX6_readItem fu (nI k) L ct size (nI e) cv (nI pl) planks tc bank kind word slow sworn (nI it) = some (0, t', sz', at', v'', nI f, pk', tc', b', k', w', s', sw')) ∧ fX9_gorge_b25_body fu T r25 (nI it) dr dn (nI e) (nI k) v (nI pl) (-1) rt told s ik th sm um = r25 (nI it + 1) dr' dn' a' (nI k) v' p' (nI f) tk told s ik th sm um) ∨ (∃ i' N' P' bk' kd' wd' sl' dr' dn' planks' size' sworn' bank' kind' word' slow' tc' pl' e' ct' rt' w' v', (i < i' ∧ i' ≤ k) ∧ DR N' P' bk' kd' wd' sl' dr' dn' planks' size' sworn' bank' kind' word' slow' tc' ∧ DT fu k L i' pl' e' ct' rt' w' v' ∧ (∀ cv, ∃ t' v'' p'', fX6_readItem fu (nI k) L ct size (nI e) cv (nI pl) planks tc bank kind word slow sworn (nI it) = some (1, t', size', nI i', v'', p'', planks', tc', bank', kind', word', slow', sworn')) ∧ fX9_gorge_b25_body fu T r25 (nI it) dr dn (nI e) (nI k) v (nI pl) (-1) rt told s ik th sm um = r25 (nI it + 1) dr' dn' (nI e') (nI k) v' (nI pl') (-1) rt' told s ik th sm um) := by
  have hk := h.1
  obtain ⟨hT, hF, hP⟩ := id hR
  obtain ⟨f1, f2⟩ := firstW (r25 := r25) (dr := dr) (dn := dn) (told := told) (s := s) (ik := ik) (th := th) (sm := sm) (um := um) (v := v) (rt := rt) (it := it) (w := 0) (pl := pl) hfu h hie.2.1 hie.2.2 (by rw [hrt]; decide)
  subst hct hv
  have cls : ∀ cv, fX6_readItem fu (nI k) L 120 size (nI e) cv (nI pl) planks tc bank kind word slow sworn (nI it) = ((fX6_readPromise fu size (nI k) L planks (nI e) cv (nI pl) 120 tc).bind fun (v54, g55, g56, g57, g58, g59) => (if v54 = 0 then some ((0 : Int32), g58, size, g55, g56, g57, planks, g59, bank, kind, word, slow, sworn) else (fX6_readEnd fu (nI k) L g55 g56 g57 g58).bind fun (v61, g62, g63, g64, g65) => (if v61 = 0 then some ((0 : Int32), g65, size, g62, g63, g64, planks, g59, bank, kind, word, slow, sworn) else some ((1 : Int32), g65, size, g62, g63, g64, planks, g59, bank, kind, word, slow, sworn)))) := fun cv => rfl
  obtain ⟨pl1, e1, ct1, rt1, w1, v1, hD1, g1⟩ := f2 hrt rfl
  rcases prom hfu h hR hD1 with ⟨f, tk, v', p', a', hf, k1, k2⟩ | ⟨e2, a, p, pl4, e4, ct4, rt4, w4, v4, ⟨m1, m2⟩, ⟨ha, hp, -⟩, hD4, k1, k2⟩
  · left
    refine ⟨f, tk, v', p', a', dr, dn, hf, fun cv => ?_, ?_⟩
    · obtain ⟨at', v'', t', g2⟩ := k1 cv (nI pl) 120
      refine ⟨t', size, at', v'', planks, tc, bank, kind, word, slow, sworn, ?_⟩
      rw [cls, g2]
      rfl
    · rw [g1, k2]
      exact b77f (by omega)
  · have hD4' := hD4.1
    obtain ⟨-, ⟨n1, n2, n3⟩, n5⟩ := id hD4'
    have b7 := b77w (r25 := r25) (dr := dr) (dn := upd dn (2 + 8 * a + p) (-1)) (told := told) (s := s) (ik := ik) (th := th) (sm := sm) (um := um) (l1 := nI it) (v := v4) (t := rt4) (pl := pl4) hfu h n3
    by_cases h3 : rt4 = 3
    · right
      obtain ⟨pl5, e5, ct5, rt5, w5, v5, hD5, g5⟩ := b7.1 h3
      have := (tk2 n5).2.2.2.2.1 h3
      refine ⟨e4, N, P, bk, kd, wd, sl, dr, upd dn (2 + 8 * a + p) (-1), planks, size, sworn, bank, kind, word, slow, upd tc p (nI (cs N dn p ||| 2 ^ a)), pl5, e5, ct5, rt5, w5, v5, ⟨by omega, n3⟩, DR_prom hR ha hp, hD5, fun cv => ?_, ?_⟩
      · obtain ⟨v2, p2, t2, g2⟩ := k1 cv (nI pl) 120
        obtain ⟨v6, g6⟩ := cend hD4' v2 p2 t2
        refine ⟨ct4, v6, nI pl4, ?_⟩
        rw [cls, g2]
        show ((fX6_readEnd fu (nI k) L (nI e2) v2 p2 t2).bind _) = _
        rw [g6, if_pos h3]
        rfl
      · rw [g1, k2]
        exact g5
    · left
      refine ⟨pl4, rt4, v4, nI pl4, nI e4, dr, upd dn (2 + 8 * a + p) (-1), by omega, fun cv => ?_, ?_⟩
      · obtain ⟨v2, p2, t2, g2⟩ := k1 cv (nI pl) 120
        obtain ⟨v6, g6⟩ := cend hD4' v2 p2 t2
        refine ⟨ct4, size, nI e4, v6, planks, upd tc p (nI (cs N dn p ||| 2 ^ a)), bank, kind, word, slow, sworn, ?_⟩
        rw [cls, g2]
        show ((fX6_readEnd fu (nI k) L (nI e2) v2 p2 t2).bind _) = _
        rw [g6, if_neg h3]
        rfl
      · rw [g1, k2]
        exact b7.2 h3
theorem nItem {fu k P i e pl : Nat} {L T : Nat → Int32} {c : Nat → Nat} {r25 : Int32 → (Nat → Int32) → (Nat → Int32) → Int32 → Int32 → Int32 → Int32 → Int32 → Int32 → (Nat → Int32) → (Nat → Int32) → (Nat → Int32) → Int32 → Int32 → Int32 → Option (Int32 × (Nat → Int32) × (Nat → Int32) × Int32 × Int32 × Int32 × Int32 × Int32 × Int32 × (Nat → Int32) × (Nat → Int32) × (Nat → Int32) × Int32 × Int32 × Int32)} {bk kd wd sl : Nat → Nat} {ct rt v planks size sworn th sm um : Int32} {dr dn bank kind word slow tc told s ik : Nat → Int32} (hfu : 130 ≤ fu) (h : LC k L T c) (hR : DR 0 P bk kd wd sl dr dn planks size sworn bank kind word slow tc) (hie : i < e ∧ e ≤ k ∧ pl ≤ k) (hrt : rt = 1) (hct : ct = 110) (hv : v = 110) : (∃ f tk v' p' a' dr' dn', f ≤ k ∧ (∀ cv, ∃ t' sz' at' v'' pk' tc' b' k' w' s' sw', fX6_readItem fu (nI k) L ct size (nI e) cv (nI pl) planks tc bank kind word slow sworn (nI 0) = some (0, t', sz', at', v'', nI f, pk', tc', b', k', w', s', sw')) ∧ fX9_gorge_b25_body fu T r25 (nI 0) dr dn (nI e) (nI k) v (nI pl) (-1) rt told s ik th sm um = r25 (nI 0 + 1) dr' dn' a' (nI k) v' p' (nI f) tk told s ik th sm um) ∨ (∃ i' N' P' bk' kd' wd' sl' dr' dn' planks' size' sworn' bank' kind' word' slow' tc' pl' e' ct' rt' w' v', (i < i' ∧ i' ≤ k) ∧ DR N' P' bk' kd' wd' sl' dr' dn' planks' size' sworn' bank' kind' word' slow' tc' ∧ DT fu k L i' pl' e' ct' rt' w' v' ∧ (∀ cv, ∃ t' v'' p'', fX6_readItem fu (nI k) L ct size (nI e) cv (nI pl) planks tc bank kind word slow sworn (nI 0) = some (1, t', size', nI i', v'', p'', planks', tc', bank', kind', word', slow', sworn')) ∧ fX9_gorge_b25_body fu T r25 (nI 0) dr dn (nI e) (nI k) v (nI pl) (-1) rt told s ik th sm um = r25 (nI 0 + 1) dr' dn' (nI e') (nI k) v' (nI pl') (-1) rt' told s ik th sm um) := by
  have hk := h.1
  obtain ⟨hT, hF, hP⟩ := id hR
  obtain ⟨f1, f2⟩ := firstW (r25 := r25) (dr := dr) (dn := dn) (told := told) (s := s) (ik := ik) (th := th) (sm := sm) (um := um) (v := v) (rt := rt) (it := 0) (w := 0) (pl := pl) hfu h hie.2.1 hie.2.2 (by rw [hrt]; decide)
  subst hct hv
  have cls : ∀ cv, fX6_readItem fu (nI k) L 110 size (nI e) cv (nI pl) planks tc bank kind word slow sworn (nI 0) = ((fX6_readPlanks fu (nI k) L (nI e) cv (nI pl) 110 planks).bind fun (v2, g3, g4, g5, g6, g7) => (if v2 = 0 then some ((0 : Int32), g6, size, g3, g4, g5, g7, tc, bank, kind, word, slow, sworn) else (fX6_readEnd fu (nI k) L g3 g4 g5 g6).bind fun (v9, g10, g11, g12, g13) => (if v9 = 0 then some ((0 : Int32), g13, size, g10, g11, g12, g7, tc, bank, kind, word, slow, sworn) else some ((1 : Int32), g13, size, g10, g11, g12, g7, tc, bank, kind, word, slow, sworn)))) := fun cv => rfl
  obtain ⟨pl1, e1, ct1, rt1, w1, v1, hD1, g1⟩ := f2 hrt rfl
  have rd : fX9_readsItem fu (nI k) T rt1 v1 (-1) (nI pl1) (nI e1) dr dn 110 = ((fX9_number fu (nI k) T rt1 v1 (-1) (nI pl1) (nI e1) 1 8).bind fun (v56, g57, g58, g59, g60, g61) => (wr 34 dr 0 v56).bind fun g62 => some (g57, g58, g59, g60, g61, g62, dn)) := rfl
  have w0 : ∀ x, wr 34 dr 0 x = some (upd dr 0 x) := fun x => wrN (j := 0) (by omega) (by decide)
  obtain ⟨hX, hV⟩ := id hD1
  obtain ⟨-, ⟨hX2, hX3, hX4⟩, hX5⟩ := id hX
  obtain ⟨t1, t2, -⟩ := tk2 hX5
  by_cases hn1 : rt1 ≠ 2 ∨ nI w1 < 1 ∨ 8 < nI w1
  · left
    have r1 := num0 (fu := fu) (ty := nI k) (T := T) (p := nI pl1) (a := nI e1) (w := w1) (v := v1) (lo := 1) (hi := 8) (fun z => hV (by rw [z]; decide) (by rw [z]; decide)) hn1
    refine ⟨pl1, rt1, v1, nI pl1, nI e1, upd dr 0 0, dn, by omega, fun cv => ?_, ?_⟩
    · obtain ⟨v'', g2⟩ := cnum0 hX hn1 cv (nI pl) 110
      refine ⟨ct1, size, nI e1, v'', planks, tc, bank, kind, word, slow, sworn, ?_⟩
      rw [cls]
      unfold fX6_readPlanks
      rw [g2]
      rfl
    · have rdb : fX9_readsItem fu (nI k) T rt1 v1 (-1) (nI pl1) (nI e1) dr dn 110 = some (rt1, v1, nI pl1, nI pl1, nI e1, upd dr 0 0, dn) := by
        rw [rd, bdS r1]
        show ((wr 34 dr 0 0).bind _) = _
        rw [bdS (w0 0)]
      rw [g1, rdb]
      exact b77f (by omega)
  · have z1 : rt1 = 2 := Decidable.byContradiction (fun z => hn1 (Or.inl z))
    have z2 : ¬ nI w1 < 1 := fun z => hn1 (Or.inr (Or.inl z))
    have z3 : ¬ 8 < nI w1 := fun z => hn1 (Or.inr (Or.inr z))
    obtain ⟨w99, hlt⟩ := t2 z1
    have hP' := numAt (w := w1) (lo := 1) (hi := 8) (by omega) (by omega) z2 z3
    have hv1 : v1 = nI w1 := hV (by rw [z1]; decide) (by rw [z1]; decide)
    obtain ⟨pl4, e4, ct4, rt4, w4, v4, hD4, r2⟩ := num1 (p := nI pl1) (lo := 1) (hi := 8) hfu h hX4 z1 hv1 z2 z3
    have hD4' := hD4.1
    obtain ⟨-, ⟨n1, n2, n3⟩, n5⟩ := id hD4'
    have rdg : fX9_readsItem fu (nI k) T rt1 v1 (-1) (nI pl1) (nI e1) dr dn 110 = some (rt4, v4, -1, nI pl4, nI e4, upd dr 0 (nI w1), dn) := by
      rw [rd, bdS r2]
      show ((wr 34 dr 0 (nI w1)).bind _) = _
      rw [bdS (w0 (nI w1))]
    have b7 := b77w (r25 := r25) (dr := upd dr 0 (nI w1)) (dn := dn) (told := told) (s := s) (ik := ik) (th := th) (sm := sm) (um := um) (l1 := nI 0) (v := v4) (t := rt4) (pl := pl4) hfu h n3
    have cl2 : ∀ cv, fX6_readItem fu (nI k) L 110 size (nI e) cv (nI pl) planks tc bank kind word slow sworn (nI 0) = ((fX6_readEnd fu (nI k) L (nI e1) (nI w1) (nI pl1) ct1).bind fun (v9, g10, g11, g12, g13) => (if v9 = 0 then some ((0 : Int32), g13, size, g10, g11, g12, nI w1, tc, bank, kind, word, slow, sworn) else some ((1 : Int32), g13, size, g10, g11, g12, nI w1, tc, bank, kind, word, slow, sworn))) := fun cv => by
      rw [cls]
      unfold fX6_readPlanks
      rw [cnum1 hX z1 z2 z3]
      rfl
    by_cases h3 : rt4 = 3
    · right
      obtain ⟨pl5, e5, ct5, rt5, w5, v5, hD5, g5⟩ := b7.1 h3
      have := (tk2 n5).2.2.2.2.1 h3
      refine ⟨e4, 0, w1, bk, kd, wd, sl, upd dr 0 (nI w1), dn, nI w1, size, sworn, bank, kind, word, slow, tc, pl5, e5, ct5, rt5, w5, v5, ⟨by omega, n3⟩, DR_n hR hP', hD5, fun cv => ?_, ?_⟩
      · obtain ⟨v6, g6⟩ := cend hD4' (nI w1) (nI pl1) ct1
        refine ⟨ct4, v6, nI pl4, ?_⟩
        rw [cl2, g6, if_pos h3]
        rfl
      · rw [g1, rdg]
        exact g5
    · left
      refine ⟨pl4, rt4, v4, nI pl4, nI e4, upd dr 0 (nI w1), dn, by omega, fun cv => ?_, ?_⟩
      · obtain ⟨v6, g6⟩ := cend hD4' (nI w1) (nI pl1) ct1
        refine ⟨ct4, size, nI e4, v6, nI w1, tc, bank, kind, word, slow, sworn, ?_⟩
        rw [cl2, g6, if_neg h3]
        rfl
      · rw [g1, rdg]
        exact b7.2 h3
theorem body {fu k N P i e pl w it : Nat} {L T : Nat → Int32} {c : Nat → Nat} {r25 : Int32 → (Nat → Int32) → (Nat → Int32) → Int32 → Int32 → Int32 → Int32 → Int32 → Int32 → (Nat → Int32) → (Nat → Int32) → (Nat → Int32) → Int32 → Int32 → Int32 → Option (Int32 × (Nat → Int32) × (Nat → Int32) × Int32 × Int32 × Int32 × Int32 × Int32 × Int32 × (Nat → Int32) × (Nat → Int32) × (Nat → Int32) × Int32 × Int32 × Int32)} {bk kd wd sl : Nat → Nat} {ct rt v planks size sworn th sm um : Int32} {dr dn bank kind word slow tc told s ik : Nat → Int32} (hfu : 130 ≤ fu) (h : LC k L T c) (hR : DR N P bk kd wd sl dr dn planks size sworn bank kind word slow tc) (hit : it = 0 → N = 0) (hit2 : it ≤ 120) (hD : DT fu k L i pl e ct rt w v) (h0 : rt ≠ 0) : (∃ f tk v' p' a' dr' dn', f ≤ k ∧ (∀ cv, ∃ t' sz' at' v'' pk' tc' b' k' w' s' sw', fX6_readItem fu (nI k) L ct size (nI e) cv (nI pl) planks tc bank kind word slow sworn (nI it) = some (0, t', sz', at', v'', nI f, pk', tc', b', k', w', s', sw')) ∧ fX9_gorge_b25_body fu T r25 (nI it) dr dn (nI e) (nI k) v (nI pl) (-1) rt told s ik th sm um = r25 (nI it + 1) dr' dn' a' (nI k) v' p' (nI f) tk told s ik th sm um) ∨ (∃ i' N' P' bk' kd' wd' sl' dr' dn' planks' size' sworn' bank' kind' word' slow' tc' pl' e' ct' rt' w' v', (i < i' ∧ i' ≤ k) ∧ DR N' P' bk' kd' wd' sl' dr' dn' planks' size' sworn' bank' kind' word' slow' tc' ∧ DT fu k L i' pl' e' ct' rt' w' v' ∧ (∀ cv, ∃ t' v'' p'', fX6_readItem fu (nI k) L ct size (nI e) cv (nI pl) planks tc bank kind word slow sworn (nI it) = some (1, t', size', nI i', v'', p'', planks', tc', bank', kind', word', slow', sworn')) ∧ fX9_gorge_b25_body fu T r25 (nI it) dr dn (nI e) (nI k) v (nI pl) (-1) rt told s ik th sm um = r25 (nI it + 1) dr' dn' (nI e') (nI k) v' (nI pl') (-1) rt' told s ik th sm um) := by
  have hk := h.1
  obtain ⟨hX, hV⟩ := id hD
  obtain ⟨-, ⟨hX2, hX3, hX4⟩, hX5⟩ := id hX
  obtain ⟨f1, f2⟩ := firstW (r25 := r25) (dr := dr) (dn := dn) (told := told) (s := s) (ik := ik) (th := th) (sm := sm) (um := um) (v := v) (rt := rt) (it := it) (w := 0) (pl := pl) hfu h hX4 (show pl ≤ k by omega) h0
  have bad : (ct ≠ 110 ∧ ct ≠ 117 ∧ ct ≠ 118 ∧ ct ≠ 120) → (rt ≠ 1 ∨ fX9_mayBegin fu v dr (nI it) = some 0) → (∃ f tk v' p' a' dr' dn', f ≤ k ∧ (∀ cv, ∃ t' sz' at' v'' pk' tc' b' k' w' s' sw', fX6_readItem fu (nI k) L ct size (nI e) cv (nI pl) planks tc bank kind word slow sworn (nI it) = some (0, t', sz', at', v'', nI f, pk', tc', b', k', w', s', sw')) ∧ fX9_gorge_b25_body fu T r25 (nI it) dr dn (nI e) (nI k) v (nI pl) (-1) rt told s ik th sm um = r25 (nI it + 1) dr' dn' a' (nI k) v' p' (nI f) tk told s ik th sm um) := fun q1 q2 => ⟨pl, rt, v, nI pl, nI e, dr, dn, by omega, fun cv => ⟨ct, size, nI e, cv, planks, tc, bank, kind, word, slow, sworn, rdItem0 q1⟩, f1 q2⟩
  rcases id hX5 with ⟨q1, q2⟩ | ⟨q1, q2, -⟩ | ⟨q1, q2, -⟩ | ⟨q1, q0, q2, -⟩ | ⟨q1, q2, q3, q4, q5⟩
  · exact absurd q2 h0
  · exact Or.inl (bad (by rw [q1]; decide) (Or.inl (by rw [q2]; decide)))
  · exact Or.inl (bad (by rw [q1]; decide) (Or.inl (by rw [q2]; decide)))
  · exact Or.inl (bad (by rw [q1, q0]; decide) (Or.inl (by rw [q2]; decide)))
  · have hv : v = nI w := hV (by rw [q2]; decide) (by rw [q2]; decide)
    have eq : ∀ y, y < 2 ^ 31 → (nI w = nI y ↔ w = y) := fun y hy => nI_eq (by omega) hy
    by_cases h117 : w = 117
    · exact persItem (b := 0) hfu h hR ⟨q5, hX4, by omega⟩ (by omega) q2 (by rw [q1, h117]) (by rw [hv, h117])
    by_cases h118 : w = 118
    · exact persItem (b := 1) hfu h hR ⟨q5, hX4, by omega⟩ (by omega) q2 (by rw [q1, h118]) (by rw [hv, h118])
    by_cases h120 : w = 120
    · exact promItem hfu h hR ⟨q5, hX4, by omega⟩ q2 (by rw [q1, h120]; rfl) (by rw [hv, h120]; rfl)
    by_cases h110 : w = 110
    · by_cases hi0 : it = 0
      · have hN0 := hit hi0
        subst hi0
        subst hN0
        exact nItem hfu h hR ⟨q5, hX4, by omega⟩ q2 (by rw [q1, h110]; rfl) (by rw [hv, h110]; rfl)
      · left
        refine ⟨pl, rt, v, nI pl, nI e, dr, dn, by omega, fun cv => ⟨ct, size, nI e, cv, planks, tc, bank, kind, word, slow, sworn, ?_⟩, f1 (Or.inr ?_)⟩
        · unfold fX6_readItem
          rw [if_pos (show ct = 110 by rw [q1, h110]; rfl), if_neg (nI_ne0 (by omega) (by omega))]
        · unfold fX9_mayBegin
          rw [if_pos (show v = 110 by rw [hv, h110]; rfl), if_neg (nI_ne0 (by omega) (by omega))]
    · left
      refine bad ⟨?_, ?_, ?_, ?_⟩ (Or.inr ?_)
      · rw [q1]; exact fun z => h110 ((eq 110 (by omega)).mp z)
      · rw [q1]; exact fun z => h117 ((eq 117 (by omega)).mp z)
      · rw [q1]; exact fun z => h118 ((eq 118 (by omega)).mp z)
      · rw [q1]; exact fun z => h120 ((eq 120 (by omega)).mp z)
      · unfold fX9_mayBegin
        rw [hv, if_neg (show ¬ nI w = 110 from fun z => h110 ((eq 110 (by omega)).mp z)), if_neg (show ¬ nI w = 117 from fun z => h117 ((eq 117 (by omega)).mp z)), if_neg (show ¬ nI w = 118 from fun z => h118 ((eq 118 (by omega)).mp z)), if_neg (show ¬ nI w = 120 from fun z => h120 ((eq 120 (by omega)).mp z))]
