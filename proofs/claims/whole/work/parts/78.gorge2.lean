-- gorge
theorem begins9 {fu : Nat} (hfu : 67 ≤ fu) (dr dn : Nat → Int32) : ∃ g1 g2, fX9_begins fu dr dn = some (g1, g2) ∧ (∀ j, j < 34 → g1 j = if j = 0 then 3 else 0) ∧ ∀ j, j < 66 → g2 j = 0 := by
  have inner : ∀ d : Nat → Int32, (∀ j, j < 34 → d j = 0) → ∃ z : (Nat → Int32) × (Nat → Int32), fX9_begins_b23 fu fu 0 d dn = some z ∧ (∀ j, j < 34 → z.1 j = if j = 0 then 3 else 0) ∧ ∀ j, j < 66 → z.2 j = 0 := fun d hd => by
    refine lpI (N := 66) (k0 := 0) (F := fun m j x => fX9_begins_b23 fu m (nI j) d x) (I := fun j x => ∀ i, i < j → x i = 0) ?_ ?_ 66 0 fu dn (Nat.le_refl _) (fun i hi => by omega) (by omega) (by omega)
    · intro m x hI
      refine ⟨(upd d 0 3, x), ?_, fun j hj => ?_, hI⟩
      · show fX9_begins_b23_body fu _ _ _ _ = _
        unfold fX9_begins_b23_body
        rw [if_pos (show 66 ≤ nI 66 by decide), bdS (show wr 34 d 0 3 = some (upd d 0 3) from wrN (j := 0) (by omega) (by decide))]
      · show upd d 0 3 j = _
        by_cases e : j = 0
        · rw [if_pos e, e, upd_at]
        · rw [if_neg e, upd_ne e]; exact hd j hj
    · intro m j x _ hj hI
      right
      refine ⟨upd x j 0, fun i hi => ?_, ?_⟩
      · by_cases e : i = j
        · rw [e, upd_at]
        · rw [upd_ne e]; exact hI i (by omega)
      · show fX9_begins_b23_body fu _ _ _ _ = _
        unfold fX9_begins_b23_body
        rw [if_neg (show ¬ 66 ≤ nI j from nI_ge (b := 66) hj (by omega)), bdS (wrN hj (by decide)), ← nI_succ]
  have outer : ∃ z : (Nat → Int32) × (Nat → Int32), fX9_begins_b2 fu fu 0 dr dn = some z ∧ (∀ j, j < 34 → z.1 j = if j = 0 then 3 else 0) ∧ ∀ j, j < 66 → z.2 j = 0 := by
    refine lpI (N := 34) (k0 := 0) (F := fun m j x => fX9_begins_b2 fu m (nI j) x dn) (I := fun j x => ∀ i, i < j → x i = 0) ?_ ?_ 34 0 fu dr (Nat.le_refl _) (fun i hi => by omega) (by omega) (by omega)
    · intro m x hI
      obtain ⟨z, h1, h2⟩ := inner x hI
      refine ⟨z, ?_, h2⟩
      show fX9_begins_b2_body fu _ _ _ _ = _
      unfold fX9_begins_b2_body
      rw [if_pos (show 34 ≤ nI 34 by decide)]
      exact h1
    · intro m j x _ hj hI
      right
      refine ⟨upd x j 0, fun i hi => ?_, ?_⟩
      · by_cases e : i = j
        · rw [e, upd_at]
        · rw [upd_ne e]; exact hI i (by omega)
      · show fX9_begins_b2_body fu _ _ _ _ = _
        unfold fX9_begins_b2_body
        rw [if_neg (show ¬ 34 ≤ nI j from nI_ge (b := 34) hj (by omega)), bdS (wrN hj (by decide)), ← nI_succ]
  obtain ⟨⟨z1, z2⟩, h1, h2⟩ := outer
  exact ⟨z1, z2, h1, h2⟩
theorem nb0 : vp_nar .boolean 0 = 0 := by decide
theorem settles9 {fu : Nat} (hfu : 67 ≤ fu) (dr dn told s ik : Nat → Int32) (ty sm um : Int32) : ∃ t' s' ik', fX9_settles fu dr dn told s ik ty sm um = some (t', s', ik', 0, 0, 0) ∧ (∀ j, j < 34 → t' j = dr j) ∧ (∀ j, j < 66 → s' j = dn j) ∧ ik' 0 = 0 ∧ ik' 1 = 0 := by
  have inner : ∀ t : Nat → Int32, (∀ j, j < 34 → t j = dr j) → ∃ z : (Nat → Int32) × (Nat → Int32) × (Nat → Int32) × Int32 × Int32 × Int32, fX9_settles_b28 fu dr dn fu 0 t s ik ty sm um = some z ∧ ∃ t' s' ik', z = (t', s', ik', 0, 0, 0) ∧ (∀ j, j < 34 → t' j = dr j) ∧ (∀ j, j < 66 → s' j = dn j) ∧ ik' 0 = 0 ∧ ik' 1 = 0 := fun t ht => by
    refine lpI (N := 66) (k0 := 0) (F := fun m j x => fX9_settles_b28 fu dr dn m (nI j) t x ik ty sm um) (I := fun j x => ∀ i, i < j → x i = dn i) ?_ ?_ 66 0 fu s (Nat.le_refl _) (fun i hi => by omega) (by omega) (by omega)
    · intro m x hI
      refine ⟨_, ?_, t, x, upd (upd ik 0 0) 1 0, rfl, ht, hI, ?_, upd_at _ _ _⟩
      · show fX9_settles_b28_body fu dr dn _ _ _ _ _ _ _ _ = _
        unfold fX9_settles_b28_body
        rw [if_pos (show 66 ≤ nI 66 by decide), nb0, bdS (show wr 2 ik 0 0 = some (upd ik 0 0) from wrN (j := 0) (by omega) (by decide)), bdS (show wr 2 (upd ik 0 0) 1 0 = some (upd (upd ik 0 0) 1 0) from wrN (j := 1) (by omega) (by decide))]
      · rw [upd_ne (by omega), upd_at]
    · intro m j x _ hj hI
      right
      refine ⟨upd x j (dn j), fun i hi => ?_, ?_⟩
      · by_cases e : i = j
        · rw [e, upd_at]
        · rw [upd_ne e]; exact hI i (by omega)
      · show fX9_settles_b28_body fu dr dn _ _ _ _ _ _ _ _ = _
        unfold fX9_settles_b28_body
        rw [if_neg (show ¬ 66 ≤ nI j from nI_ge (b := 66) hj (by omega)), bdS (rdN hj (by decide)), bdS (wrN hj (by decide)), ← nI_succ]
  have outer : ∃ z : (Nat → Int32) × (Nat → Int32) × (Nat → Int32) × Int32 × Int32 × Int32, fX9_settles_b2 fu dr dn fu 0 told s ik ty sm um = some z ∧ ∃ t' s' ik', z = (t', s', ik', 0, 0, 0) ∧ (∀ j, j < 34 → t' j = dr j) ∧ (∀ j, j < 66 → s' j = dn j) ∧ ik' 0 = 0 ∧ ik' 1 = 0 := by
    refine lpI (N := 34) (k0 := 0) (F := fun m j x => fX9_settles_b2 fu dr dn m (nI j) x s ik ty sm um) (I := fun j x => ∀ i, i < j → x i = dr i) ?_ ?_ 34 0 fu told (Nat.le_refl _) (fun i hi => by omega) (by omega) (by omega)
    · intro m x hI
      obtain ⟨z, h1, h2⟩ := inner x hI
      refine ⟨z, ?_, h2⟩
      show fX9_settles_b2_body fu dr dn _ _ _ _ _ _ _ _ = _
      unfold fX9_settles_b2_body
      rw [if_pos (show 34 ≤ nI 34 by decide)]
      exact h1
    · intro m j x _ hj hI
      right
      refine ⟨upd x j (dr j), fun i hi => ?_, ?_⟩
      · by_cases e : i = j
        · rw [e, upd_at]
        · rw [upd_ne e]; exact hI i (by omega)
      · show fX9_settles_b2_body fu dr dn _ _ _ _ _ _ _ _ = _
        unfold fX9_settles_b2_body
        rw [if_neg (show ¬ 34 ≤ nI j from nI_ge (b := 34) hj (by omega)), bdS (rdN hj (by decide)), bdS (wrN hj (by decide)), ← nI_succ]
  obtain ⟨z, h1, t', s', ik', h2, h3⟩ := outer
  exact ⟨t', s', ik', by rw [← h2]; exact h1, h3⟩
theorem leaveX {fu : Nat} (hfu : 9 ≤ fu) (tc : Nat → Int32) (a b d : Int32) : ∃ tc', fX0_leave fu tc a b d = some (tc', 3, 0, 0) ∧ ∀ p, p < 8 → tc' p = 0 := by
  have : ∃ z : (Nat → Int32) × Int32 × Int32 × Int32, fX0_leave fu tc a b d = some z ∧ ∃ tc', z = (tc', 3, 0, 0) ∧ ∀ p, p < 8 → tc' p = 0 := by
    refine lpI (N := 8) (k0 := 0) (F := fun m j x => fX0_leave_b17 fu m (nI j) x 3 0 0) (I := fun j x => ∀ i, i < j → x i = 0) ?_ ?_ 8 0 fu tc (Nat.le_refl _) (fun i hi => by omega) (by omega) (by omega)
    · intro m x hI
      refine ⟨_, ?_, x, rfl, hI⟩
      show fX0_leave_b17_body fu _ _ _ _ _ _ = _
      unfold fX0_leave_b17_body
      rw [if_pos (show 8 ≤ nI 8 by decide)]
    · intro m j x _ hj hI
      right
      refine ⟨upd x j 0, fun i hi => ?_, ?_⟩
      · by_cases e : i = j
        · rw [e, upd_at]
        · rw [upd_ne e]; exact hI i (by omega)
      · show fX0_leave_b17_body fu _ _ _ _ _ _ = _
        unfold fX0_leave_b17_body
        rw [if_neg (show ¬ 8 ≤ nI j from nI_ge (b := 8) hj (by omega)), bdS (wrN hj (by decide)), ← nI_succ]
  obtain ⟨z, h1, tc', h2, h3⟩ := this
  exact ⟨tc', by rw [← h2]; exact h1, h3⟩
theorem beginX {fu : Nat} (hfu : 9 ≤ fu) (tc came under : Nat → Int32) (a b : Int32) : ∃ came' under', fX5_begin fu tc came under a b = some (came', under', 0, 0) ∧ ∀ p, p < 8 → came' p = tc p ∧ under' p = 0 := by
  have : ∃ z : (Nat → Int32) × (Nat → Int32) × Int32 × Int32, fX5_begin fu tc came under a b = some z ∧ ∃ c' u', z = (c', u', 0, 0) ∧ ∀ p, p < 8 → c' p = tc p ∧ u' p = 0 := by
    refine lpI (N := 8) (k0 := 0) (F := fun m j (x : (Nat → Int32) × (Nat → Int32)) => fX5_begin_b12 fu tc m (nI j) x.1 x.2 0 0) (I := fun j x => ∀ i, i < j → x.1 i = tc i ∧ x.2 i = 0) ?_ ?_ 8 0 fu (came, under) (Nat.le_refl _) (fun i hi => by omega) (by omega) (by omega)
    · intro m x hI
      refine ⟨(x.1, x.2, 0, 0), ?_, x.1, x.2, rfl, hI⟩
      show fX5_begin_b12_body fu tc _ _ _ _ _ _ = _
      unfold fX5_begin_b12_body
      rw [if_pos (show 8 ≤ nI 8 by decide)]
    · intro m j x _ hj hI
      right
      refine ⟨(upd x.1 j (tc j), upd x.2 j 0), fun i hi => ?_, ?_⟩
      · show upd x.1 j (tc j) i = tc i ∧ upd x.2 j 0 i = 0
        by_cases e : i = j
        · rw [e, upd_at, upd_at]; exact ⟨rfl, rfl⟩
        · rw [upd_ne e, upd_ne e]; exact hI i (by omega)
      · show fX5_begin_b12_body fu tc _ _ _ _ _ _ = _
        unfold fX5_begin_b12_body
        rw [if_neg (show ¬ 8 ≤ nI j from nI_ge (b := 8) hj (by omega)), bdS (rdN hj (by decide)), bdS (wrN hj (by decide)), bdS (wrN hj (by decide)), ← nI_succ]
  obtain ⟨z, h1, c', u', h2, h3⟩ := this
  exact ⟨c', u', by rw [← h2]; exact h1, h3⟩
theorem gBad {fu f n : Nat} {T : Nat → Int32} {l1 a ty v p t th sm um : Int32} {dr dn told s ik : Nat → Int32} (hf : f < 2 ^ 31) : fX9_gorge_b25 fu T (n + 1) l1 dr dn a ty v p (nI f) t told s ik th sm um = some (-10 - nI f, dr, dn, a, ty, v, p, nI f, t, told, s, ik, th, sm, um) := by
  have e : fX9_isWell fu (nI f) = some 0 := by unfold fX9_isWell; rw [if_pos (nI_pos' hf)]
  show fX9_gorge_b25_body fu T _ _ _ _ _ _ _ _ _ _ _ _ _ _ _ _ = _
  unfold fX9_gorge_b25_body fX9_gorge_b101
  rw [bdS e, if00, bdS e, if00]
theorem gmain {fu k : Nat} {L T : Nat → Int32} {c : Nat → Nat} {th sm um : Int32} {told s ik : Nat → Int32} (hfu : 130 ≤ fu) (h : LC k L T c) : ∀ (m i it n n' N P : Nat) (bk kd wd sl : Nat → Nat) (dr dn bank kind word slow tc : Nat → Int32) (planks size sworn : Int32) (pl e w : Nat) (ct rt v cv cp t0 : Int32), k < i + m → m ≤ n → m + 1 ≤ n' → it ≤ i → i ≤ k → (it = 0 → N = 0) → DR N P bk kd wd sl dr dn planks size sworn bank kind word slow tc → DT fu k L i pl e ct rt w v → ((∃ it' N' P' bk' kd' wd' sl' dr' dn' planks' size' sworn' bank' kind' word' slow' tc' a1 a2 a3 a4, it' ≤ 120 ∧ DR N' P' bk' kd' wd' sl' dr' dn' planks' size' sworn' bank' kind' word' slow' tc' ∧ fX6_readAll_b27 fu L n (nI it) tc (nI k) (nI i) cv cp t0 size planks bank kind word slow sworn = some (nI it', tc', nI k, a1, a2, a3, a4, size', planks', bank', kind', word', slow', sworn') ∧ ∃ a' v' p' tk', fX9_gorge_b25 fu T n' (nI it) dr dn (nI e) (nI k) v (nI pl) (-1) rt told s ik th sm um = fX9_gorge_b101 fu T (nI it') dr' dn' a' (nI k) v' p' (-1) tk' told s ik th sm um) ∨ (∃ f tc' a0 a1 a2 a3 a4 a5 a6 b1 b2 b3 b4 a7 dr' dn' a' v' p' tk', f ≤ 120 ∧ fX6_readAll_b27 fu L n (nI it) tc (nI k) (nI i) cv cp t0 size planks bank kind word slow sworn = some (-10 - nI f, tc', a0, a1, a2, a3, a4, a5, a6, b1, b2, b3, b4, a7) ∧ fX9_gorge_b25 fu T n' (nI it) dr dn (nI e) (nI k) v (nI pl) (-1) rt told s ik th sm um = some (-10 - nI f, dr', dn', a', nI k, v', p', nI f, tk', told, s, ik, th, sm, um))) := by
  have hk := h.1
  intro m
  induction m with
  | zero => intro i it n n' N P bk kd wd sl dr dn bank kind word slow tc planks size sworn pl e w ct rt v cv cp t0 h1 h2 h3 h4 h5; omega
  | succ m ih =>
    intro i it n n' N P bk kd wd sl dr dn bank kind word slow tc planks size sworn pl e w ct rt v cv cp t0 h1 h2 h3 h4 h5 h6 hR hD
    obtain ⟨n, rfl⟩ : ∃ x, n = x + 1 := ⟨n - 1, by omega⟩
    obtain ⟨n', rfl⟩ : ∃ x, n' = x + 1 := ⟨n' - 1, by omega⟩
    obtain ⟨hX, hV⟩ := id hD
    obtain ⟨hX1, ⟨hX2, hX3, hX4⟩, hX5⟩ := id hX
    obtain ⟨-, -, t3, -⟩ := tk2 hX5
    obtain ⟨v1, g1, -⟩ := hX1 cv cp t0
    by_cases h0 : rt = 0
    · left
      refine ⟨it, N, P, bk, kd, wd, sl, dr, dn, planks, size, sworn, bank, kind, word, slow, tc, nI e, v1, nI pl, ct, by omega, hR, ?_, nI e, v, nI pl, rt, ?_⟩
      · show fX6_readAll_b27_body fu L _ _ _ _ _ _ _ _ _ _ _ _ _ _ _ = _
        unfold fX6_readAll_b27_body
        rw [if_neg (nI_nlt (by omega) (by omega)), g1]
        show (if ct = -1 then some (nI it, tc, nI k, nI e, v1, nI pl, ct, size, planks, bank, kind, word, slow, sworn) else _) = _
        rw [if_pos (t3.mpr h0)]
      · show fX9_gorge_b25_body fu T _ _ _ _ _ _ _ _ _ _ _ _ _ _ _ _ = _
        unfold fX9_gorge_b25_body
        rw [bdS (show fX9_isWell fu (-1) = some 1 from rfl), if10, if_pos h0]
    · have cls : fX6_readAll_b27 fu L (n + 1) (nI it) tc (nI k) (nI i) cv cp t0 size planks bank kind word slow sworn = ((fX6_readItem fu (nI k) L ct size (nI e) v1 (nI pl) planks tc bank kind word slow sworn (nI it)).bind fun (v13, g14, g15, g16, g17, g18, g19, g20, g21, g22, g23, g24, g25) => (if v13 = 0 then some (((-10) - g18), g20, nI k, g16, g17, g18, g14, g15, g19, g21, g22, g23, g24, g25) else fX6_readAll_b27 fu L n (nI it + 1) g20 (nI k) g16 g17 g18 g14 g15 g19 g21 g22 g23 g24 g25)) := by
        show fX6_readAll_b27_body fu L _ _ _ _ _ _ _ _ _ _ _ _ _ _ _ = _
        unfold fX6_readAll_b27_body
        rw [if_neg (nI_nlt (by omega) (by omega)), g1]
        show (if ct = -1 then some (nI it, tc, nI k, nI e, v1, nI pl, ct, size, planks, bank, kind, word, slow, sworn) else _) = _
        rw [if_neg (fun z => h0 (t3.mp z))]
      rcases body (r25 := fX9_gorge_b25 fu T n') (told := told) (s := s) (ik := ik) (th := th) (sm := sm) (um := um) hfu h hR h6 (by omega) hD h0 with ⟨f, tk, v', p', a', dr', dn', hf, k1, k2⟩ | ⟨i', N', P', bk', kd', wd', sl', dr', dn', planks', size', sworn', bank', kind', word', slow', tc', pl', e', ct', rt', w', v', ⟨m1, m2⟩, hR', hD', k1, k2⟩
      · right
        obtain ⟨t', sz', at', v'', pk', tc', b', k', w', s', sw', g2⟩ := k1 v1
        obtain ⟨n', rfl⟩ : ∃ x, n' = x + 1 := ⟨n' - 1, by omega⟩
        refine ⟨f, tc', nI k, at', v'', nI f, t', sz', pk', b', k', w', s', sw', dr', dn', a', v', p', tk, by omega, ?_, ?_⟩
        · rw [cls, g2]
          rfl
        · show fX9_gorge_b25_body fu T _ _ _ _ _ _ _ _ _ _ _ _ _ _ _ _ = _
          rw [k2]
          exact gBad (by omega)
      · obtain ⟨t', v'', p'', g2⟩ := k1 v1
        have := ih i' (it + 1) n n' N' P' bk' kd' wd' sl' dr' dn' bank' kind' word' slow' tc' planks' size' sworn' pl' e' w' ct' rt' v' v'' p'' t' (by omega) (by omega) (by omega) (by omega) m2 (by omega) hR' hD'
        have ex : fX6_readAll_b27 fu L (n + 1) (nI it) tc (nI k) (nI i) cv cp t0 size planks bank kind word slow sworn = fX6_readAll_b27 fu L n (nI (it + 1)) tc' (nI k) (nI i') v'' p'' t' size' planks' bank' kind' word' slow' sworn' := by
          rw [cls, g2, nI_succ]
          rfl
        have ey : fX9_gorge_b25 fu T (n' + 1) (nI it) dr dn (nI e) (nI k) v (nI pl) (-1) rt told s ik th sm um = fX9_gorge_b25 fu T n' (nI (it + 1)) dr' dn' (nI e') (nI k) v' (nI pl') (-1) rt' told s ik th sm um := by
          rw [nI_succ]
          exact k2
        rw [ex, ey]
        exact this
theorem kept69 {fu n : Nat} {L : Nat → Int32} {l1 ty len a v p t sz pk sw fs fw : Int32} {tc b1 b2 b3 b4 f1 f2 f3 f4 f5 bo cm un kp : Nat → Int32} {fp dy cr kn gs : Int32} : fX8_gorge_b69 fu L (n + 3) l1 0 ty tc len a v p t sz pk b1 b2 b3 b4 sw f1 f2 f3 f4 f5 fs fw bo cm un kp fp dy cr kn gs = some (l1, ty, tc, len, a, v, p, t, sz, pk, b1, b2, b3, b4, sw, f1, f2, f3, f4, f5, fs, fw, bo, cm, un, upd (upd kp 0 0) 1 0, fp, dy, cr, kn, gs) := by
  show fX8_gorge_b69_body fu L _ _ _ _ _ _ _ _ _ _ _ _ _ _ _ _ _ _ _ _ _ _ _ _ _ _ _ _ _ _ _ _ _ = _
  unfold fX8_gorge_b69_body
  rw [if_neg (show ¬ (2 : Int32) ≤ 0 by decide), nb0, bdS (show wr 2 kp 0 0 = some (upd kp 0 0) from wrN (j := 0) (by omega) (by decide))]
  show fX8_gorge_b69_body fu L _ _ _ _ _ _ _ _ _ _ _ _ _ _ _ _ _ _ _ _ _ _ _ _ _ _ _ _ _ _ _ _ _ = _
  unfold fX8_gorge_b69_body
  rw [if_neg (show ¬ (2 : Int32) ≤ 0 + 1 by decide), nb0, bdS (show wr 2 (upd kp 0 0) (0 + 1) 0 = some (upd (upd kp 0 0) 1 0) from wrN (j := 1) (by omega) (by decide))]
  show fX8_gorge_b69_body fu L _ _ _ _ _ _ _ _ _ _ _ _ _ _ _ _ _ _ _ _ _ _ _ _ _ _ _ _ _ _ _ _ _ = _
  unfold fX8_gorge_b69_body
  rw [if_pos (show (2 : Int32) ≤ 0 + 1 + 1 by decide)]
theorem DR_fresh {g1 g2 tc : Nat → Int32} {bk kd wd sl : Nat → Nat} {bank kind word slow : Nat → Int32} (h1 : ∀ j, j < 34 → g1 j = if j = 0 then 3 else 0) (h2 : ∀ j, j < 66 → g2 j = 0) (h3 : ∀ p, p < 8 → tc p = 0) : DR 0 3 bk kd wd sl g1 g2 3 0 0 bank kind word slow tc := by
  refine ⟨⟨⟨by rw [h1 0 (by omega)]; rfl, by rw [h1 1 (by omega)]; rfl, by omega, by omega, by omega⟩, fun a ha => by omega⟩, ⟨⟨rfl, rfl, rfl⟩, fun a ha => by omega⟩, PR_0 (fun p hp => ?_) ⟨h2 0 (by omega), h2 1 (by omega)⟩ (fun a p ha hp => Or.inl (h2 _ (by omega))) (by omega)⟩
  rw [h3 p hp]
  rfl
theorem TR_congr {N P : Nat} {bk kd wd sl : Nat → Nat} {t t' : Nat → Int32} (h : TR N P bk kd wd sl t) (e : ∀ j, j < 34 → t' j = t j) : TR N P bk kd wd sl t' := by
  have hN := h.1.2.2.2.2
  refine ⟨⟨by rw [e 0 (by omega)]; exact h.1.1, by rw [e 1 (by omega)]; exact h.1.2.1, h.1.2.2⟩, fun a ha => ?_⟩
  obtain ⟨⟨h1, h2, h3, h4⟩, h5⟩ := h.2 a ha
  exact ⟨⟨by rw [e _ (by omega)]; exact h1, by rw [e _ (by omega)]; exact h2, by rw [e _ (by omega)]; exact h3, by rw [e _ (by omega)]; exact h4⟩, h5⟩
theorem gorge9 {fu k : Nat} {T : Nat → Int32} {it' : Nat} {a' v' p' tk' sm um th : Int32} {dr' dn' told s ik : Nat → Int32} (hfu : 67 ≤ fu) : ∃ t' s' ik', fX9_gorge_b101 fu T (nI it') dr' dn' a' (nI k) v' p' (-1) tk' told s ik th sm um = some (nI it', dr', dn', a', 0, v', p', -1, tk', t', s', ik', th, 0, 0) ∧ (∀ j, j < 34 → t' j = dr' j) ∧ (∀ j, j < 66 → s' j = dn' j) ∧ ik' 0 = 0 ∧ ik' 1 = 0 := by
  obtain ⟨t', s', ik', h1, h2⟩ := settles9 hfu dr' dn' told s ik (nI k) sm um
  refine ⟨t', s', ik', ?_, h2⟩
  unfold fX9_gorge_b101
  rw [bdS (show fX9_isWell fu (-1) = some 1 from rfl), if10, h1]
  rfl
theorem exG {fu k : Nat} {L tc tc0 bank kind word slow : Nat → Int32} {x1 x2 x3 x4 x5 x6 x7 x8 : Int32} (hk : k ≤ 120) (l1 : fX0_leave fu tc x7 x6 x8 = some (tc0, 3, 0, 0)) : fX6_readAll fu L tc x1 x2 x3 x4 x5 x6 x7 bank kind word slow x8 (nI k) = fX6_readAll_b27 fu L fu (nI 0) tc0 (nI k) (nI 0) x3 x4 x5 0 3 bank kind word slow 0 := by
  have e : mn (nI k) 120 = nI k := by
    rw [show mn (nI k) 120 = nI (min k 120) from mnN (b := 120) (by omega) (by omega), Nat.min_eq_left (by omega)]
  unfold fX6_readAll
  rw [bdS l1, e, nI_0]
theorem eyG {fu k e pl : Nat} {T dr dn g1 g2 told s ik : Nat → Int32} {ra rv rp rf rt rt0 v0 th sm um : Int32} (b1 : fX9_begins fu dr dn = some (g1, g2)) (hA1 : fX9_advances fu (nI k) T 0 rv rp rt = some (nI e, v0, nI pl, rt0)) : fX9_gorge fu T dr dn ra (nI k) rv rp rf rt told s ik th sm um = fX9_gorge_b25 fu T fu (nI 0) g1 g2 (nI e) (nI k) v0 (nI pl) (-1) rt0 told s ik 0 sm um := by
  unfold fX9_gorge
  rw [bdS b1]
  show ((fX9_advances fu (nI k) T 0 rv rp rt).bind _) = _
  rw [bdS hA1, nI_0]
theorem okG {fu it' : Nat} {L : Nat → Int32} {typed a0 a1 a2 a3 a4 : Int32} {tc tc' bank kind word slow bank' kind' word' slow' fb fk fw fl ft borne bo' cm' un' came under kp : Nat → Int32} {x1 x2 x3 x4 x5 x6 x7 x8 size' sworn' planks' fs fv fp day crossed known seen : Int32} (hfu : 300 ≤ fu) (hit : it' ≤ 120) (hx : fX6_readAll fu L tc x1 x2 x3 x4 x5 x6 x7 bank kind word slow x8 typed = some (nI it', tc', a0, a1, a2, a3, a4, size', planks', bank', kind', word', slow', sworn')) (z1 : fX7_reckonAll fu size' (va_cpy kind' fk 0 0 8) sworn' (va_cpy bank' fb 0 0 8) (va_cpy word' fw 0 0 8) borne = some bo') (w1 : fX5_begin fu (va_cpy tc' ft 0 0 8) came under day crossed = some (cm', un', 0, 0)) : fX8_gorge fu L typed tc x1 x2 x3 x4 x5 x6 x7 bank kind word slow x8 fb fk fw fl ft fs fv borne came under kp fp day crossed known seen = some (nI it', 0, tc', a0, a1, a2, a3, a4, size', planks', bank', kind', word', slow', sworn', va_cpy bank' fb 0 0 8, va_cpy kind' fk 0 0 8, va_cpy word' fw 0 0 8, va_cpy slow' fl 0 0 8, va_cpy tc' ft 0 0 8, size', sworn', bo', cm', un', upd (upd kp 0 0) 1 0, planks', 0, 0, 0, 0) := by
  obtain ⟨n3, en3⟩ : ∃ n, fu = n + 3 := ⟨fu - 3, by omega⟩
  have e69 := kept69 (fu := fu) (n := n3) (L := L) (l1 := nI it') (ty := 0) (tc := tc') (len := a0) (a := a1) (v := a2) (p := a3) (t := a4) (sz := size') (pk := planks') (b1 := bank') (b2 := kind') (b3 := word') (b4 := slow') (sw := sworn') (f1 := va_cpy bank' fb 0 0 8) (f2 := va_cpy kind' fk 0 0 8) (f3 := va_cpy word' fw 0 0 8) (f4 := va_cpy slow' fl 0 0 8) (f5 := va_cpy tc' ft 0 0 8) (fs := size') (fw := sworn') (bo := bo') (cm := cm') (un := un') (kp := kp) (fp := planks') (dy := 0) (cr := 0) (kn := 0) (gs := 0)
  rw [← en3] at e69
  unfold fX8_gorge
  rw [bdS hx]
  refine Eq.trans (if_pos (nI_pos' (by omega))) ?_
  unfold fX0_become fX3_lose
  refine Eq.trans (bdS rfl) ?_
  refine Eq.trans (bdS z1) ?_
  refine Eq.trans (bdS w1) ?_
  refine Eq.trans (bdS rfl) ?_
  exact e69
theorem badG {fu : Nat} {L : Nat → Int32} {typed z a0 a1 a2 a3 a4 a5 a6 a7 : Int32} {c1 c2 c3 c4 tc tc' bank kind word slow fb fk fw fl ft borne came under kp : Nat → Int32} {x1 x2 x3 x4 x5 x6 x7 x8 fs fv fp day crossed known seen : Int32} (hx : fX6_readAll fu L tc x1 x2 x3 x4 x5 x6 x7 bank kind word slow x8 typed = some (z, tc', a0, a1, a2, a3, a4, a5, a6, c1, c2, c3, c4, a7)) (hneg : ¬ (0 : Int32) ≤ z) : fX8_gorge fu L typed tc x1 x2 x3 x4 x5 x6 x7 bank kind word slow x8 fb fk fw fl ft fs fv borne came under kp fp day crossed known seen = some (z, typed, tc', a0, a1, a2, a3, a4, a5, a6, c1, c2, c3, c4, a7, fb, fk, fw, fl, ft, fs, fv, borne, came, under, kp, fp, day, crossed, known, seen) := by
  unfold fX8_gorge
  rw [bdS hx]
  exact if_neg hneg
/-- gorge: either the text was taken, or nothing that is asked later has changed -/
theorem q_gorgeC {fu k : Nat} {L T : Nat → Int32} {th sm um typed ra rv rp rf rt : Int32} {told s ik dr dn tc bank kind word slow fb fk fw fl ft borne came under due kp : Nat → Int32} {x1 x2 x3 x4 x5 x6 x7 x8 fs fv fp day crossed known seen : Int32} (hfu : 300 ≤ fu) (h : LR k L T) (ht : typed = nI k) {Z : Prop} (fz : ∀ (v : Int32) (ty : Int32) (tc' : Nat → Int32) (y1 : Int32) (y2 : Int32) (y3 : Int32) (y4 : Int32) (y5 : Int32) (y6 : Int32) (y7 : Int32) (bank' : Nat → Int32) (kind' : Nat → Int32) (word' : Nat → Int32) (slow' : Nat → Int32) (y8 : Int32) (fb' : Nat → Int32) (fk' : Nat → Int32) (fw' : Nat → Int32) (fl' : Nat → Int32) (ft' : Nat → Int32) (fs' : Int32) (fv' : Int32) (borne' : Nat → Int32) (came' : Nat → Int32) (under' : Nat → Int32) (kp' : Nat → Int32) (fp' : Int32) (day' : Int32) (crossed' : Int32) (known' : Int32) (seen' : Int32) (dr' : Nat → Int32) (dn' : Nat → Int32) (ra' : Int32) (rv' : Int32) (rp' : Int32) (rf' : Int32) (rt' : Int32) (told' : Nat → Int32) (s' : Nat → Int32) (ik' : Nat → Int32) (sm' : Int32) (um' : Int32), fX8_gorge fu L typed tc x1 x2 x3 x4 x5 x6 x7 bank kind word slow x8 fb fk fw fl ft fs fv borne came under kp fp day crossed known seen = some (v, ty, tc', y1, y2, y3, y4, y5, y6, y7, bank', kind', word', slow', y8, fb', fk', fw', fl', ft', fs', fv', borne', came', under', kp', fp', day', crossed', known', seen') → fX9_gorge fu T dr dn ra typed rv rp rf rt told s ik th sm um = some (v, dr', dn', ra', ty, rv', rp', rf', rt', told', s', ik', 0, sm', um') → ((ty = nI k ∧ (fb' = fb ∧ fk' = fk ∧ fw' = fw ∧ fl' = fl ∧ fs' = fs ∧ fv' = fv ∧ fp' = fp) ∧ borne' = borne ∧ (came' = came ∧ under' = under ∧ day' = day ∧ crossed' = crossed) ∧ kp' = kp ∧ known' = known ∧ seen' = seen ∧ (told' = told ∧ s' = s ∧ ik' = ik ∧ sm' = sm ∧ um' = um)) ∨ (ty = 0 ∧ known' = 0 ∧ seen' = 0 ∧ sm' = 0 ∧ um' = 0 ∧ (∀ i, i < 2 → kp' i = 0 ∧ ik' i = 0) ∧ ∃ N' P' bk' kd' wd' sl', TR N' P' bk' kd' wd' sl' told' ∧ FR N' P' bk' kd' wd' sl' fp' fs' fv' fb' fk' fw' fl' ∧ BT N' bk' kd' wd' borne' ∧ ST N' P' day' crossed' came' under' due s')) → Z) : Z := by
  subst ht
  have hL := h.lc
  have hk := h.1
  obtain ⟨tc0, l1, l2⟩ := leaveX (fu := fu) (by omega) tc x7 x6 x8
  obtain ⟨g1, g2, b1, b2, b3⟩ := begins9 (fu := fu) (by omega) dr dn
  have hR0 : DR 0 3 (fun _ => 0) (fun _ => 0) (fun _ => 0) (fun _ => 0) g1 g2 3 0 0 bank kind word slow tc0 := DR_fresh b2 b3 l2
  obtain ⟨pl, e, ct, rt0, w, hX, hA⟩ := lex (fu := fu) (i := 0) (by omega) hL (Nat.zero_le _)
  obtain ⟨v0, hA1, hA2⟩ := hA rv rp rt
  have ex := exG (L := L) (bank := bank) (kind := kind) (word := word) (slow := slow) (x1 := x1) (x2 := x2) (x3 := x3) (x4 := x4) (x5 := x5) hk l1
  have ey := eyG (ra := ra) (rf := rf) (told := told) (s := s) (ik := ik) (th := th) (sm := sm) (um := um) b1 hA1
  rcases gmain (fu := fu) (told := told) (s := s) (ik := ik) (th := 0) (sm := sm) (um := um) (by omega) hL 122 0 0 fu fu 0 3 _ _ _ _ g1 g2 bank kind word slow tc0 3 0 0 pl e w ct rt0 v0 x3 x4 x5 (by omega) (by omega) (by omega) (by omega) (by omega) (fun _ => rfl) hR0 ⟨hX, hA2⟩ with ⟨it', N', P', bk', kd', wd', sl', dr', dn', planks', size', sworn', bank', kind', word', slow', tc', a1, a2, a3, a4, hit, hR', hx, a', v', p', tk', hy⟩ | ⟨f, tc', a0, a1, a2, a3, a4, a5, a6, c1, c2, c3, c4, a7, dr', dn', a', v', p', tk', hf, hx, hy⟩
  · obtain ⟨hT', hF', hP'⟩ := id hR'
    obtain ⟨hP1, hP8, hN⟩ := hT'.1.2.2
    obtain ⟨t', s', ik', y1, y2, y3, y4, y5⟩ := gorge9 (fu := fu) (k := k) (T := T) (it' := it') (a' := a') (v' := v') (p' := p') (tk' := tk') (sm := sm) (um := um) (th := 0) (dr' := dr') (dn' := dn') (told := told) (s := s) (ik := ik) (by omega)
    have hF2 : FR N' P' bk' kd' wd' sl' planks' size' sworn' (va_cpy bank' fb 0 0 8) (va_cpy kind' fk 0 0 8) (va_cpy word' fw 0 0 8) (va_cpy slow' fl 0 0 8) := ⟨hF'.1, fun a ha => by rw [cpy8 _ _ (show a < 8 by omega), cpy8 _ _ (show a < 8 by omega), cpy8 _ _ (show a < 8 by omega), cpy8 _ _ (show a < 8 by omega)]; exact hF'.2 a ha⟩
    obtain ⟨bo', z1, z2⟩ := reckX (fu := fu) (b := borne) hfu hN hF2.1.2.1 hF2.1.2.2 (fun a ha => ⟨(hF2.2 a ha).1, (hF2.2 a ha).2.1, (hF2.2 a ha).2.2.1⟩) (fun a ha => ⟨(hT'.wf.2 a ha).1, (hT'.wf.2 a ha).2.1.2, (hT'.wf.2 a ha).2.2.1.2⟩)
    obtain ⟨cm', un', w1, w2⟩ := beginX (fu := fu) (by omega) (va_cpy tc' ft 0 0 8) came under day crossed
    refine fz (nI it') 0 tc' (nI k) a1 a2 a3 a4 size' planks' bank' kind' word' slow' sworn' (va_cpy bank' fb 0 0 8) (va_cpy kind' fk 0 0 8) (va_cpy word' fw 0 0 8) (va_cpy slow' fl 0 0 8) (va_cpy tc' ft 0 0 8) size' sworn' bo' cm' un' (upd (upd kp 0 0) 1 0) planks' 0 0 0 0 dr' dn' a' v' p' (-1) tk' t' s' ik' 0 0 ?_ ?_ (Or.inr ⟨rfl, rfl, rfl, rfl, rfl, ?_, N', P', bk', kd', wd', sl', TR_congr hT' y2, hF2, z2, 0, 0, by omega, by omega, rfl, rfl, ?_⟩)
    · exact okG hfu hit (ex.trans hx) z1 w1
    · rw [ey, hy, y1]
    · intro i hi
      rcases (by omega : i = 0 ∨ i = 1) with rfl | rfl
      · exact ⟨by rw [upd_ne (by omega), upd_at], y4⟩
      · exact ⟨by rw [upd_at], y5⟩
    · refine PR_congr (came := cm') (under := fun _ => 0) (due := due) (r := dn') hN (PR_0 (fun p hp => ?_) hP'.1 hR'.e2 hN) (fun _ _ => rfl) (fun p hp => (w2 p hp).2) (fun _ _ => rfl) y3
      rw [(w2 p hp).1, cpy8 _ _ hp]
      exact (hP'.2.1 p hp).1
  · have hneg : ¬ (0 : Int32) ≤ -10 - nI f := by
      have : ∀ f, f ≤ 120 → ¬ (0 : Int32) ≤ -10 - nI f := by decide +kernel
      exact this f hf
    generalize (-10 : Int32) - nI f = z at hx hy hneg
    refine fz z (nI k) tc' a0 a1 a2 a3 a4 a5 a6 c1 c2 c3 c4 a7 fb fk fw fl ft fs fv borne came under kp fp day crossed known seen dr' dn' a' v' p' (nI f) tk' told s ik sm um ?_ (by rw [ey, hy]) (Or.inl ⟨rfl, ⟨rfl, rfl, rfl, rfl, rfl, rfl, rfl⟩, rfl, ⟨rfl, rfl, rfl, rfl⟩, rfl, rfl, rfl, rfl, rfl, rfl, rfl, rfl⟩)
    exact badG (ex.trans hx) hneg
