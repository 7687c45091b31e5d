-- promises, breaks, days, crosses, images
theorem up_self {α : Type} (f : Nat → α) (t : Nat) : up f t (f t) = f := by
  funext j
  unfold up
  by_cases h : j = t
  · rw [if_pos h, h]
  · rw [if_neg h]
theorem HR_self {N P k t g : Nat} {rc ru rdu : Nat → Nat → Int32} {rday rcr U : Nat → Int32} (h : HR N P k t rc ru rdu rday rcr U) : HR N P k t (up rc g (rc g)) (up ru g (ru g)) (up rdu g (rdu g)) (up rday g (rday g)) (up rcr g (rcr g)) U := by
  simp only [up_self]; exact h
theorem cmD_in {N d a p : Nat} {bk sl : Nat → Nat} {r : Nat → Int32} (h : 1 ≤ sl a ∧ sl a ≤ 5) : d < cmD N d bk sl r a p ∧ cmD N d bk sl r a p ≤ d + 6 := by
  unfold cmD
  split <;> omega
theorem q_promises {N P k t : Nat} {bk kd wd sl : Nat → Nat} {day crossed th planks size sworn : Int32} {tl came under due r U bank kind word slow : Nat → Int32} {rc ru rdu : Nat → Nat → Int32} {rday rcr : Nat → Int32} {fu : Nat} (hfu : 600 ≤ fu) (hT : TR N P bk kd wd sl tl) (hF : FR N P bk kd wd sl planks size sworn bank kind word slow) (hH : HR N P k t rc ru rdu rday rcr U) (hS : ST N P day crossed came under due r) (a p : Int32) : ∃ g v under' due' r' k' t' c' u' du' dy' cr' U', g < 10 ∧ fX8_promises fu g size planks came day crossed slow bank under (nI t) (rc g) (ru g) due (rdu g) (nI k) (rday g) (rcr g) a p = some (v, under', nI t', c', u', due', du', nI k', dy', cr') ∧ fX9_promises fu tl r (nI k) U th a p = some (v, r', nI k', U', 0) ∧ HR N P k' t' (up rc g c') (up ru g u') (up rdu g du') (up rday g dy') (up rcr g cr') U' ∧ ST N P day crossed came under' due' r' := by
  obtain ⟨hP1, hP8, hN⟩ := hT.1.2.2
  have ht := hH.2.1
  by_cases ha : og a N
  · exact ⟨0, -1, under, due, r, k, t, _, _, _, _, _, U, by omega, by unfold fX8_promises; rw [bdS ((hasPersonX hF.1.2.1).1 ha)]; rfl, by unfold fX9_promises; rw [bdS ((isPerson9 hT).1 ha)]; rfl, HR_self hH, hS⟩
  by_cases hp : og p P
  · exact ⟨0, -1, under, due, r, k, t, _, _, _, _, _, U, by omega, by unfold fX8_promises; rw [bdS ((hasPersonX hF.1.2.1).2 ha), if10, bdS ((hasPlankX hF.1.1).1 hp)]; rfl, by unfold fX9_promises; rw [bdS ((isPerson9 hT).2 ha), if10, bdS ((isPlank9 hT).1 hp)]; rfl, HR_self hH, hS⟩
  obtain ⟨i, hi, rfl⟩ := og_in ha (by omega)
  obtain ⟨j, hj, rfl⟩ := og_in hp (by omega)
  obtain ⟨d, x, hd, hx, ed, ex, hR⟩ := id hS
  by_cases h0 : r (2 + 8 * i + j) = 0
  · obtain ⟨k', t', c', u', du', U', h1, h2, h3⟩ := q_note hfu hN hH hS
    have hsl := (hT.wf.2 i hi).2.2.2
    refine ⟨t, nI (cmD N d bk sl r i j), _, _, _, k', t', c', u', du', day, crossed, U', ht, ?_, ?_, h3, ⟨d, x, hd, hx, ed, ex, PR_post hR hN hP8 (by omega) hi hj h0 (cmD_in (N := N) (d := d) (bk := bk) (r := r) (p := j) hsl)⟩⟩
    · unfold fX8_promises
      rw [bdS ((hasPersonX hF.1.2.1).2 ha), if10, bdS ((hasPlankX hF.1.1).2 hp), if10, bdS (gaveX hR hN (by omega) hi (by omega)), h0, if_pos (by decide), h1, ed]
      show ((fX5_post fu (nI d) slow size bank under due (nI i) (nI j)).bind fun (v15, g16, g17) => some (v15, g16, nI t', c', u', g17, du', nI k', nI d, crossed)) = _
      rw [postX (by omega) hT.wf hF (hR.2.1 j (by omega)).2 hi (by omega)]
      rfl
    · unfold fX9_promises
      rw [bdS ((isPerson9 hT).2 ha), if10, bdS ((isPlank9 hT).2 hp), if10, ix9, bdS (rdN (by omega) (by decide)), if_pos h0, h2]
      show ((fX9_posts fu tl r (nI i) (nI j)).bind fun (v10, g11) => some (v10, g11, nI k', U', (0 : Int32))) = _
      rw [posts9 (by omega) hT hR.1.1 hi (by omega)]
      rfl
  · refine ⟨0, -2, under, due, r, k, t, _, _, _, _, _, U, by omega, ?_, ?_, HR_self hH, hS⟩
    · have : decide (r (2 + 8 * i + j) ≠ 0) = true := by simp [h0]
      unfold fX8_promises
      rw [bdS ((hasPersonX hF.1.2.1).2 ha), if10, bdS ((hasPlankX hF.1.1).2 hp), if10, bdS (gaveX hR hN (by omega) hi (by omega)), this, if_neg (by decide)]
    · unfold fX9_promises
      rw [bdS ((isPerson9 hT).2 ha), if10, bdS ((isPlank9 hT).2 hp), if10, ix9, bdS (rdN (by omega) (by decide)), if_neg h0]
theorem q_breaks {N P k t : Nat} {bk kd wd sl : Nat → Nat} {day crossed th planks size sworn : Int32} {tl came under due r U bank kind word slow borne : Nat → Int32} {rc ru rdu : Nat → Nat → Int32} {rday rcr : Nat → Int32} {fu : Nat} (hfu : 600 ≤ fu) (hT : TR N P bk kd wd sl tl) (hF : FR N P bk kd wd sl planks size sworn bank kind word slow) (hB : BT N bk kd wd borne) (hH : HR N P k t rc ru rdu rday rcr U) (hS : ST N P day crossed came under due r) (a p : Int32) : ∃ g v came' under' r' k' t' c' u' du' dy' cr' U', g < 10 ∧ fX8_breaks fu g size planks day crossed due borne came under (nI t) (rc g) (ru g) (rdu g) (nI k) (rday g) (rcr g) a p = some (v, came', under', nI t', c', u', du', nI k', dy', cr') ∧ fX9_breaks fu tl r (nI k) U th a p = some (v, r', nI k', U', 0) ∧ HR N P k' t' (up rc g c') (up ru g u') (up rdu g du') (up rday g dy') (up rcr g cr') U' ∧ ST N P day crossed came' under' due r' := by
  obtain ⟨hP1, hP8, hN⟩ := hT.1.2.2
  have ht := hH.2.1
  by_cases ha : og a N
  · exact ⟨0, -1, came, under, r, k, t, _, _, _, _, _, U, by omega, by unfold fX8_breaks; rw [bdS ((hasPersonX hF.1.2.1).1 ha)]; rfl, by unfold fX9_breaks; rw [bdS ((isPerson9 hT).1 ha)]; rfl, HR_self hH, hS⟩
  by_cases hp : og p P
  · exact ⟨0, -1, came, under, r, k, t, _, _, _, _, _, U, by omega, by unfold fX8_breaks; rw [bdS ((hasPersonX hF.1.2.1).2 ha), if10, bdS ((hasPlankX hF.1.1).1 hp)]; rfl, by unfold fX9_breaks; rw [bdS ((isPerson9 hT).2 ha), if10, bdS ((isPlank9 hT).1 hp)]; rfl, HR_self hH, hS⟩
  obtain ⟨i, hi, rfl⟩ := og_in ha (by omega)
  obtain ⟨j, hj, rfl⟩ := og_in hp (by omega)
  obtain ⟨d, x, hd, hx, ed, ex, hR⟩ := id hS
  by_cases h0 : r (2 + 8 * i + j) = 0
  · refine ⟨0, -2, came, under, r, k, t, _, _, _, _, _, U, by omega, ?_, ?_, HR_self hH, hS⟩
    · unfold fX8_breaks
      rw [bdS ((hasPersonX hF.1.2.1).2 ha), if10, bdS ((hasPlankX hF.1.1).2 hp), if10, bdS (gaveX hR hN (by omega) hi (by omega)), h0, if_pos (by decide)]
    · unfold fX9_breaks
      rw [bdS ((isPerson9 hT).2 ha), if10, bdS ((isPlank9 hT).2 hp), if10, ix9, bdS (rdN (by omega) (by decide)), if_pos h0]
  · obtain ⟨k', t', c', u', du', U', h1, h2, h3⟩ := q_note hfu hN hH hS
    have hR2 := PR_drop hR hN hP8 hi hj
    refine ⟨t, nI (brg N P bk kd wd (cs N (upd r (2 + 8 * i + j) 0))), _, _, _, k', t', c', u', du', day, crossed, U', ht, ?_, ?_, h3, ⟨d, x, hd, hx, ed, ex, hR2⟩⟩
    · have : decide (r (2 + 8 * i + j) ≠ 0) = true := by simp [h0]
      unfold fX8_breaks
      rw [bdS ((hasPersonX hF.1.2.1).2 ha), if10, bdS ((hasPlankX hF.1.1).2 hp), if10, bdS (gaveX hR hN (by omega) hi (by omega)), this, if_neg (by decide), h1]
      show ((fX5_drop fu came under (nI i) (nI j)).bind fun (g16, g17) => (fX7_bridge fu g16 borne planks 0).bind fun v18 => some (v18, g16, g17, nI t', c', u', du', nI k', day, crossed)) = _
      rw [dropX hN (hR.2.1 j (by omega)).1 (hR.2.1 j (by omega)).2 (by omega) (by omega)]
      show ((fX7_bridge fu _ borne planks 0).bind _) = _
      rw [bdS (brX0 (by omega) hT hF hB hR2)]
    · unfold fX9_breaks
      rw [bdS ((isPerson9 hT).2 ha), if10, bdS ((isPlank9 hT).2 hp), if10, ix9, bdS (rdN (by omega) (by decide)), if_neg h0, h2]
      show ((wr 66 r (nI (2 + 8 * i + j)) 0).bind fun g10 => (fX9_bridge fu tl g10).bind fun v11 => some (v11, g10, nI k', U', (0 : Int32))) = _
      rw [bdS (wrN (by omega) (by decide)), bdS (bridge9 hT (by omega))]
theorem q_days {N P k t : Nat} {day crossed th : Int32} {came under due r U : Nat → Int32} {rc ru rdu : Nat → Nat → Int32} {rday rcr : Nat → Int32} {fu : Nat} (hfu : 600 ≤ fu) (hN : N ≤ 8) (hH : HR N P k t rc ru rdu rday rcr U) (hS : ST N P day crossed came under due r) : ∃ g v day' came' under' r' k' t' c' u' du' dy' cr' U', g < 10 ∧ fX8_days fu g crossed due day (nI t) came (rc g) under (ru g) (rdu g) (nI k) (rday g) (rcr g) = some (v, day', nI t', came', c', under', u', du', nI k', dy', cr') ∧ fX9_days fu r (nI k) U th = some (v, r', nI k', U', 0) ∧ HR N P k' t' (up rc g c') (up ru g u') (up rdu g du') (up rday g dy') (up rcr g cr') U' ∧ ST N P day' crossed came' under' due r' := by
  have ht := hH.2.1
  obtain ⟨d, x, hd, hx, ed, ex, hR⟩ := id hS
  by_cases h9 : d = 999
  · refine ⟨0, -2, day, came, under, r, k, t, _, _, _, _, _, U, by omega, ?_, ?_, HR_self hH, hS⟩
    · unfold fX8_days
      rw [ed, h9, if_neg (by decide)]
    · unfold fX9_days
      rw [show (0 : Int32) = nI 0 from rfl, bdS (rdN (by omega) (by decide)), hR.1.1, h9, if_pos (by decide)]
  · obtain ⟨k', t', c', u', du', U', h1, h2, h3⟩ := q_note hfu hN hH hS
    obtain ⟨came', under', h4, h5⟩ := passX (fu := fu) (by omega) hR hN (by omega)
    refine ⟨t, nI (gn r d), nI (d + 1), came', under', go r d, k', t', c', u', du', day, crossed, U', ht, ?_, ?_, h3, ⟨d + 1, x, by omega, hx, rfl, ex, h5⟩⟩
    · unfold fX8_days
      rw [if_pos (by rw [ed]; exact nI_lt (b := 999) (by omega) (by decide)), h1]
      show ((fX5_pass fu due day came under).bind fun (v10, g11, g12, g13) => some (v10, g11, nI t', g12, c', g13, u', du', nI k', day, crossed)) = _
      rw [ed, h4]
      rfl
    · unfold fX9_days
      have : rd 66 r 0 = some (nI d) := by rw [← hR.1.1]; exact rdN (j := 0) (by omega) (by decide)
      rw [bdS this, if_neg (show ¬ nI d = 999 from fun q => h9 (nI_inj (b := 999) (by omega) (by decide) q)), h2]
      show ((fX9_goes fu r).bind fun (v6, g7) => some (v6, g7, nI k', U', (0 : Int32))) = _
      rw [goes9 (by omega) hR.1.1]
      rfl
theorem q_crosses {N P k t : Nat} {bk kd wd sl : Nat → Nat} {day crossed th planks size sworn : Int32} {tl came under due r U bank kind word slow borne : Nat → Int32} {rc ru rdu : Nat → Nat → Int32} {rday rcr : Nat → Int32} {fu : Nat} (hfu : 600 ≤ fu) (hT : TR N P bk kd wd sl tl) (hF : FR N P bk kd wd sl planks size sworn bank kind word slow) (hB : BT N bk kd wd borne) (hH : HR N P k t rc ru rdu rday rcr U) (hS : ST N P day crossed came under due r) (l : Int32) : ∃ g v crossed' r' k' t' c' u' du' dy' cr' U', g < 10 ∧ fX8_crosses fu g came borne planks day under due crossed (nI t) (rc g) (ru g) (rdu g) (nI k) (rday g) (rcr g) l = some (v, crossed', nI t', c', u', du', nI k', dy', cr') ∧ fX9_crosses fu tl r (nI k) U th l = some (v, r', nI k', U', 0) ∧ HR N P k' t' (up rc g c') (up ru g u') (up rdu g du') (up rday g dy') (up rcr g cr') U' ∧ ST N P day crossed' came under due r' := by
  obtain ⟨hP1, hP8, hN⟩ := hT.1.2.2
  have ht := hH.2.1
  have hw : ∀ a, a < N → wd a ≤ 9 := fun a ha => (hT.wf.2 a ha).2.2.1.2
  obtain ⟨d, x, hd, hx, ed, ex, hR⟩ := id hS
  have r1 : rd 66 r 1 = some (nI x) := by rw [← hR.1.2]; exact rdN (j := 1) (by omega) (by decide)
  have hb := brg_le (N := N) (P := P) (bk := bk) (kd := kd) (wd := wd) (C := cs N r) hP1 hw
  rcases load1 (fu := fu) (x := l) with ⟨l1, l2⟩ | ⟨l1, l2, q, hq1, hq2, rfl⟩
  · exact ⟨0, -1, crossed, r, k, t, _, _, _, _, _, U, by omega, by unfold fX8_crosses; rw [bdS l2]; rfl, by unfold fX9_crosses; rw [bdS l1]; rfl, HR_self hH, hS⟩
  by_cases hlt : brg N P bk kd wd (cs N r) < q
  · refine ⟨0, -2, crossed, r, k, t, _, _, _, _, _, U, by omega, ?_, ?_, HR_self hH, hS⟩
    · unfold fX8_crosses
      rw [bdS l2, if10]
      split
      · rfl
      · rw [bdS (brX0 (by omega) hT hF hB hR), if_neg (nI_ge hlt (by omega))]
    · unfold fX9_crosses
      rw [bdS l1, if10, bdS (bridge9 hT (by omega)), if_pos (nI_lt hlt (by omega))]
  by_cases h9 : x = 999
  · refine ⟨0, -2, crossed, r, k, t, _, _, _, _, _, U, by omega, ?_, ?_, HR_self hH, hS⟩
    · unfold fX8_crosses
      rw [bdS l2, if10, if_pos (by rw [ex, h9]; decide)]
    · unfold fX9_crosses
      rw [bdS l1, if10, bdS (bridge9 hT (by omega)), if_neg (nI_nlt (by omega) (by omega)), bdS r1, if_pos (by rw [h9]; rfl)]
  · obtain ⟨k', t', c', u', du', U', h1, h2, h3⟩ := q_note hfu hN hH hS
    refine ⟨t, nI (x + 1), nI (x + 1), upd r 1 (nI (x + 1)), k', t', c', u', du', day, crossed, U', ht, ?_, ?_, h3, ⟨d, x + 1, hd, by omega, ed, rfl, ?_⟩⟩
    · unfold fX8_crosses
      rw [bdS l2, if10, if_neg (by rw [ex]; exact nI_ge (b := 999) (by omega) (by decide)), bdS (brX0 (by omega) hT hF hB hR), if_pos (nI_le (by omega) (by omega)), h1, ex, ← nI_succ]
      rfl
    · unfold fX9_crosses
      rw [bdS l1, if10, bdS (bridge9 hT (by omega)), if_neg (nI_nlt (by omega) (by omega)), bdS r1, if_neg (show ¬ nI x = 999 from fun q => h9 (nI_inj (b := 999) (by omega) (by decide) q)), h2]
      show ((rd 66 r 1).bind fun v10 => (wr 66 r 1 (v10 + 1)).bind fun g11 => (rd 66 g11 1).bind fun v12 => some (v12, g11, nI k', U', (0 : Int32))) = _
      rw [bdS r1, ← nI_succ, show wr 66 r 1 (nI (x + 1)) = some (upd r 1 (nI (x + 1))) from wrN (j := 1) (by omega) (by decide)]
      show ((rd 66 (upd r 1 (nI (x + 1))) 1).bind fun v12 => some (v12, upd r 1 (nI (x + 1)), nI k', U', (0 : Int32))) = _
      rw [show rd 66 (upd r 1 (nI (x + 1))) 1 = some (upd r 1 (nI (x + 1)) 1) from rdN (j := 1) (by omega) (by decide), upd_at]
      rfl
    · have e1 : ∀ p, cs N (upd r 1 (nI (x + 1))) p = cs N r p := fun p => mkS_congr (fun a ha => by rw [upd_ne (by omega)])
      have e2 : ∀ p, us N (upd r 1 (nI (x + 1))) p = us N r p := fun p => mkS_congr (fun a ha => by rw [upd_ne (by omega)])
      refine ⟨⟨by rw [upd_ne (by omega)]; exact hR.1.1, upd_at _ _ _⟩, fun p hp => by rw [e1, e2]; exact hR.2.1 p hp, fun a p ha hp => ?_⟩
      rw [upd_ne (by omega)]
      exact hR.2.2 a p ha hp
/-- the two images -/
def IR (N P : Nat) (kp ik : Nat → Int32) (ic iu idu : Nat → Nat → Int32) (iday icr K : Nat → Int32) : Prop := ∀ i, i < 2 → kp i = ik i ∧ (ik i = 0 ∨ ik i = 1 ∧ ST N P (iday i) (icr i) (ic i) (iu i) (idu i) (fun y => K (66 * i + y)))
theorem IR_self {N P g : Nat} {kp ik : Nat → Int32} {ic iu idu : Nat → Nat → Int32} {iday icr K : Nat → Int32} (h : IR N P kp ik ic iu idu iday icr K) : IR N P kp ik (up ic g (ic g)) (up iu g (iu g)) (up idu g (idu g)) (up iday g (iday g)) (up icr g (icr g)) K := by
  simp only [up_self]; exact h
theorem q_keep {N P : Nat} {day crossed th : Int32} {came under due r kp ik K : Nat → Int32} {ic iu idu : Nat → Nat → Int32} {iday icr : Nat → Int32} {fu : Nat} (hfu : 67 ≤ fu) (hN : N ≤ 8) (hI : IR N P kp ik ic iu idu iday icr K) (hS : ST N P day crossed came under due r) (m : Int32) : ∃ g v c' u' du' kp' dy' cr' K' ik', g < 2 ∧ fX8_keep fu g day crossed came under due (ic g) (iu g) (idu g) kp (iday g) (icr g) m = some (v, c', u', du', kp', dy', cr') ∧ fX9_keep fu r K ik th m = some (v, K', ik', 0) ∧ IR N P kp' ik' (up ic g c') (up iu g u') (up idu g du') (up iday g dy') (up icr g cr') K' := by
  rcases rng (fu := fu) (x := m) (lo := 0) (hi := 1) with ⟨h1, h2, -⟩ | ⟨h1, h2, h3, h4⟩
  · exact ⟨0, -1, _, _, _, kp, _, _, K, ik, by omega, by unfold fX8_keep; rw [bdS h2]; rfl, by unfold fX9_keep; rw [bdS h1]; rfl, IR_self hI⟩
  obtain ⟨q, hq, rfl⟩ := nI_of h3
  have hq5 : ¬ 1 < q := fun z => h4 (nI_lt (a := 1) z hq)
  refine ⟨q, day, va_cpy came (ic q) 0 0 8, va_cpy under (iu q) 0 0 8, va_cpy due (idu q) 0 0 64, upd kp q 1, day, crossed, lay K r (66 * q) 66, upd ik q 1, by omega, ?_, ?_, ?_⟩
  · unfold fX8_keep fX5_become
    rw [bdS h2, if10, bdS (rjN (by omega) (by decide)), show vp_nar .boolean 1 = 1 from by decide, wrN (by omega) (by decide)]
    rfl
  · obtain ⟨d, x, hd, hx, ed, ex, hR⟩ := id hS
    unfold fX9_keep
    rw [bdS h1, if10]
    have := lp (N := 66) (r := some (day, lay K r (66 * q) 66, upd ik q 1, (0 : Int32))) (G := fun n l => fX9_keep_b18 fu r n (nI q) (nI l) (lay K r (66 * q) l) ik 0) ?_ ?_ 66 0 fu (by omega) (by omega)
    · rw [← this]
      simp only [lay_0]
      rfl
    · intro n
      show fX9_keep_b18_body fu r _ _ _ _ _ _ = _
      unfold fX9_keep_b18_body
      rw [if_pos (by decide), show vp_nar .boolean 1 = 1 from by decide, bdS (wrN (by omega) (by decide)), show rd 66 r 0 = some (r 0) from rdN (j := 0) (by omega) (by decide), hR.1.1, ed]
      rfl
    · intro n l hl
      right
      show fX9_keep_b18_body fu r _ _ _ _ _ _ = _
      unfold fX9_keep_b18_body
      rw [if_neg (show ¬ 66 ≤ nI l from nI_ge (b := 66) (by omega) (by decide)), bdS (rdN (by omega) (by decide)), show (66 : Int32) * nI q = nI (66 * q) from pk_mul 66 q, nI_add, bdS (wrN (by omega) (by decide)), lay_s, nI_succ]
  · intro i hi
    by_cases e : i = q
    · subst e
      simp only [up_at, upd_at]
      exact ⟨trivial, Or.inr ⟨trivial, ST_congr hN hS (fun p hp => cpy8 _ _ hp) (fun p hp => cpy8 _ _ hp) (fun p hp => cpy8 _ _ hp) (fun y hy => lay_in _ _ hy)⟩⟩
    · simp only [up_ne e, upd_ne e]
      obtain ⟨a, b⟩ := hI i hi
      refine ⟨a, b.imp id (fun c => ⟨c.1, ST_congr hN c.2 (fun _ _ => rfl) (fun _ _ => rfl) (fun _ _ => rfl) (fun y hy => lay_out _ _ (by omega))⟩)⟩
theorem q_back {N P k t : Nat} {day crossed th : Int32} {came under due r kp ik K U : Nat → Int32} {ic iu idu rc ru rdu : Nat → Nat → Int32} {iday icr rday rcr : Nat → Int32} {fu : Nat} (hfu : 67 ≤ fu) (hN : N ≤ 8) (hI : IR N P kp ik ic iu idu iday icr K) (hH : HR N P k t rc ru rdu rday rcr U) (hS : ST N P day crossed came under due r) (m : Int32) : ∃ g v came' under' due' day' cr' k' r', g < 2 ∧ fX8_back fu g kp (iday g) (icr g) (ic g) (iu g) (idu g) came under due day crossed (nI k) m = some (v, came', under', due', day', cr', nI k') ∧ fX9_back fu ik K r th (nI k) m = some (v, r', 0, nI k') ∧ HR N P k' t rc ru rdu rday rcr U ∧ ST N P day' cr' came' under' due' r' := by
  rcases rng (fu := fu) (x := m) (lo := 0) (hi := 1) with ⟨h1, h2, -⟩ | ⟨h1, h2, h3, h4⟩
  · exact ⟨0, -1, came, under, due, day, crossed, k, r, by omega, by unfold fX8_back; rw [bdS h2]; rfl, by unfold fX9_back; rw [bdS h1]; rfl, hH, hS⟩
  obtain ⟨q, hq, rfl⟩ := nI_of h3
  have hq5 : ¬ 1 < q := fun z => h4 (nI_lt (a := 1) z hq)
  obtain ⟨e1, e2⟩ := hI q (by omega)
  rcases e2 with e2 | ⟨e2, e3⟩
  · refine ⟨0, -2, came, under, due, day, crossed, k, r, by omega, ?_, ?_, hH, hS⟩
    · unfold fX8_back
      rw [bdS h2, if10, bdS (rdN (by omega) (by decide)), e1, e2, if00]
    · unfold fX9_back
      rw [bdS h1, if10, bdS (rdN (by omega) (by decide)), e2, if00]
  · refine ⟨q, iday q, va_cpy (ic q) came 0 0 8, va_cpy (iu q) under 0 0 8, va_cpy (idu q) due 0 0 64, iday q, icr q, 0, lay r (fun y => K (66 * q + y)) 0 66, by omega, ?_, ?_, ⟨by omega, hH.2.1, fun i hi => by omega⟩, ST_congr hN e3 (fun p hp => cpy8 _ _ hp) (fun p hp => cpy8 _ _ hp) (fun p hp => cpy8 _ _ hp) (fun y hy => ?_)⟩
    · unfold fX8_back fX5_become fX3_lose
      rw [bdS h2, if10, bdS (rdN (by omega) (by decide)), e1, e2, if10, bdS (rjN (by omega) (by decide))]
      rfl
    · obtain ⟨d, x, hd, hx, ed, ex, hR⟩ := id e3
      unfold fX9_back
      rw [bdS h1, if10, bdS (rdN (by omega) (by decide)), e2, if10]
      have := lp (N := 66) (r := some (iday q, lay r (fun y => K (66 * q + y)) 0 66, (0 : Int32), nI 0)) (G := fun n l => fX9_back_b30 fu ik K n (nI q) (nI l) (lay r (fun y => K (66 * q + y)) 0 l) 0 (nI k)) ?_ ?_ 66 0 fu (by omega) (by omega)
      · rw [← this]
        simp only [lay_0]
        rfl
      · intro n
        show fX9_back_b30_body fu ik K _ _ _ _ _ _ = _
        unfold fX9_back_b30_body
        have z := lay_in r (fun y => K (66 * q + y)) (a := 0) (l := 66) (y := 0) (by omega)
        rw [if_pos (by decide), show rd 66 (lay r (fun y => K (66 * q + y)) 0 66) 0 = some (lay r (fun y => K (66 * q + y)) 0 66 0) from rdN (j := 0) (by omega) (by decide), show lay r (fun y => K (66 * q + y)) 0 66 0 = nI d from z.trans hR.1.1, ed]
        rfl
      · intro n l hl
        right
        show fX9_back_b30_body fu ik K _ _ _ _ _ _ = _
        unfold fX9_back_b30_body
        have e := lay_s r (fun y => K (66 * q + y)) 0 l
        rw [Nat.zero_add] at e
        rw [if_neg (show ¬ 66 ≤ nI l from nI_ge (b := 66) (by omega) (by decide)), show (66 : Int32) * nI q = nI (66 * q) from pk_mul 66 q, nI_add, bdS (rdN (by omega) (by decide)), bdS (wrN (by omega) (by decide)), e, nI_succ]
    · have := lay_in r (fun y => K (66 * q + y)) (a := 0) hy
      rw [Nat.zero_add] at this
      exact this
