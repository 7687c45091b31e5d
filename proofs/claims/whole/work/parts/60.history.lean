-- what can be undone
theorem PR_congr {N P d x : Nat} {came under due r came' under' due' r' : Nat → Int32} (hN : N ≤ 8) (h : PR N P d x came under due r) (hc : ∀ p, p < 8 → came' p = came p) (hu : ∀ p, p < 8 → under' p = under p) (hdu : ∀ p, p < 64 → due' p = due p) (hr : ∀ j, j < 66 → r' j = r j) : PR N P d x came' under' due' r' := by
  have e1 : ∀ p, p < 8 → cs N r' p = cs N r p := fun p hp => cs_congr hN hp hr
  have e2 : ∀ p, p < 8 → us N r' p = us N r p := fun p hp => mkS_congr (fun a ha => by rw [hr (2 + 8 * a + p) (by omega)])
  refine ⟨⟨by rw [hr 0 (by omega)]; exact h.1.1, by rw [hr 1 (by omega)]; exact h.1.2⟩, ?_, ?_⟩
  · intro p hp
    rw [hc p hp, hu p hp, e1 p hp, e2 p hp]
    exact h.2.1 p hp
  · intro a p ha hp
    rw [hr (2 + 8 * a + p) (by omega), hdu (8 * p + a) (by omega)]
    exact h.2.2 a p ha hp
def up {α : Type} (f : Nat → α) (t : Nat) (x : α) : Nat → α := fun j => if j = t then x else f j
theorem up_at {α : Type} (f : Nat → α) (t : Nat) (x : α) : up f t x t = x := if_pos rfl
theorem up_ne {α : Type} {f : Nat → α} {t j : Nat} {x : α} (h : j ≠ t) : up f t x j = f j := if_neg h
/-- a state in the class beside a row -/
def ST (N P : Nat) (day crossed : Int32) (came under due r : Nat → Int32) : Prop := ∃ d x, d ≤ 999 ∧ x ≤ 999 ∧ day = nI d ∧ crossed = nI x ∧ PR N P d x came under due r
theorem ST_congr {N P : Nat} {day crossed : Int32} {came under due r came' under' due' r' : Nat → Int32} (hN : N ≤ 8) (h : ST N P day crossed came under due r) (hc : ∀ p, p < 8 → came' p = came p) (hu : ∀ p, p < 8 → under' p = under p) (hdu : ∀ p, p < 64 → due' p = due p) (hr : ∀ j, j < 66 → r' j = r j) : ST N P day crossed came' under' due' r' := by
  obtain ⟨d, x, h1, h2, h3, h4, h5⟩ := h
  exact ⟨d, x, h1, h2, h3, h4, PR_congr hN h5 hc hu hdu hr⟩
def HR (N P k t : Nat) (rc ru rdu : Nat → Nat → Int32) (rday rcr : Nat → Int32) (U : Nat → Int32) : Prop := k ≤ 10 ∧ t < 10 ∧ ∀ i, i < k → ST N P (rday ((t + 10 - k + i) % 10)) (rcr ((t + 10 - k + i) % 10)) (rc ((t + 10 - k + i) % 10)) (ru ((t + 10 - k + i) % 10)) (rdu ((t + 10 - k + i) % 10)) (fun y => U (66 * i + y))
theorem cpy8 (f g : Nat → Int32) {n p : Nat} (h : p < n) : va_cpy f g 0 0 n p = f p := by
  unfold va_cpy
  rw [if_pos ⟨Nat.zero_le _, by omega⟩]
  simp
theorem rjN {n j : Nat} (h : j < n) (hn : n < 2 ^ 31) : rj n (nI j) j = some () := by
  unfold rj
  rw [nI_clamp (by omega), if_neg]
  rintro (q | q | q)
  · exact absurd q (nI_nlt (b := 0) (by omega) (by omega))
  · omega
  · exact q rfl
/-- a row laid into a longer one -/
def lay (U f : Nat → Int32) (a l : Nat) : Nat → Int32 := fun j => if a ≤ j ∧ j < a + l then f (j - a) else U j
theorem lay_0 (U f : Nat → Int32) (a : Nat) : lay U f a 0 = U := funext fun j => if_neg (by omega)
theorem lay_s (U f : Nat → Int32) (a l : Nat) : upd (lay U f a l) (a + l) (f l) = lay U f a (l + 1) := by
  funext j
  unfold lay
  by_cases e : j = a + l
  · rw [e, upd_at, if_pos (by omega)]
    congr 1; omega
  · rw [upd_ne e]
    by_cases h : a ≤ j ∧ j < a + l
    · rw [if_pos h, if_pos (by omega)]
    · rw [if_neg h, if_neg (by omega)]
theorem notes_b47 {fu k : Nat} {r U : Nat → Int32} (hfu : 67 ≤ fu) (hk : k < 10) : fX9_notes_b47 fu r fu 0 (nI k) U = some (nI (k + 1), lay U r (66 * k) 66) := by
  have := lp (N := 66) (r := some (nI (k + 1), lay U r (66 * k) 66)) (G := fun n l => fX9_notes_b47 fu r n (nI l) (nI k) (lay U r (66 * k) l)) ?_ ?_ 66 0 fu (by omega) (by omega)
  · rw [← this]
    simp only [lay_0]
    rfl
  · intro n
    show fX9_notes_b47_body fu r _ _ _ _ = _
    unfold fX9_notes_b47_body
    rw [if_pos (by decide), nI_succ]
  · intro n l hl
    right
    show fX9_notes_b47_body fu r _ _ _ _ = _
    unfold fX9_notes_b47_body
    rw [if_neg (show ¬ 66 ≤ nI l from nI_ge (b := 66) (by omega) (by decide)), bdS (rdN (by omega) (by decide)), show (66 : Int32) * nI k = nI (66 * k) from pk_mul 66 k, nI_add, bdS (wrN (by omega) (by decide)), lay_s, nI_succ]
/-- all of a row moved down -/
def shf (U : Nat → Int32) (l : Nat) : Nat → Int32 := fun j => if j < l then U (j + 66) else U j
theorem notes_b11 {fu : Nat} {r U : Nat → Int32} (hfu : 595 ≤ fu) : fX9_notes_b11 fu r fu 0 10 U = some (nI 10, lay (shf U 594) r (66 * 9) 66) := by
  have e0 : shf U 0 = U := funext fun j => if_neg (by omega)
  have := lp (N := 594) (r := some (nI 10, lay (shf U 594) r (66 * 9) 66)) (G := fun n l => fX9_notes_b11 fu r n (nI l) 10 (shf U l)) ?_ ?_ 594 0 fu (by omega) (by omega)
  · rw [← this]
    simp only [e0]
    rfl
  · intro n
    show fX9_notes_b11_body fu r _ _ _ _ = _
    unfold fX9_notes_b11_body
    rw [if_pos (by decide)]
    exact notes_b47 (k := 9) (by omega) (by omega)
  · intro n l hl
    right
    show fX9_notes_b11_body fu r _ _ _ _ = _
    unfold fX9_notes_b11_body
    have e : upd (shf U l) l (shf U l (l + 66)) = shf U (l + 1) := by
      funext j
      unfold shf
      by_cases h : j = l
      · rw [h, upd_at, if_neg (show ¬ l + 66 < l by omega), if_pos (show l < l + 1 by omega)]
      · rw [upd_ne h]
        by_cases h2 : j < l
        · rw [if_pos h2, if_pos (by omega)]
        · rw [if_neg h2, if_neg (by omega)]
    rw [if_neg (show ¬ 594 ≤ nI l from nI_ge (b := 594) (by omega) (by decide)), show nI l + 66 = nI (l + 66) from nI_add l 66, bdS (rdN (by omega) (by decide)), bdS (wrN (by omega) (by decide)), e, nI_succ]
theorem lay_in (U f : Nat → Int32) {a l y : Nat} (h : y < l) : lay U f a l (a + y) = f y := by
  unfold lay
  rw [if_pos (by omega)]
  congr 1; omega
theorem lay_out (U f : Nat → Int32) {a l y : Nat} (h : y < a ∨ a + l ≤ y) : lay U f a l y = U y := if_neg (by omega)
theorem q_note {N P k t : Nat} {day crossed : Int32} {came under due r U : Nat → Int32} {rc ru rdu : Nat → Nat → Int32} {rday rcr : Nat → Int32} {fu : Nat} (hfu : 600 ≤ fu) (hN : N ≤ 8) (hH : HR N P k t rc ru rdu rday rcr U) (hS : ST N P day crossed came under due r) : ∃ k' t' c' u' du' U', fX3_remember fu t day crossed came under due (nI t) (rc t) (ru t) (rdu t) (nI k) (rday t) (rcr t) = some (nI t', c', u', du', nI k', day, crossed) ∧ fX9_notes fu r (nI k) U = some (nI k', U') ∧ HR N P k' t' (up rc t c') (up ru t u') (up rdu t du') (up rday t day) (up rcr t crossed) U' := by
  obtain ⟨hk, ht, hI⟩ := hH
  have hX : ∀ t' k', (t + 1 = 10 ∧ t' = 0 ∨ t + 1 < 10 ∧ t' = t + 1) → k' = min (k + 1) 10 → fX3_remember fu t day crossed came under due (nI t) (rc t) (ru t) (rdu t) (nI k) (rday t) (rcr t) = some (nI t', va_cpy came (rc t) 0 0 8, va_cpy under (ru t) 0 0 8, va_cpy due (rdu t) 0 0 64, nI k', day, crossed) := by
    intro t' k' h1 h2
    unfold fX3_remember fX5_become fX3_remember_b35
    rw [bdS (rjN ht (by decide)), ← nI_succ, ← nI_succ, show (10 : Int32) = nI 10 from rfl, mnN (by omega) (by omega), ← h2]
    rcases h1 with ⟨h3, h4⟩ | ⟨h3, h4⟩
    · show (if nI 10 ≤ nI (t + 1) then _ else _) = _
      rw [if_pos (nI_le (by omega) (by omega)), h4]; rfl
    · show (if nI 10 ≤ nI (t + 1) then _ else _) = _
      rw [if_neg (nI_ge (by omega) (by omega)), h4]
  have hnew : ∀ (U' : Nat → Int32) i, (∀ y, y < 66 → U' (66 * i + y) = r y) → ST N P day crossed (va_cpy came (rc t) 0 0 8) (va_cpy under (ru t) 0 0 8) (va_cpy due (rdu t) 0 0 64) (fun y => U' (66 * i + y)) := fun U' i h => ST_congr hN hS (fun p hp => cpy8 _ _ hp) (fun p hp => cpy8 _ _ hp) (fun p hp => cpy8 _ _ hp) h
  obtain ⟨t', ht'⟩ : ∃ t', t + 1 = 10 ∧ t' = 0 ∨ t + 1 < 10 ∧ t' = t + 1 := by
    by_cases e : t + 1 = 10
    · exact ⟨0, Or.inl ⟨e, rfl⟩⟩
    · exact ⟨t + 1, Or.inr ⟨by omega, rfl⟩⟩
  by_cases h10 : k = 10
  · refine ⟨10, t', _, _, _, lay (shf U 594) r (66 * 9) 66, hX t' 10 ht' (by omega), ?_, by omega, by omega, ?_⟩
    · unfold fX9_notes
      rw [h10, if_pos (by decide)]
      exact notes_b11 (by omega)
    · intro i hi
      by_cases h9 : i = 9
      · have e : (t' + 10 - 10 + i) % 10 = t := by omega
        rw [e]
        simp only [up_at]
        exact hnew _ i (fun y hy => by rw [h9]; exact lay_in _ _ hy)
      · have e : (t' + 10 - 10 + i) % 10 = (t + 10 - k + (i + 1)) % 10 := by omega
        have e2 : (t + 10 - k + (i + 1)) % 10 ≠ t := by omega
        rw [e]
        simp only [up_ne e2]
        refine ST_congr hN (hI (i + 1) (by omega)) (fun _ _ => rfl) (fun _ _ => rfl) (fun _ _ => rfl) (fun y hy => ?_)
        rw [lay_out _ _ (by omega)]
        unfold shf
        rw [if_pos (by omega)]
        congr 1; omega
  · refine ⟨k + 1, t', _, _, _, lay U r (66 * k) 66, hX t' (k + 1) ht' (by omega), ?_, by omega, by omega, ?_⟩
    · unfold fX9_notes
      rw [if_neg (show ¬ nI k = 10 from fun q => h10 (nI_inj (b := 10) (by omega) (by decide) q))]
      exact notes_b47 (by omega) (by omega)
    · intro i hi
      by_cases h9 : i = k
      · have e : (t' + 10 - (k + 1) + i) % 10 = t := by omega
        rw [e]
        simp only [up_at]
        exact hnew _ i (fun y hy => by rw [h9]; exact lay_in _ _ hy)
      · have e : (t' + 10 - (k + 1) + i) % 10 = (t + 10 - k + i) % 10 := by omega
        have e2 : (t + 10 - k + i) % 10 ≠ t := by omega
        rw [e]
        simp only [up_ne e2]
        refine ST_congr hN (hI i (by omega)) (fun _ _ => rfl) (fun _ _ => rfl) (fun _ _ => rfl) (fun y hy => ?_)
        rw [lay_out _ _ (by omega)]
theorem q_undo {N P k t : Nat} {day crossed th : Int32} {came under due r U : Nat → Int32} {rc ru rdu : Nat → Nat → Int32} {rday rcr : Nat → Int32} {fu : Nat} (hfu : 600 ≤ fu) (hN : N ≤ 8) (hH : HR N P k t rc ru rdu rday rcr U) (hS : ST N P day crossed came under due r) : ∃ g k' t' v c' u' du' day' cr' r', g < 10 ∧ fX8_undo fu g (rday g) (rcr g) (rc g) (ru g) (rdu g) (nI k) (nI t) came under due day crossed = some (v, nI k', nI t', c', u', du', day', cr') ∧ fX9_undo fu U (nI k) r th = some (v, nI k', r', 0) ∧ HR N P k' t' rc ru rdu rday rcr U ∧ ST N P day' cr' c' u' du' r' := by
  by_cases h0 : k = 0
  · refine ⟨0, k, t, -2, came, under, due, day, crossed, r, by omega, ?_, ?_, hH, hS⟩
    · unfold fX8_undo
      rw [if_neg (by rw [h0]; decide)]
    · unfold fX9_undo
      rw [if_pos (by rw [h0]; rfl)]
  · obtain ⟨hk, ht, hI⟩ := hH
    obtain ⟨k, rfl⟩ : ∃ q, k = q + 1 := ⟨k - 1, by omega⟩
    obtain ⟨t', ht'⟩ : ∃ t', t = 0 ∧ t' = 9 ∨ t = t' + 1 := by
      by_cases e : t = 0
      · exact ⟨9, Or.inl ⟨e, rfl⟩⟩
      · exact ⟨t - 1, Or.inr (by omega)⟩
    have e1 : (t + 10 - (k + 1) + k) % 10 = t' := by omega
    have hT := hI k (by omega)
    rw [e1] at hT
    refine ⟨t', k, t', nI k, va_cpy (rc t') came 0 0 8, va_cpy (ru t') under 0 0 8, va_cpy (rdu t') due 0 0 64, rday t', rcr t', lay r (fun y => U (66 * k + y)) 0 66, by omega, ?_, ?_, ⟨by omega, by omega, ?_⟩, ?_⟩
    · unfold fX8_undo fX3_restore fX3_restore_b27 fX5_become
      have p0 := nIp0 (a := k + 1) (by omega) (by omega)
      have es : nI (k + 1) - 1 = nI k := by
        rw [show (1 : Int32) = nI 1 from rfl, pk_sub (by omega)]; rfl
      rw [if_pos p0, if_pos p0, es]
      rcases ht' with ⟨a, b⟩ | a
      · rw [if_pos (by rw [a]; decide), show (9 : Int32) = nI t' by rw [b]; rfl, rjN (by omega) (by decide)]
        rfl
      · rw [if_neg (by rw [a]; exact nI_ge (a := 0) (by omega) (by omega)), show nI t - 1 = nI t' by rw [a, show (1 : Int32) = nI 1 from rfl, pk_sub (by omega)]; rfl, rjN (by omega) (by decide)]
        rfl
    · unfold fX9_undo
      rw [if_neg (show ¬ nI (k + 1) = 0 from fun q => by have := nI_inj (b := 0) (by omega) (by decide) q; omega), show nI (k + 1) - 1 = nI k by rw [show (1 : Int32) = nI 1 from rfl, pk_sub (by omega)]; rfl]
      have := lp (N := 66) (r := some (nI k, nI k, lay r (fun y => U (66 * k + y)) 0 66, (0 : Int32))) (G := fun n l => fX9_undo_b27 fu U n (nI l) (nI k) (lay r (fun y => U (66 * k + y)) 0 l) 0) ?_ ?_ 66 0 fu (by omega) (by omega)
      · rw [← this]
        simp only [lay_0]
        rfl
      · intro n
        show fX9_undo_b27_body fu U _ _ _ _ _ = _
        unfold fX9_undo_b27_body
        rw [if_pos (by decide)]
      · intro n l hl
        right
        show fX9_undo_b27_body fu U _ _ _ _ _ = _
        unfold fX9_undo_b27_body
        have e := lay_s r (fun y => U (66 * k + y)) 0 l
        rw [Nat.zero_add] at e
        rw [if_neg (show ¬ 66 ≤ nI l from nI_ge (b := 66) (by omega) (by decide)), show (66 : Int32) * nI k = nI (66 * k) from pk_mul 66 k, nI_add, bdS (rdN (by omega) (by decide)), bdS (wrN (by omega) (by decide)), e, nI_succ]
    · intro i hi
      have e : (t' + 10 - k + i) % 10 = (t + 10 - (k + 1) + i) % 10 := by omega
      rw [e]
      exact hI i (by omega)
    · refine ST_congr hN hT (fun p hp => cpy8 _ _ hp) (fun p hp => cpy8 _ _ hp) (fun p hp => cpy8 _ _ hp) (fun y hy => ?_)
      have := lay_in r (fun y => U (66 * k + y)) (a := 0) hy
      rw [Nat.zero_add] at this
      exact this
