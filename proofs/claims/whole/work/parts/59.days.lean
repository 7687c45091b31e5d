-- a day goes by
def go (r : Nat → Int32) (d : Nat) : Nat → Int32 := fun j => if j = 0 then nI (d + 1) else if 2 ≤ j ∧ j < 66 ∧ r j = nI (d + 2) then -1 else r j
def gn (r : Nat → Int32) (d : Nat) : Nat := cnt 66 (fun k => decide (2 ≤ k) && decide (r k = nI (d + 2)))
theorem goes9 {fu d : Nat} {r : Nat → Int32} (hfu : 65 ≤ fu) (h0 : r 0 = nI d) : fX9_goes fu r = some (nI (gn r d), go r d) := by
  unfold fX9_goes
  rw [show (0 : Int32) = nI 0 from rfl, bdS (rdN (by omega) (by decide)), h0, ← nI_succ, bdS (wrN (by omega) (by decide)), show (2 : Int32) = nI 2 from rfl]
  have st2 : upd r 0 (nI (d + 1)) = fun j => if j = 0 then nI (d + 1) else if 2 ≤ j ∧ j < 2 ∧ r j = nI (d + 2) then -1 else r j := by
    funext j
    by_cases e : j = 0
    · rw [e, upd_at, if_pos rfl]
    · rw [upd_ne e, if_neg e, if_neg (by omega)]
  rw [st2]
  refine lpF (N := 66) (k0 := 2) (G := fun n k => fX9_goes_b11 fu n (nI (cnt k (fun k => decide (2 ≤ k) && decide (r k = nI (d + 2))))) (nI k) (fun j => if j = 0 then nI (d + 1) else if 2 ≤ j ∧ j < k ∧ r j = nI (d + 2) then -1 else r j)) ?_ ?_ 64 2 fu (by omega) (by omega) (by omega)
  · intro n
    show fX9_goes_b11_body fu _ _ _ _ = _
    unfold fX9_goes_b11_body
    rw [if_pos (by decide)]
    rfl
  · intro n k hk2 hk
    right
    show fX9_goes_b11_body fu _ _ _ _ = _
    unfold fX9_goes_b11_body
    rw [if_neg (show ¬ 66 ≤ nI k from nI_ge (b := 66) (by omega) (by decide)), bdS (rdN (by omega) (by decide)), show (0 : Int32) = nI 0 from rfl, bdS (rdN (by omega) (by decide)), if_neg (show ¬ k = 0 by omega), if_neg (show ¬ (2 ≤ k ∧ k < k ∧ r k = nI (d + 2)) by omega), if_pos (show 0 = 0 from rfl), ← nI_succ, ← nI_succ, cnt]
    by_cases h : r k = nI (d + 2)
    · have hw : upd (fun j => if j = 0 then nI (d + 1) else if 2 ≤ j ∧ j < k ∧ r j = nI (d + 2) then -1 else r j) k (-1) = (fun j => if j = 0 then nI (d + 1) else if 2 ≤ j ∧ j < k + 1 ∧ r j = nI (d + 2) then -1 else r j) := by
        funext j
        by_cases e : j = k
        · subst e
          rw [upd_at, if_neg (by omega), if_pos ⟨hk2, by omega, h⟩]
        · rw [upd_ne e]
          by_cases e0 : j = 0
          · rw [if_pos e0, if_pos e0]
          · rw [if_neg e0, if_neg e0]
            by_cases e1 : 2 ≤ j ∧ j < k ∧ r j = nI (d + 2)
            · rw [if_pos e1, if_pos ⟨e1.1, by omega, e1.2.2⟩]
            · rw [if_neg e1, if_neg (fun q => e1 ⟨q.1, by omega, q.2.2⟩)]
      rw [if_pos h, bdS (wrN (by omega) (by decide)), hw, ← nI_succ]
      simp [h, hk2]
    · have hw : (fun j => if j = 0 then nI (d + 1) else if 2 ≤ j ∧ j < k ∧ r j = nI (d + 2) then -1 else r j) = (fun j => if j = 0 then nI (d + 1) else if 2 ≤ j ∧ j < k + 1 ∧ r j = nI (d + 2) then -1 else r j) := by
        funext j
        by_cases e0 : j = 0
        · rw [if_pos e0, if_pos e0]
        · rw [if_neg e0, if_neg e0]
          by_cases e1 : 2 ≤ j ∧ j < k ∧ r j = nI (d + 2)
          · rw [if_pos e1, if_pos ⟨e1.1, by omega, e1.2.2⟩]
          · rw [if_neg e1]
            by_cases e2 : j = k
            · subst e2; rw [if_neg (fun q => h q.2.2)]
            · rw [if_neg (fun q => e1 ⟨q.1, by omega, q.2.2⟩)]
      rw [if_neg h, hw, ← nI_succ]
      simp [h]
theorem go_at {r : Nat → Int32} {d a p : Nat} (ha : a < 8) (hp : p < 8) : go r d (2 + 8 * a + p) = if r (2 + 8 * a + p) = nI (d + 2) then -1 else r (2 + 8 * a + p) := by
  unfold go
  rw [if_neg (by omega)]
  by_cases h : r (2 + 8 * a + p) = nI (d + 2)
  · rw [if_pos ⟨by omega, by omega, h⟩, if_pos h]
  · rw [if_neg (fun q => h q.2.2), if_neg h]
/-- those who will have come -/
def cb (N : Nat) (r : Nat → Int32) (p D : Nat) : Nat := mkS N (fun a => decide (r (2 + 8 * a + p) = -1 ∨ (0 < r (2 + 8 * a + p) ∧ r (2 + 8 * a + p) ≤ nI (D + 1))))
theorem cb_lt (N : Nat) (r : Nat → Int32) (p D : Nat) : cb N r p D < 2 ^ N := mkS_lt _ _
def RR (N P d : Nat) (due r : Nat → Int32) : Prop := ∀ a p, a < 8 → p < 8 → (r (2 + 8 * a + p) = 0 ∨ r (2 + 8 * a + p) = -1 ∨ ∃ e, d < e ∧ e ≤ d + 6 ∧ r (2 + 8 * a + p) = nI (e + 1) ∧ due (8 * p + a) = nI e) ∧ (r (2 + 8 * a + p) ≠ 0 → a < N ∧ p < P)
theorem nle {a b : Nat} (ha : a < 2 ^ 31) (hb : b < 2 ^ 31) : nI a ≤ nI b ↔ a ≤ b := by
  constructor
  · intro h
    rcases Nat.lt_or_ge b a with q | q
    · exact absurd h (nI_ge q ha)
    · exact q
  · intro h; exact nI_le h hb
theorem cs_go {N P d p : Nat} {due r : Nat → Int32} (hR : RR N P d due r) (hN : N ≤ 8) (hp : p < 8) (hd : d < 2 ^ 30) : cs N (go r d) p = cb N r p (d + 1) := by
  apply mkS_congr
  intro a ha
  apply decide_eq_decide.mpr
  rw [go_at (by omega) hp]
  rcases (hR a p (by omega) hp).1 with h | h | ⟨e, h1, h2, h3, -⟩
  · rw [h, if_neg (fun q => by have := nI_inj (a := 0) (by decide) (by omega) q; omega)]
    simp
  · rw [h]
    split <;> simp
  · rw [h3]
    have q := nIp0 (a := e + 1) (by omega) (by omega)
    rw [nle (by omega) (by omega)]
    by_cases e2 : e = d + 1
    · rw [e2, if_pos rfl]; rw [e2] at q
      simp [q]
    · rw [if_neg (fun z => e2 (by have := nI_inj (by omega) (by omega) z; omega))]
      have := (pos_ne q).2
      constructor
      · intro z; exact absurd z this
      · rintro (z | z)
        · exact absurd z this
        · omega
theorem cb_go {N P d p D : Nat} {due r : Nat → Int32} (hR : RR N P d due r) (hN : N ≤ 8) (hp : p < 8) (hd : D < 2 ^ 30) (hD : d + 1 ≤ D) : cb N (go r d) p D = cb N r p D := by
  apply mkS_congr
  intro a ha
  apply decide_eq_decide.mpr
  rw [go_at (by omega) hp]
  rcases (hR a p (by omega) hp).1 with h | h | ⟨e, h1, h2, h3, -⟩
  · rw [h, if_neg (fun q => by have := nI_inj (a := 0) (by decide) (by omega) q; omega)]
  · rw [h]
    split <;> simp
  · rw [h3]
    have q := nIp0 (a := e + 1) (by omega) (by omega)
    by_cases e2 : e = d + 1
    · rw [e2, if_pos rfl]; rw [e2] at q
      have : nI (d + 1 + 1) ≤ nI (D + 1) := (nle (by omega) (by omega)).mpr (by omega)
      simp [q, this]
    · rw [if_neg (fun z => e2 (by have := nI_inj (by omega) (by omega) z; omega))]
theorem cb_now {N P d p : Nat} {due r : Nat → Int32} (hR : RR N P d due r) (hN : N ≤ 8) (hp : p < 8) (hd : d < 2 ^ 30) : cb N r p d = cs N r p := by
  apply mkS_congr
  intro a ha
  apply decide_eq_decide.mpr
  rcases (hR a p (by omega) hp).1 with h | h | ⟨e, h1, h2, h3, -⟩
  · rw [h]; simp
  · rw [h]; simp
  · rw [h3, nle (by omega) (by omega)]
    constructor
    · rintro (z | z)
      · exact z
      · omega
    · intro z; exact Or.inl z
theorem cameByX {N P d p D : Nat} {came under due r : Nat → Int32} {fu : Nat} (hfu : 9 ≤ fu) (hR : RR N P d due r) (hN : N ≤ 8) (hp : p < 8) (hd : d < 2 ^ 30) (hD : D < 2 ^ 30) (hc : came p = nI (cs N r p)) (hu : under p = nI (us N r p)) : fX5_cameBy fu came under due (nI p) (nI D) = some (nI (cb N r p D)) := by
  have h8 := pow8 hN
  have u1 := us_lt N r p
  have c1 := cs_lt N r p
  have fin : cs N r p ||| mkS 8 (fun a => (us N r p).testBit a && decide (due (8 * p + a) ≤ nI D)) = cb N r p D := by
    apply Nat.eq_of_testBit_eq
    intro a
    rw [Nat.testBit_or, cs_bit, mkS_bit, us_bit]
    unfold cb
    rw [mkS_bit]
    by_cases ha : a < N
    · have ha8 : a < 8 := by omega
      rcases (hR a p (by omega) hp).1 with h | h | ⟨e, h1, h2, h3, h4⟩
      · simp [ha, ha8, h]
      · simp [ha, h]
      · have q := nIp0 (a := e + 1) (by omega) (by omega)
        have q2 := (pos_ne q).2
        have q3 : (nI (e + 1) ≤ nI (D + 1)) = (nI e ≤ nI D) := propext (by rw [nle (by omega) (by omega), nle (by omega) (by omega)]; omega)
        rw [h3, h4]
        simp [ha, ha8, q, q2, q3]
    · simp [ha]
  unfold fX5_cameBy
  rw [bdS (rdN hp (by decide)), bdS (rdN hp (by decide)), hc, hu]
  by_cases h0 : us N r p = 0
  · rw [if_pos (by rw [h0]; rfl), ← fin, h0]
    rw [mkS_congr (Q := fun _ => false) (fun a _ => by simp), mkS_ext (n := 0) (by omega) (fun _ _ _ => rfl)]
    simp [mkS]
  · rw [if_neg (show ¬ nI (us N r p) = 0 from fun q => h0 (nI_inj (b := 0) (by omega) (by decide) q)), ← fin]
    have := lp (N := 8) (r := some (nI (cs N r p ||| mkS 8 (fun a => (us N r p).testBit a && decide (due (8 * p + a) ≤ nI D))))) (G := fun n k => fX5_cameBy_b21 fu came under due n (nI p) (nI D) (nI (cs N r p ||| mkS k (fun a => (us N r p).testBit a && decide (due (8 * p + a) ≤ nI D)))) (nI k)) ?_ ?_ 8 0 fu (by omega) (by omega)
    · rw [← this]
      simp [mkS]; rfl
    · intro n
      show fX5_cameBy_b21_body fu came under due _ _ _ _ _ = _
      unfold fX5_cameBy_b21_body
      rw [if_pos (by decide)]
    · intro n k hk
      right
      show fX5_cameBy_b21_body fu came under due _ _ _ _ _ = _
      unfold fX5_cameBy_b21_body
      have e : nI p * 8 + nI k = nI (8 * p + k) := by
        rw [show nI p * (8 : Int32) = nI (p * 8) from pk_mul p 8, nI_add, Nat.mul_comm]
      rw [if_neg (show ¬ 8 ≤ nI k from nI_ge (b := 8) (by omega) (by decide)), bdS (rdN hp (by decide)), hu, bdS (has8 (by omega) (by omega)), e, bdS (rdN (by omega) (by decide)), ← nI_succ, nI_shl (by omega), nI_or]
      rw [mkS]
      cases (us N r p).testBit k
      · rw [if_pos (by decide)]
        simp
      · rw [if_neg (by decide)]
        by_cases h1 : nI D < due (8 * p + k)
        · rw [if_pos h1]
          have : ¬ due (8 * p + k) ≤ nI D := Int32.not_le.mpr h1
          simp [this]
        · rw [if_neg h1]
          have : due (8 * p + k) ≤ nI D := Int32.not_lt.mp h1
          simp [this, Nat.or_assoc]
theorem us_go {N P d p : Nat} {due r : Nat → Int32} (hR : RR N P d due r) (hN : N ≤ 8) (hp : p < 8) (hd : d < 2 ^ 30) : us N (go r d) p = cut (us N r p) (cb N r p (d + 1)) := by
  rw [← cs_go hR hN hp hd]
  apply Nat.eq_of_testBit_eq
  intro a
  rw [cut_bit, us_bit, us_bit, cs_bit]
  by_cases ha : a < N
  · have ha8 : a < 8 := by omega
    rw [go_at ha8 hp]
    rcases (hR a p (by omega) hp).1 with h | h | ⟨e, h1, h2, h3, -⟩
    · rw [h, if_neg (fun q => by have := nI_inj (a := 0) (by decide) (by omega) q; omega)]
      simp
    · rw [h]
      split <;> simp
    · rw [h3]
      have q := nIp0 (a := e + 1) (by omega) (by omega)
      have q2 := (pos_ne q).2
      split
      · simp [ha, ha8]
      · simp [ha, ha8, q, q2]
  · simp [ha]
theorem new_go {N P d p : Nat} {due r : Nat → Int32} (hR : RR N P d due r) (hN : N ≤ 8) (hp : p < 8) (hd : d < 2 ^ 30) : cut (cb N r p (d + 1)) (cs N r p) = mkS 8 (fun a => decide (r (2 + 8 * a + p) = nI (d + 2))) := by
  rw [← cs_go hR hN hp hd]
  apply Nat.eq_of_testBit_eq
  intro a
  rw [cut_bit, cs_bit, cs_bit, mkS_bit]
  by_cases ha8 : a < 8
  · rw [go_at ha8 hp]
    have n0 : nI (d + 2) ≠ 0 := (pos_ne (nIp0 (by omega) (by omega))).1
    have n1 : nI (d + 2) ≠ -1 := (pos_ne (nIp0 (by omega) (by omega))).2
    by_cases h : r (2 + 8 * a + p) = nI (d + 2)
    · have ha : a < N := ((hR a p ha8 hp).2 (by rw [h]; exact n0)).1
      rw [h, if_pos rfl]
      simp [ha, ha8, n1]
    · rw [if_neg h]
      simp [h]
  · simp [ha8]
theorem PR.rr {N P d x : Nat} {came under due r : Nat → Int32} (h : PR N P d x came under due r) : RR N P d due r := h.2.2
theorem PR_go {N P d x : Nat} {came under due r came' under' : Nat → Int32} (hR : PR N P d x came under due r) (hd : d < 2 ^ 30) (hc : ∀ p, p < 8 → came' p = nI (cs N (go r d) p) ∧ under' p = nI (us N (go r d) p)) : PR N P (d + 1) x came' under' due (go r d) := by
  refine ⟨⟨if_pos rfl, ?_⟩, hc, ?_⟩
  · unfold go
    rw [if_neg (by decide), if_neg (by omega)]
    exact hR.1.2
  · intro a p ha hp
    rw [go_at ha hp]
    obtain ⟨h, h5⟩ := hR.2.2 a p ha hp
    refine ⟨?_, fun q => h5 (fun z => ?_)⟩
    · rcases h with h | h | ⟨e, h1, h2, h3, h4⟩
      · rw [h, if_neg (fun q => by have := nI_inj (a := 0) (by decide) (by omega) q; omega)]
        exact Or.inl rfl
      · rw [h]
        right; left
        split <;> rfl
      · rw [h3]
        by_cases e2 : e = d + 1
        · rw [e2, if_pos rfl]; exact Or.inr (Or.inl rfl)
        · rw [if_neg (fun z => e2 (by have := nI_inj (by omega) (by omega) z; omega))]
          exact Or.inr (Or.inr ⟨e, by omega, by omega, rfl, h4⟩)
    · rw [z, if_neg (fun q => by have := nI_inj (a := 0) (by decide) (by omega) q; omega)] at q
      exact q rfl
theorem gn_8 (r : Nat → Int32) (d : Nat) : gn r d = sumN 8 (fun p => cnt 8 (fun a => decide (r (2 + 8 * a + p) = nI (d + 2)))) := by
  have : ∀ x : Nat → Bool, cnt 66 (fun k => decide (2 ≤ k) && x k) = sumN 8 (fun p => cnt 8 (fun a => x (2 + 8 * a + p))) := by
    intro x
    simp [cnt, sumN]
    omega
  exact this (fun k => decide (r k = nI (d + 2)))
theorem passX {N P d x : Nat} {came under due r : Nat → Int32} {fu : Nat} (hfu : 9 ≤ fu) (hR : PR N P d x came under due r) (hN : N ≤ 8) (hd : d < 2 ^ 29) : ∃ came' under', fX5_pass fu due (nI d) came under = some (nI (gn r d), nI (d + 1), came', under') ∧ PR N P (d + 1) x came' under' due (go r d) := by
  have h8 := pow8 hN
  have h := lpI (N := 8) (k0 := 0) (F := fun n k (y : (Nat → Int32) × (Nat → Int32)) => fX5_pass_b14 fu due n (nI (sumN k (fun p => cnt 8 (fun a => decide (r (2 + 8 * a + p) = nI (d + 2)))))) (nI k) (nI (d + 1)) y.1 y.2) (I := fun k y => ∀ p, p < 8 → (p < k → y.1 p = nI (cs N (go r d) p) ∧ y.2 p = nI (us N (go r d) p)) ∧ (k ≤ p → y.1 p = came p ∧ y.2 p = under p)) (Q := fun z => z.1 = nI (gn r d) ∧ z.2.1 = nI (d + 1) ∧ ∀ p, p < 8 → z.2.2.1 p = nI (cs N (go r d) p) ∧ z.2.2.2 p = nI (us N (go r d) p)) ?_ ?_ 8 0 fu (came, under) (Nat.le_refl _) (fun p hp => ⟨fun q => by omega, fun _ => ⟨rfl, rfl⟩⟩) (by omega) (by omega)
  · obtain ⟨⟨z1, z2, z3, z4⟩, h1, h2, h3, h4⟩ := h
    refine ⟨z3, z4, ?_, PR_go hR (by omega) h4⟩
    unfold fX5_pass
    rw [← nI_succ]
    simp only at h2 h3
    rw [← h2, ← h3, ← h1, h3]
    rfl
  · intro n y hI
    refine ⟨(nI (gn r d), nI (d + 1), y.1, y.2), ?_, rfl, rfl, fun p hp => (hI p hp).1 hp⟩
    show fX5_pass_b14_body fu due _ _ _ _ _ _ = _
    unfold fX5_pass_b14_body
    rw [if_pos (by decide), gn_8]
  · intro n k y _ hk hI
    right
    obtain ⟨y1, y2⟩ := (hI k hk).2 (Nat.le_refl _)
    refine ⟨(upd y.1 k (nI (cs N (go r d) k)), upd y.2 k (nI (us N (go r d) k))), ?_, ?_⟩
    · intro p hp
      by_cases e : p = k
      · subst e
        exact ⟨fun _ => ⟨upd_at _ _ _, upd_at _ _ _⟩, fun q => by omega⟩
      · show (p < k + 1 → upd y.1 k (nI (cs N (go r d) k)) p = _ ∧ upd y.2 k (nI (us N (go r d) k)) p = _) ∧ (k + 1 ≤ p → upd y.1 k (nI (cs N (go r d) k)) p = _ ∧ upd y.2 k (nI (us N (go r d) k)) p = _)
        rw [upd_ne e, upd_ne e]
        exact ⟨fun q => (hI p hp).1 (by omega), fun q => (hI p hp).2 (by omega)⟩
    · show fX5_pass_b14_body fu due _ _ _ _ _ _ = _
      unfold fX5_pass_b14_body
      have c1 : y.1 k = nI (cs N r k) := by rw [y1]; exact (hR.2.1 k hk).1
      have u1 : y.2 k = nI (us N r k) := by rw [y2]; exact (hR.2.1 k hk).2
      have l1 := cs_lt N r k
      have l2 := us_lt N r k
      have l3 := cb_lt N r k (d + 1)
      rw [if_neg (show ¬ 8 ≤ nI k from nI_ge (b := 8) (by omega) (by decide)), bdS (cameByX hfu hR.rr hN hk (by omega) (by omega) c1 u1), bdS (rdN hk (by decide)), c1, nI_cut (by omega), new_go hR.rr hN hk (by omega), bdS (popM (by omega)), bdS (wrN hk (by decide)), bdS (rdN hk (by decide)), u1, nI_cut (by omega), bdS (wrN hk (by decide)), us_go hR.rr hN hk (by omega), cs_go hR.rr hN hk (by omega), nI_add, ← nI_succ]
      rfl
