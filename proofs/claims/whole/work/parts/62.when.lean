-- when
/-- the first of 0 .. 20, or none -/
def FV (B : Nat → Prop) (v : Int32) : Prop := (∃ l, l ≤ 20 ∧ v = nI l ∧ B l ∧ ∀ m, m < l → ¬ B m) ∨ (v = -9 ∧ ∀ l, l ≤ 20 → ¬ B l)
theorem FV_u {B : Nat → Prop} {v w : Int32} (h : FV B v) (k : FV B w) : v = w := by
  rcases h with ⟨l, h1, h2, h3, h4⟩ | ⟨h1, h2⟩
  · rcases k with ⟨m, k1, k2, k3, k4⟩ | ⟨k1, k2⟩
    · have : l = m := by
        rcases Nat.lt_trichotomy l m with q | q | q
        · exact absurd h3 (k4 l q)
        · exact q
        · exact absurd k3 (h4 m q)
      rw [h2, k2, this]
    · exact absurd h3 (k2 l h1)
  · rcases k with ⟨m, k1, k2, k3, k4⟩ | ⟨k1, k2⟩
    · exact absurd k3 (h2 m k1)
    · rw [h1, k1]
theorem le_brg {N P q : Nat} {bk kd wd : Nat → Nat} {C : Nat → Nat} (hq : q ≤ 99) : q ≤ brg N P bk kd wd C ↔ ∀ p, p < P → q ≤ bears N bk kd wd p (C p) := ⟨fun h p hp => Nat.le_trans h (inf_le hp), fun h => le_inf hq h⟩
theorem behindX {N P d x n q : Nat} {bk kd wd : Nat → Nat} {came under due r borne : Nat → Int32} {planks : Int32} {fu : Nat} (hfu : 9 ≤ fu) (hB : BT N bk kd wd borne) (hN : N ≤ 8) (hP : 1 ≤ P ∧ P ≤ 8) (hpl : planks = nI P) (hw : ∀ a, a < N → wd a ≤ 9) (hR : PR N P d x came under due r) (hd : d < 2 ^ 29) (hn : n < 2 ^ 29) (hq : q ≤ 36) : fX4_bearsBehind fu planks (nI d) came under due borne (nI n) (nI q) = some (bI (decide (q ≤ brg N P bk kd wd (fun p => cb N r p (d + n))))) := by
  have h := lpI (N := P) (k0 := 0) (F := fun m k (_ : Unit) => fX4_bearsBehind_b2 fu planks (nI d) came under due borne m (nI n) (nI q) (nI k)) (I := fun k _ => ∀ p, p < k → q ≤ bears N bk kd wd p (cb N r p (d + n))) (Q := fun y => y = bI (decide (q ≤ brg N P bk kd wd (fun p => cb N r p (d + n))))) ?_ ?_ P 0 fu () (Nat.le_refl _) (fun p hp => by omega) (by omega) (by omega)
  · obtain ⟨y, h1, h2⟩ := h
    rw [← h2]; exact h1
  · intro m _ hI
    refine ⟨1, ?_, ?_⟩
    · show fX4_bearsBehind_b2_body fu planks (nI d) came under due borne _ _ _ _ = _
      unfold fX4_bearsBehind_b2_body
      rw [hpl, if_pos (nI_le (by omega) (by omega))]
    · have : decide (q ≤ brg N P bk kd wd (fun p => cb N r p (d + n))) = true := decide_eq_true ((le_brg (by omega)).mpr hI)
      rw [this]; rfl
  · intro m k _ _ hk hI
    have hb := bears_le (N := N) (bk := bk) (kd := kd) (p := k) (c := cb N r k (d + n)) hw
    have e : fX4_bearsBehind_b2 fu planks (nI d) came under due borne (m + 1) (nI n) (nI q) (nI k) = if nI q ≤ nI (bears N bk kd wd k (cb N r k (d + n))) then fX4_bearsBehind_b2 fu planks (nI d) came under due borne m (nI n) (nI q) (nI k + 1) else some 0 := by
      show fX4_bearsBehind_b2_body fu planks (nI d) came under due borne _ _ _ _ = _
      unfold fX4_bearsBehind_b2_body
      rw [hpl, if_neg (nI_ge (by omega) (by omega)), nI_add, bdS (cameByX hfu hR.rr hN (by omega) (by omega) (by omega) (hR.2.1 k (by omega)).1 (hR.2.1 k (by omega)).2), bdS (ofX hB hN (cb_lt _ _ _ _) (by omega))]
    by_cases hl : q ≤ bears N bk kd wd k (cb N r k (d + n))
    · right
      refine ⟨(), ?_, ?_⟩
      · intro p hp
        by_cases ep : p = k
        · rw [ep]; exact hl
        · exact hI p (by omega)
      · show fX4_bearsBehind_b2 fu planks (nI d) came under due borne (m + 1) (nI n) (nI q) (nI k) = _
        rw [e, if_pos (nI_le hl (by omega)), nI_succ]
    · left
      refine ⟨0, ?_, ?_⟩
      · show fX4_bearsBehind_b2 fu planks (nI d) came under due borne (m + 1) (nI n) (nI q) (nI k) = _
        rw [e, if_neg (nI_ge (by omega) (by omega))]
      · have : decide (q ≤ brg N P bk kd wd (fun p => cb N r p (d + n))) = false := decide_eq_false (fun z => hl ((le_brg (by omega)).mp z k hk))
        rw [this]; rfl
theorem firstX {N P d x q : Nat} {bk kd wd : Nat → Nat} {came under due r borne : Nat → Int32} {planks : Int32} {fu : Nat} (hfu : 22 ≤ fu) (hB : BT N bk kd wd borne) (hN : N ≤ 8) (hP : 1 ≤ P ∧ P ≤ 8) (hpl : planks = nI P) (hw : ∀ a, a < N → wd a ≤ 9) (hR : PR N P d x came under due r) (hd : d < 2 ^ 29) (hq : q ≤ 36) : ∃ v, fX4_firstBorne fu planks (nI d) came under due borne (nI q) = some v ∧ FV (fun n => q ≤ brg N P bk kd wd (fun p => cb N r p (d + n))) v := by
  refine lpI (N := 21) (k0 := 0) (F := fun m k (_ : Unit) => fX4_firstBorne_b2 fu planks (nI d) came under due borne m (nI q) (nI k)) (I := fun k _ => ∀ n, n < k → ¬ q ≤ brg N P bk kd wd (fun p => cb N r p (d + n))) ?_ ?_ 21 0 fu () (Nat.le_refl _) (fun p hp => by omega) (by omega) (by omega)
  · intro m _ hI
    refine ⟨-9, ?_, Or.inr ⟨rfl, fun l hl => hI l (by omega)⟩⟩
    show fX4_firstBorne_b2_body fu planks (nI d) came under due borne _ _ _ = _
    unfold fX4_firstBorne_b2_body
    rw [if_pos (by decide)]
  · intro m k _ _ hk hI
    have e : fX4_firstBorne_b2 fu planks (nI d) came under due borne (m + 1) (nI q) (nI k) = if bI (decide (q ≤ brg N P bk kd wd (fun p => cb N r p (d + k)))) = 0 then fX4_firstBorne_b2 fu planks (nI d) came under due borne m (nI q) (nI k + 1) else some (nI k) := by
      show fX4_firstBorne_b2_body fu planks (nI d) came under due borne _ _ _ = _
      unfold fX4_firstBorne_b2_body
      rw [if_neg (show ¬ 20 < nI k from nI_nlt (a := 20) (b := k) (by omega) (by omega)), bdS (behindX (by omega) hB hN hP hpl hw hR hd (by omega) hq)]
    by_cases hl : q ≤ brg N P bk kd wd (fun p => cb N r p (d + k))
    · left
      refine ⟨nI k, ?_, Or.inl ⟨k, by omega, rfl, hl, hI⟩⟩
      show fX4_firstBorne_b2 fu planks (nI d) came under due borne (m + 1) (nI q) (nI k) = _
      rw [e, decide_eq_true hl, if_neg (by decide)]
    · right
      refine ⟨(), ?_, ?_⟩
      · intro p hp
        by_cases ep : p = k
        · rw [ep]; exact hl
        · exact hI p (by omega)
      · show fX4_firstBorne_b2 fu planks (nI d) came under due borne (m + 1) (nI q) (nI k) = _
        rw [e, decide_eq_false hl, if_pos (by decide), nI_succ]
/-- a row by itself -/
def WR (N P d x : Nat) (due w : Nat → Int32) : Prop := PR N P d x (fun p => nI (cs N w p)) (fun p => nI (us N w p)) due w
theorem PR.wr {N P d x : Nat} {came under due r w : Nat → Int32} (hN : N ≤ 8) (h : PR N P d x came under due r) (hw : ∀ j, j < 66 → w j = r j) : WR N P d x due w := by
  have h2 : PR N P d x came under due w := PR_congr hN h (fun _ _ => rfl) (fun _ _ => rfl) (fun _ _ => rfl) hw
  exact ⟨h2.1, fun p _ => ⟨rfl, rfl⟩, h2.2.2⟩
theorem WR.go {N P d x : Nat} {due w : Nat → Int32} (h : WR N P d x due w) (hd : d < 2 ^ 30) : WR N P (d + 1) x due (go w d) := PR_go h hd (fun _ _ => ⟨rfl, rfl⟩)
theorem cb_congr {N p D : Nat} {r w : Nat → Int32} (hN : N ≤ 8) (hp : p < 8) (h : ∀ j, j < 66 → w j = r j) : cb N w p D = cb N r p D :=
  mkS_congr (fun a ha => by rw [h (2 + 8 * a + p) (by omega)])
theorem when9 {N P d x q : Nat} {bk kd wd sl : Nat → Nat} {t came under due r w : Nat → Int32} {fu : Nat} (hfu : 67 ≤ fu) (hT : TR N P bk kd wd sl t) (hR : PR N P d x came under due r) (hd : d < 2 ^ 29) (hq : q ≤ 36) (hw : ∀ j, j < 66 → w j = r j) : ∃ z : Int32 × (Nat → Int32) × Int32, fX9_when_b20 fu r t fu (nI q) 0 w 0 = some z ∧ z.2.2 = 0 ∧ FV (fun n => q ≤ brg N P bk kd wd (fun p => cb N r p (d + n))) z.1 := by
  obtain ⟨hP1, hP8, hN⟩ := hT.1.2.2
  have hw9 : ∀ a, a < N → wd a ≤ 9 := fun a ha => (hT.wf.2 a ha).2.2.1.2
  refine lpI (N := 21) (k0 := 0) (F := fun m k y => fX9_when_b20 fu r t m (nI q) (nI k) y 0) (I := fun k y => (∀ n, n < k → ¬ q ≤ brg N P bk kd wd (fun p => cb N r p (d + n))) ∧ WR N P (d + k) x due y ∧ ∀ D p, d + k ≤ D → D < 2 ^ 30 → p < 8 → cb N y p D = cb N r p D) ?_ ?_ 21 0 fu w (Nat.le_refl _) ⟨fun p hp => by omega, PR.wr hN hR hw, fun D p _ _ hp => cb_congr hN hp hw⟩ (by omega) (by omega)
  · rintro m y ⟨hI, -, -⟩
    refine ⟨(-9, y, 0), ?_, rfl, Or.inr ⟨rfl, fun l hl => hI l (by omega)⟩⟩
    show fX9_when_b20_body fu r t _ _ _ _ _ = _
    unfold fX9_when_b20_body
    rw [if_pos (by decide)]
  · rintro m k y - hk ⟨hI, hY, hC⟩
    have hbr : brg N P bk kd wd (cs N y) = brg N P bk kd wd (fun p => cb N r p (d + k)) := brg_congr (fun p hp => by
      rw [← cb_now hY.rr hN (by omega) (by omega), hC (d + k) p (Nat.le_refl _) (by omega) (by omega)])
    have hb := brg_le (N := N) (P := P) (bk := bk) (kd := kd) (wd := wd) (C := fun p => cb N r p (d + k)) hP1 hw9
    have e : fX9_when_b20 fu r t (m + 1) (nI q) (nI k) y 0 = if nI (brg N P bk kd wd (fun p => cb N r p (d + k))) < nI q then fX9_when_b20 fu r t m (nI q) (nI k + 1) (go y (d + k)) 0 else some (nI k, y, 0) := by
      show fX9_when_b20_body fu r t _ _ _ _ _ = _
      unfold fX9_when_b20_body
      rw [if_neg (show ¬ 20 < nI k from nI_nlt (a := 20) (b := k) (by omega) (by omega)), bdS (bridge9 hT (by omega)), hbr, goes9 (by omega) hY.1.1]
      rfl
    by_cases hl : q ≤ brg N P bk kd wd (fun p => cb N r p (d + k))
    · left
      refine ⟨(nI k, y, 0), ?_, rfl, Or.inl ⟨k, by omega, rfl, hl, hI⟩⟩
      show fX9_when_b20 fu r t (m + 1) (nI q) (nI k) y 0 = _
      rw [e, if_neg (nI_nlt hl (by omega))]
    · right
      refine ⟨go y (d + k), ⟨?_, WR.go (d := d + k) hY (by omega), ?_⟩, ?_⟩
      · intro p hp
        by_cases ep : p = k
        · rw [ep]; exact hl
        · exact hI p (by omega)
      · intro D p h1 h2 h3
        rw [cb_go hY.rr hN h3 h2 (by omega), hC D p (by omega) h2 h3]
      · show fX9_when_b20 fu r t (m + 1) (nI q) (nI k) y 0 = _
        rw [e, if_pos (nI_lt (by omega) (by omega)), nI_succ]
theorem q_when {N P : Nat} {bk kd wd sl : Nat → Nat} {day crossed th planks size sworn : Int32} {t came under due r bank kind word slow borne w : Nat → Int32} {fu : Nat} (hfu : 67 ≤ fu) (hT : TR N P bk kd wd sl t) (hF : FR N P bk kd wd sl planks size sworn bank kind word slow) (hB : BT N bk kd wd borne) (hS : ST N P day crossed came under due r) (l : Int32) : ∃ v w', fX8_when fu planks day came under due borne l = some v ∧ fX9_when fu r t w th l = some (v, w', 0) := by
  obtain ⟨hP1, hP8, hN⟩ := hT.1.2.2
  have hw9 : ∀ a, a < N → wd a ≤ 9 := fun a ha => (hT.wf.2 a ha).2.2.1.2
  obtain ⟨d, x, hd, hx, ed, ex, hR⟩ := id hS
  unfold fX8_when fX9_when
  rcases load1 (fu := fu) (x := l) with ⟨l1, l2⟩ | ⟨l1, l2, q, hq1, hq2, rfl⟩
  · exact ⟨-1, w, by rw [bdS l2]; rfl, by rw [bdS l1]; rfl⟩
  rw [bdS l2, bdS l1, if10, if10]
  obtain ⟨w1, hw1, hw2⟩ := asNow9 (fu := fu) (r := r) (w := w) hfu
  obtain ⟨v, h1, h2⟩ := firstX (fu := fu) (q := q) (by omega) hB hN ⟨hP1, hP8⟩ hF.1.1 hw9 hR (by omega) hq2
  obtain ⟨⟨z1, z2, z3⟩, k1, k2, k3⟩ := when9 (fu := fu) (q := q) hfu hT hR (by omega) hq2 hw2
  refine ⟨v, z2, ?_, ?_⟩
  · rw [ed, bdS h1]
  · rw [bdS hw1, k1, FV_u h2 k3]
    simp only at k2
    rw [k2]
