-- words, next
theorem nI_sub {a b : Nat} (h : b ≤ a) : nI a - nI b = nI (a - b) := by
  have e : nI a = nI (a - b) + nI b := by rw [nI_add, Nat.sub_add_cancel h]
  rw [e, Int32.add_sub_cancel]
def agB (sl so : Nat → Int32) (b : Nat) : Nat → Bool
  | 0 => true
  | j + 1 => agB sl so b j && (decide (sl j ≤ nI b) == decide (so j = 1))
theorem agB_iff {sl so : Nat → Int32} {b : Nat} : ∀ k, agB sl so b k = true ↔ ag k sl so b := by
  intro k
  induction k with
  | zero => exact ⟨fun _ j hj => by omega, fun _ => rfl⟩
  | succ k ih =>
    rw [agB, Bool.and_eq_true, ih]
    have e : ((decide (sl k ≤ nI b) == decide (so k = 1)) = true) ↔ ((sl k ≤ nI b) ↔ so k = 1) := by
      by_cases h1 : sl k ≤ nI b <;> by_cases h2 : so k = 1 <;> simp [h1, h2]
    rw [e]
    constructor
    · rintro ⟨h1, h2⟩ j hj
      by_cases q : j = k
      · rw [q]; exact h2
      · exact h1 j (by omega)
    · intro h
      exact ⟨fun j hj => h j (by omega), h k (by omega)⟩
theorem agreesB {k b : Nat} {ld ov sl so : Nat → Int32} {fu : Nat} (hfu : 9 ≤ fu) (h : SR k ld ov sl so) : fX2_agrees fu (nI k) ld ov (nI b) = some (bI (agB sl so b k)) := by
  obtain ⟨y, h1, c, h2, h3⟩ := agreesX (b := b) hfu h
  rw [h1, h2]
  have : c = agB sl so b k := by
    rw [Bool.eq_iff_iff, h3, agB_iff]
  rw [this]
/-- the words that are left -/
def aw (B : Nat → Nat) (sl so : Nat → Int32) (k w : Nat) : Bool := decide (1 ≤ w) && agB sl so (B w) k
def lw (A : Nat → Bool) : Nat → Int32
  | 0 => -9
  | w + 1 => if A w then (if lw A w = -9 then nI w else lw A w) else lw A w
def gw (A : Nat → Bool) : Nat → Int32
  | 0 => -9
  | w + 1 => if A w then nI w else gw A w
theorem aw_at {B : Nat → Nat} {sl so : Nat → Int32} {k w : Nat} (h : 1 ≤ w) : aw B sl so k w = agB sl so (B w) k := by
  unfold aw
  simp [h]
theorem cnt_s (n : Nat) (P : Nat → Bool) : cnt (n + 1) P = cnt n P + (if P n then 1 else 0) := rfl
theorem gatherX {N P a k : Nat} {bk kd wd sl : Nat → Nat} {came bank kind word slow ld ov so sq borne : Nat → Int32} {planks size sworn least great : Int32} {fu : Nat} {C : Nat → Nat} (hfu : 11 ≤ fu) (hW : WF N P bk kd wd sl) (hF : FR N P bk kd wd sl planks size sworn bank kind word slow) (hC : ∀ p, p < 8 → came p = nI (C p) ∧ C p < 2 ^ N) (ha : a < N) (hS : SR k ld ov so sq) : ∃ r, fX2_gather fu planks came size kind sworn bank word (nI k) ld ov borne least great (nI a) = some r ∧ ∃ b', r = (nI (cnt 10 (aw (fun w => brg N P bk kd (up wd a w) C) so sq k)), b', lw (aw (fun w => brg N P bk kd (up wd a w) C) so sq k) 10, gw (aw (fun w => brg N P bk kd (up wd a w) C) so sq k) 10) ∧ ∀ x, x ≤ 36 → cnt (cnt 10 (aw (fun w => brg N P bk kd (up wd a w) C) so sq k)) (fun j => decide (¬ b' j < nI x)) = cnt 10 (fun i => aw (fun w => brg N P bk kd (up wd a w) C) so sq k i && decide (x ≤ brg N P bk kd (up wd a i) C)) := by
  obtain ⟨hP1, hP8, hN⟩ := hW.1
  refine lpI (N := 10) (k0 := 1) (F := fun m w b => fX2_gather_b16 fu planks came size kind sworn bank word (nI k) ld ov m (nI a) (nI (cnt w (aw (fun w => brg N P bk kd (up wd a w) C) so sq k))) (nI w) b (lw (aw (fun w => brg N P bk kd (up wd a w) C) so sq k) w) (gw (aw (fun w => brg N P bk kd (up wd a w) C) so sq k) w)) (I := fun w b => ∀ x, x ≤ 36 → cnt (cnt w (aw (fun w => brg N P bk kd (up wd a w) C) so sq k)) (fun j => decide (¬ b j < nI x)) = cnt w (fun i => aw (fun w => brg N P bk kd (up wd a w) C) so sq k i && decide (x ≤ brg N P bk kd (up wd a i) C))) ?_ ?_ 9 1 fu borne (Nat.le_refl _) (fun x _ => rfl) (by omega) (by omega)
  · intro m b hI
    refine ⟨_, ?_, b, rfl, hI⟩
    show fX2_gather_b16_body fu planks came size kind sworn bank word (nI k) ld ov _ _ _ _ _ _ _ = _
    unfold fX2_gather_b16_body
    rw [if_pos (by decide)]
  · intro m w b h1 hw hI
    right
    have hc := cnt_le w (aw (fun w => brg N P bk kd (up wd a w) C) so sq k)
    have hb : brg N P bk kd (up wd a w) C ≤ 36 := brg_le hP1 (fun b hb => by
      by_cases e : b = a
      · rw [e, up_at]; omega
      · rw [up_ne e]; exact (hW.2 b hb).2.2.1.2)
    have hc1 : cnt w (aw (fun w => brg N P bk kd (up wd a w) C) so sq k) ≤ w - 1 := by
      obtain ⟨v, rfl⟩ : ∃ v, w = v + 1 := ⟨w - 1, by omega⟩
      clear hI hc hw h1 hb
      induction v with
      | zero => exact Nat.le_refl _
      | succ v ih => rw [cnt_s]; split <;> omega
    have e1 : fX2_gather_b16 fu planks came size kind sworn bank word (nI k) ld ov (m + 1) (nI a) (nI (cnt w (aw (fun w => brg N P bk kd (up wd a w) C) so sq k))) (nI w) b (lw (aw (fun w => brg N P bk kd (up wd a w) C) so sq k) w) (gw (aw (fun w => brg N P bk kd (up wd a w) C) so sq k) w) = if bI (agB so sq (brg N P bk kd (up wd a w) C) k) = 0 then fX2_gather_b16 fu planks came size kind sworn bank word (nI k) ld ov m (nI a) (nI (cnt w (aw (fun w => brg N P bk kd (up wd a w) C) so sq k))) (nI w + 1) b (lw (aw (fun w => brg N P bk kd (up wd a w) C) so sq k) w) (gw (aw (fun w => brg N P bk kd (up wd a w) C) so sq k) w) else fX2_gather_b16 fu planks came size kind sworn bank word (nI k) ld ov m (nI a) (nI (cnt w (aw (fun w => brg N P bk kd (up wd a w) C) so sq k)) + 1) (nI w + 1) (upd b (cnt w (aw (fun w => brg N P bk kd (up wd a w) C) so sq k)) (nI (brg N P bk kd (up wd a w) C))) (if lw (aw (fun w => brg N P bk kd (up wd a w) C) so sq k) w = -9 then nI w else lw (aw (fun w => brg N P bk kd (up wd a w) C) so sq k) w) (nI w) := by
      show fX2_gather_b16_body fu planks came size kind sworn bank word (nI k) ld ov _ _ _ _ _ _ _ = _
      unfold fX2_gather_b16_body fX2_gather_b68
      rw [if_neg (show ¬ 9 < nI w from nI_nlt (a := 9) (b := w) (by omega) (by omega)), bdS (bridgeWithX (by omega) hW hF hC ha ⟨h1, by omega⟩), bdS (agreesB (by omega) hS), bdS (wrN (by omega) (by decide))]
      split
      · rfl
      · split <;> rfl
    by_cases hA : agB so sq (brg N P bk kd (up wd a w) C) k = true
    · have hA' : aw (fun w => brg N P bk kd (up wd a w) C) so sq k w = true := by rw [aw_at h1]; exact hA
      refine ⟨upd b (cnt w (aw (fun w => brg N P bk kd (up wd a w) C) so sq k)) (nI (brg N P bk kd (up wd a w) C)), ?_, ?_⟩
      · intro x hx
        rw [cnt_s w, if_pos hA', cnt_s w, cnt_s, upd_at, hA', Bool.true_and, ← hI x hx]
        congr 1
        · exact cnt_congr (fun i hi => by rw [upd_ne (by omega)])
        · by_cases q : x ≤ brg N P bk kd (up wd a w) C
          · rw [if_pos (decide_eq_true q), if_pos (decide_eq_true (nI_nlt q (by omega)))]
          · rw [decide_eq_false q, decide_eq_false (not_not_intro (nI_lt (a := brg N P bk kd (up wd a w) C) (b := x) (by omega) (by omega)))]
      · show fX2_gather_b16 fu planks came size kind sworn bank word (nI k) ld ov (m + 1) (nI a) _ _ _ _ _ = _
        rw [e1, hA, if_neg (by decide), cnt_s w, if_pos hA', lw, if_pos hA', gw, if_pos hA', nI_succ, nI_succ]
    · have hA0 : agB so sq (brg N P bk kd (up wd a w) C) k = false := by simpa using hA
      have hA' : aw (fun w => brg N P bk kd (up wd a w) C) so sq k w = false := by rw [aw_at h1]; exact hA0
      refine ⟨b, ?_, ?_⟩
      · intro x hx
        rw [cnt_s w, hA', cnt_s w, hA', Bool.false_and]
        exact hI x hx
      · show fX2_gather_b16 fu planks came size kind sworn bank word (nI k) ld ov (m + 1) (nI a) _ _ _ _ _ = _
        rw [e1, hA0, if_pos (by decide), cnt_s w, hA', lw, hA', gw, hA', nI_succ]
        rfl
theorem words_in {N P a w b k S : Nat} {bk kd wd sl : Nat → Nat} {t r ld ov so sq : Nat → Int32} {fu : Nat} {r4 : Int32 → Int32 → Int32 → (Nat → Int32) → Option (Int32 × (Nat → Int32))} (hfu : 9 ≤ fu) (hS : SR k ld ov so sq) (hw : w < 10) (hb : b ≤ 36) : fX9_wordsOf_b24 fu r (nI k) so sq r4 fu (nI a) (nI S) (nI w) (nI b) 1 0 t = r4 (nI a) (nI (S ||| (if agB so sq b k then 2 ^ w else 0))) (nI (w + 1)) t := by
  have hk := hS.1
  refine lp (N := k) (G := fun n j => fX9_wordsOf_b24 fu r (nI k) so sq r4 n (nI a) (nI S) (nI w) (nI b) (bI (agB so sq b j)) (nI j) t) ?_ ?_ k 0 fu (by omega) (by omega)
  · intro n
    show fX9_wordsOf_b24_body fu r (nI k) so sq r4 _ _ _ _ _ _ _ _ = _
    unfold fX9_wordsOf_b24_body
    rw [if_pos (nI_le (by omega) (by omega)), nI_shl (by omega), nI_succ]
    cases agB so sq b k
    · rw [if_pos (by decide), show (0 : Int32) = nI 0 from rfl, nI_or]; rfl
    · rw [if_neg (by decide), nI_or]; rfl
  · intro n j hj
    right
    obtain ⟨⟨h1, h2⟩, h3, l, hl, h4⟩ := hS.2 j hj
    show fX9_wordsOf_b24_body fu r (nI k) so sq r4 _ _ _ _ _ _ _ _ = _
    unfold fX9_wordsOf_b24_body fX9_wordsOf_b55 fX9_wordsOf_b71
    rw [if_neg (nI_ge (by omega) (by omega))]
    show _ = fX9_wordsOf_b24 fu r (nI k) so sq r4 n (nI a) (nI S) (nI w) (nI b) (bI (agB so sq b (j + 1))) (nI (j + 1)) t
    rw [agB, ← nI_succ]
    cases agB so sq b j
    · rw [if_pos (by decide)]; rfl
    · rw [if_neg (by decide), bdS (rdN (by omega) (by decide)), bdS (rdN (by omega) (by decide)), bdS (rdN (by omega) (by decide)), Bool.true_and, h4]
      have e : (decide (nI l ≤ nI b)) = decide (l ≤ b) := by
        by_cases q : l ≤ b
        · rw [decide_eq_true q, decide_eq_true (nI_le q (by omega))]
        · rw [decide_eq_false q, decide_eq_false (nI_ge (by omega) (by omega))]
      rw [e]
      by_cases q : l ≤ b
      · rw [if_neg (nI_nlt q (by omega)), decide_eq_true q]
        rcases h3 with z | z
        · rw [z, if_neg (by decide), if_neg (by decide)]; rfl
        · rw [z, if_pos (by decide), if_pos (by decide)]; rfl
      · rw [if_pos (nI_lt (by omega) (by omega)), decide_eq_false q]
        rcases h3 with z | z
        · rw [z, if_neg (by decide), if_pos (by decide)]; rfl
        · rw [z, if_pos (by decide), if_neg (by decide)]; rfl
theorem wordsOf9 {N P a k : Nat} {bk kd wd sl : Nat → Nat} {t r ld ov so sq : Nat → Int32} {fu : Nat} (hfu : 11 ≤ fu) (hT : TR N P bk kd wd sl t) (hS : SR k ld ov so sq) (ha : a < N) : fX9_wordsOf fu r (nI k) so sq t (nI a) = some (nI (mkS 10 (aw (fun w => brg N P bk kd (up wd a w) (cs N r)) so sq k)), t) := by
  have m1 : mkS 1 (aw (fun w => brg N P bk kd (up wd a w) (cs N r)) so sq k) = 0 := by
    rw [mkS_succ, show aw (fun w => brg N P bk kd (up wd a w) (cs N r)) so sq k 0 = false from rfl]; simp [mkS]
  have key := lpF (N := 10) (k0 := 1) (G := fun n w => fX9_wordsOf_b4 fu r (nI k) so sq n (nI a) (nI (mkS w (aw (fun w => brg N P bk kd (up wd a w) (cs N r)) so sq k))) (nI w) t) (r := some (nI (mkS 10 (aw (fun w => brg N P bk kd (up wd a w) (cs N r)) so sq k)), t)) ?_ ?_ 9 1 fu (by omega) (by omega) (by omega)
  · simp only [m1] at key
    exact key
  · intro n
    show fX9_wordsOf_b4_body fu r (nI k) so sq _ _ _ _ _ = _
    unfold fX9_wordsOf_b4_body
    rw [if_pos (by decide)]
  · intro n w h1 hw
    right
    have hb : brg N P bk kd (up wd a w) (cs N r) ≤ 36 := brg_le hT.1.2.2.1 (fun b hb => by
      by_cases e : b = a
      · rw [e, up_at]; omega
      · rw [up_ne e]; exact (hT.wf.2 b hb).2.2.1.2)
    show fX9_wordsOf_b4_body fu r (nI k) so sq _ _ _ _ _ = _
    unfold fX9_wordsOf_b4_body
    rw [if_neg (show ¬ 10 ≤ nI w from nI_ge (a := w) (b := 10) (by omega) (by omega)), bdS (bridgeBy9 (by omega) hT ha ⟨h1, by omega⟩)]
    show fX9_wordsOf_b24 fu r (nI k) so sq _ fu (nI a) _ (nI w) _ 1 0 t = _
    rw [words_in (N := N) (P := P) (bk := bk) (kd := kd) (wd := wd) (sl := sl) (by omega) hS hw hb, mkS_succ, aw_at h1]
theorem words_b44 {A : Nat → Bool} {t r so sq : Nat → Int32} {k : Int32} {fu y : Nat} (hfu : 11 ≤ fu) (hA0 : A 0 = false) (hy : y ≤ 2) : fX9_words_b44 fu r k so sq fu (nI y) (nI (mkS 10 A)) 0 (-9) (-9) 1 t 0 = some (if y = 0 then nI (cnt 10 A) else if y = 1 then lw A 10 else gw A 10, t, 0) := by
  have hS := mkS_lt 10 A
  have l1 : lw A 1 = -9 := by rw [lw, hA0]; rfl
  have g1 : gw A 1 = -9 := by rw [gw, hA0]; rfl
  have c1 : cnt 1 A = 0 := by rw [cnt_s, hA0]; rfl
  have key := lpF (N := 10) (k0 := 1) (G := fun n w => fX9_words_b44 fu r k so sq n (nI y) (nI (mkS 10 A)) (nI (cnt w A)) (lw A w) (gw A w) (nI w) t 0) (r := some (if y = 0 then nI (cnt 10 A) else if y = 1 then lw A 10 else gw A 10, t, 0)) ?_ ?_ 9 1 fu (by omega) (by omega) (by omega)
  · simp only [l1, g1, c1] at key
    exact key
  · intro n
    show fX9_words_b44_body fu r k so sq _ _ _ _ _ _ _ _ _ = _
    unfold fX9_words_b44_body
    rw [if_pos (by decide)]
    rcases (by omega : y = 0 ∨ y = 1 ∨ y = 2) with rfl | rfl | rfl
    · rfl
    · rfl
    · rfl
  · intro n w h1 hw
    right
    show fX9_words_b44_body fu r k so sq _ _ _ _ _ _ _ _ _ = _
    unfold fX9_words_b44_body
    rw [if_neg (show ¬ 10 ≤ nI w from nI_ge (a := w) (b := 10) (by omega) (by omega)), bdS (has9 (by omega) (by omega)), mkS_bit, decide_eq_true hw, Bool.true_and]
    show _ = fX9_words_b44 fu r k so sq n (nI y) (nI (mkS 10 A)) (nI (cnt (w + 1) A)) (lw A (w + 1)) (gw A (w + 1)) (nI (w + 1)) t 0
    rw [cnt_s, lw, gw]
    cases A w
    · rw [if_pos (by decide), nI_succ]; rfl
    · rw [if_neg (by decide), nI_succ]
      simp only [↓reduceIte]
      rw [nI_succ]
      split <;> rfl
theorem q_words {N P k : Nat} {bk kd wd sl : Nat → Nat} {day crossed th planks size sworn least great : Int32} {t came under due r bank kind word slow ld ov so sq bo : Nat → Int32} {fu : Nat} (hfu : 11 ≤ fu) (hT : TR N P bk kd wd sl t) (hF : FR N P bk kd wd sl planks size sworn bank kind word slow) (hS : ST N P day crossed came under due r) (hs : SR k ld ov so sq) (a x : Int32) : ∃ v bo' l' g', fX8_words fu size planks came kind sworn bank word (nI k) ld ov bo least great a x = some (v, bo', l', g') ∧ fX9_words fu r (nI k) so sq t th a x = some (v, t, 0) := by
  obtain ⟨d, c, hd, hx, ed, ex, hR⟩ := id hS
  unfold fX8_words fX9_words fX2_leastWord fX2_greatestWord
  by_cases hp : og a N
  · exact ⟨-1, bo, least, great, by rw [bdS ((hasPersonX hF.1.2.1).1 hp)]; rfl, by rw [bdS ((isPerson9 hT).1 hp)]; rfl⟩
  rw [bdS ((hasPersonX hF.1.2.1).2 hp), bdS ((isPerson9 hT).2 hp), if10, if10]
  obtain ⟨j, hj, rfl⟩ := og_in hp (by have := hT.1.2.2.2.2; omega)
  obtain ⟨z, h1, b', rfl, -⟩ := gatherX (fu := fu) (least := least) (great := great) (borne := bo) hfu hT.wf hF hR.C hj hs
  have e9 := wordsOf9 (fu := fu) (r := r) hfu hT hs hj
  have hA0 : aw (fun w => brg N P bk kd (up wd j w) (cs N r)) so sq k 0 = false := rfl
  generalize aw (fun w => brg N P bk kd (up wd j w) (cs N r)) so sq k = A at h1 e9 hA0
  by_cases w0 : x = 0
  · subst w0
    refine ⟨nI (cnt 10 A), b', lw A 10, gw A 10, ?_, ?_⟩
    · rw [if00, bdS h1]
    · rw [bdS (show fX9_in fu 0 0 2 = some 1 from rfl), if10, bdS e9]
      have e := words_b44 (y := 0) (t := t) (r := r) (so := so) (sq := sq) (k := nI k) hfu hA0 (by omega)
      rw [if_pos rfl] at e
      exact e
  by_cases w1 : x = 1
  · subst w1
    refine ⟨lw A 10, b', lw A 10, gw A 10, ?_, ?_⟩
    · rw [if10, if11, bdS h1]; rfl
    · rw [bdS (show fX9_in fu 1 0 2 = some 1 from rfl), if10, bdS e9]
      have e := words_b44 (y := 1) (t := t) (r := r) (so := so) (sq := sq) (k := nI k) hfu hA0 (by omega)
      rw [if_neg (show ¬ 1 = 0 by omega), if_pos rfl] at e
      exact e
  by_cases w2 : x = 2
  · subst w2
    refine ⟨gw A 10, b', lw A 10, gw A 10, ?_, ?_⟩
    · rw [if20, if21, if22, bdS h1]; rfl
    · rw [bdS (show fX9_in fu 2 0 2 = some 1 from rfl), if10, bdS e9]
      have e := words_b44 (y := 2) (t := t) (r := r) (so := so) (sq := sq) (k := nI k) hfu hA0 (by omega)
      rw [if_neg (show ¬ 2 = 0 by omega), if_neg (show ¬ 2 = 1 by omega)] at e
      exact e
  refine ⟨-1, bo, least, great, by rw [if_neg w0, if_neg w1, if_neg w2], ?_⟩
  have : fX9_in fu x 0 2 = some 0 := by
    rcases rng (fu := fu) (x := x) (lo := 0) (hi := 2) with ⟨h1, -, -⟩ | ⟨-, -, h3, h4⟩
    · exact h1
    · exfalso
      obtain ⟨q, hq, rfl⟩ := nI_of h3
      have : ¬ 2 < q := fun z => h4 (nI_lt (a := 2) z hq)
      rcases (by omega : q = 0 ∨ q = 1 ∨ q = 2) with rfl | rfl | rfl
      · exact w0 rfl
      · exact w1 rfl
      · exact w2 rfl
  rw [bdS this]
  rfl
-- next
theorem manyX {n q : Nat} {b : Nat → Int32} {fu : Nat} (hfu : 11 ≤ fu) (hn : n ≤ 9) : fX2_howManyBear fu b (nI q) (nI n) = some (nI (cnt n (fun j => decide (¬ b j < nI q)))) := by
  refine lp (N := n) (G := fun m k => fX2_howManyBear_b5 fu b m (nI q) (nI n) (nI (cnt k (fun j => decide (¬ b j < nI q)))) (nI k)) ?_ ?_ n 0 fu (by omega) (by omega)
  · intro m
    show fX2_howManyBear_b5_body fu b _ _ _ _ _ = _
    unfold fX2_howManyBear_b5_body
    rw [if_pos (nI_le (by omega) (by omega))]
  · intro m k hk
    right
    show fX2_howManyBear_b5_body fu b _ _ _ _ _ = _
    unfold fX2_howManyBear_b5_body
    rw [if_neg (nI_ge (by omega) (by omega)), bdS (rdN (by omega) (by decide)), cnt_s, nI_succ]
    by_cases h : b k < nI q
    · rw [if_pos h, if_neg (by simp [h])]; rfl
    · rw [if_neg h, if_pos (by simp [h]), nI_succ]
/-- which load is best to try next: its number, the greater part -/
def bst (V : Nat → Nat) (b0 : Nat) : Nat → Int32 × Nat
  | 0 => (-9, b0)
  | l + 1 => if l = 0 then bst V b0 l else if V l < (bst V b0 l).2 then (nI l, V l) else bst V b0 l
theorem bst_le {V : Nat → Nat} {b0 l : Nat} : (bst V b0 l).2 ≤ b0 := by
  induction l with
  | zero => exact Nat.le_refl _
  | succ l ih =>
    rw [bst]
    split
    · exact ih
    · split
      · show V l ≤ b0; omega
      · exact ih
theorem bst_same {V : Nat → Nat} {b c l : Nat} (hb : ∀ i, V i < b) (hc : ∀ i, V i < c) (hl : 2 ≤ l) : bst V b l = bst V c l := by
  induction l with
  | zero => omega
  | succ l ih =>
    by_cases e : l = 1
    · subst e
      have e1 : bst V b 2 = (nI 1, V 1) := by
        rw [bst, if_neg (by omega), if_pos (Nat.lt_of_lt_of_le (hb 1) (by rw [bst, if_pos rfl]; exact Nat.le_refl _))]
      have e2 : bst V c 2 = (nI 1, V 1) := by
        rw [bst, if_neg (by omega), if_pos (Nat.lt_of_lt_of_le (hc 1) (by rw [bst, if_pos rfl]; exact Nat.le_refl _))]
      exact e1.trans e2.symm
    · rw [bst, bst, ih (by omega)]
theorem tryX {n : Nat} {b ld ov came bank kind word : Nat → Int32} {planks size sworn k g3 g4 : Int32} {fu : Nat} (hfu : 40 ≤ fu) (hn : n ≤ 9) : fX2_bestTry_b24 fu planks came size kind sworn bank word k ld ov fu (nI n) (-9) 10 1 b g3 g4 = some ((bst (fun q => max (cnt n (fun j => decide (¬ b j < nI q))) (n - cnt n (fun j => decide (¬ b j < nI q)))) 10 37).1, b, g3, g4) := by
  refine lpF (N := 37) (k0 := 1) (G := fun m l => fX2_bestTry_b24 fu planks came size kind sworn bank word k ld ov m (nI n) (bst (fun q => max (cnt n (fun j => decide (¬ b j < nI q))) (n - cnt n (fun j => decide (¬ b j < nI q)))) 10 l).1 (nI (bst (fun q => max (cnt n (fun j => decide (¬ b j < nI q))) (n - cnt n (fun j => decide (¬ b j < nI q)))) 10 l).2) (nI l) b g3 g4) ?_ ?_ 36 1 fu (by omega) (by omega) (by omega)
  · intro m
    show fX2_bestTry_b24_body fu planks came size kind sworn bank word k ld ov _ _ _ _ _ _ _ _ = _
    unfold fX2_bestTry_b24_body
    rw [if_pos (by decide)]
  · intro m l h1 hl
    right
    have hc := cnt_le n (fun j => decide (¬ b j < nI l))
    have hb := bst_le (V := fun q => max (cnt n (fun j => decide (¬ b j < nI q))) (n - cnt n (fun j => decide (¬ b j < nI q)))) (b0 := 10) (l := l)
    show fX2_bestTry_b24_body fu planks came size kind sworn bank word k ld ov _ _ _ _ _ _ _ _ = fX2_bestTry_b24 fu planks came size kind sworn bank word k ld ov m (nI n) (bst _ 10 (l + 1)).1 (nI (bst _ 10 (l + 1)).2) (nI (l + 1)) b g3 g4
    unfold fX2_bestTry_b24_body
    rw [if_neg (show ¬ 36 < nI l from nI_nlt (a := 36) (b := l) (by omega) (by omega)), bdS (manyX (by omega) hn), show nI n - nI (cnt n (fun j => decide (¬ b j < nI l))) = nI (n - cnt n (fun j => decide (¬ b j < nI l))) from nI_sub hc, mxN (by omega) (by omega), nI_succ]
    rw [bst, if_neg (show ¬ l = 0 by omega)]
    by_cases h : (bst (fun q => max (cnt n (fun j => decide (¬ b j < nI q))) (n - cnt n (fun j => decide (¬ b j < nI q)))) 10 l).2 ≤ max (cnt n (fun j => decide (¬ b j < nI l))) (n - cnt n (fun j => decide (¬ b j < nI l)))
    · rw [if_pos (nI_le h (by omega)), if_neg (by omega)]
    · rw [if_neg (nI_ge (by omega) (by omega)), if_pos (by omega)]
theorem next_in {N P a l : Nat} {bk kd wd sl : Nat → Nat} {A : Nat → Bool} {t r so sq : Nat → Int32} {k its : Int32} {c lst : Nat} {fu : Nat} {r59 : Int32 → Int32 → Int32 → Int32 → Int32 → Int32 → (Nat → Int32) → Int32 → Option (Int32 × (Nat → Int32) × Int32)} (hfu : 11 ≤ fu) (hT : TR N P bk kd wd sl t) (ha : a < N) (hA0 : A 0 = false) (hc : c = cnt 10 A) (hl : l ≤ 36) (hls : lst ≤ 99) : fX9_next_b77 fu r k so sq r59 fu (nI a) (nI (mkS 10 A)) (nI c) its (nI lst) (nI l) 0 1 t 0 = (if max (cnt 10 (fun i => A i && decide (l ≤ brg N P bk kd (up wd a i) (cs N r)))) (c - cnt 10 (fun i => A i && decide (l ≤ brg N P bk kd (up wd a i) (cs N r)))) < lst then r59 (nI a) (nI (mkS 10 A)) (nI c) (nI l) (nI (max (cnt 10 (fun i => A i && decide (l ≤ brg N P bk kd (up wd a i) (cs N r)))) (c - cnt 10 (fun i => A i && decide (l ≤ brg N P bk kd (up wd a i) (cs N r)))))) (nI (l + 1)) t 0 else r59 (nI a) (nI (mkS 10 A)) (nI c) its (nI lst) (nI (l + 1)) t 0) := by
  have hS := mkS_lt 10 A
  have hP1 := hT.1.2.2.1
  have c1 : cnt 1 (fun i => A i && decide (l ≤ brg N P bk kd (up wd a i) (cs N r))) = 0 := by rw [cnt_s, hA0]; rfl
  have hle : cnt 10 (fun i => A i && decide (l ≤ brg N P bk kd (up wd a i) (cs N r))) ≤ c := by
    rw [hc]
    exact cnt_mono (fun i _ h => by rw [Bool.and_eq_true] at h; exact h.1)
  have hc10 : c ≤ 10 := by rw [hc]; exact cnt_le _ _
  have key := lpF (N := 10) (k0 := 1) (G := fun m w => fX9_next_b77 fu r k so sq r59 m (nI a) (nI (mkS 10 A)) (nI c) its (nI lst) (nI l) (nI (cnt w (fun i => A i && decide (l ≤ brg N P bk kd (up wd a i) (cs N r))))) (nI w) t 0) (r := (if max (cnt 10 (fun i => A i && decide (l ≤ brg N P bk kd (up wd a i) (cs N r)))) (c - cnt 10 (fun i => A i && decide (l ≤ brg N P bk kd (up wd a i) (cs N r)))) < lst then r59 (nI a) (nI (mkS 10 A)) (nI c) (nI l) (nI (max (cnt 10 (fun i => A i && decide (l ≤ brg N P bk kd (up wd a i) (cs N r)))) (c - cnt 10 (fun i => A i && decide (l ≤ brg N P bk kd (up wd a i) (cs N r)))))) (nI (l + 1)) t 0 else r59 (nI a) (nI (mkS 10 A)) (nI c) its (nI lst) (nI (l + 1)) t 0)) ?_ ?_ 9 1 fu (by omega) (by omega) (by omega)
  · simp only [c1] at key
    exact key
  · intro m
    show fX9_next_b77_body fu r k so sq r59 _ _ _ _ _ _ _ _ _ _ _ = _
    unfold fX9_next_b77_body fX9_next_b146
    rw [if_pos (by decide), show nI c - nI (cnt 10 (fun i => A i && decide (l ≤ brg N P bk kd (up wd a i) (cs N r)))) = nI (c - cnt 10 (fun i => A i && decide (l ≤ brg N P bk kd (up wd a i) (cs N r)))) from nI_sub hle, bdS (mxmn9 (by omega) (by omega)).1, (mxmn9 (by omega) (by omega)).2, nI_succ]
    by_cases h : lst ≤ max (cnt 10 (fun i => A i && decide (l ≤ brg N P bk kd (up wd a i) (cs N r)))) (c - cnt 10 (fun i => A i && decide (l ≤ brg N P bk kd (up wd a i) (cs N r))))
    · rw [if_pos (nI_le h (by omega)), if_neg (by omega), Nat.min_eq_left h]; rfl
    · rw [if_neg (nI_ge (by omega) (by omega)), if_pos (by omega), Nat.min_eq_right (by omega)]; rfl
  · intro m w h1 hw
    right
    have hb : brg N P bk kd (up wd a w) (cs N r) ≤ 36 := brg_le hP1 (fun b hb => by
      by_cases e : b = a
      · rw [e, up_at]; omega
      · rw [up_ne e]; exact (hT.wf.2 b hb).2.2.1.2)
    show fX9_next_b77_body fu r k so sq r59 _ _ _ _ _ _ _ _ _ _ _ = fX9_next_b77 fu r k so sq r59 m (nI a) (nI (mkS 10 A)) (nI c) its (nI lst) (nI l) (nI (cnt (w + 1) _)) (nI (w + 1)) t 0
    unfold fX9_next_b77_body
    rw [if_neg (show ¬ 10 ≤ nI w from nI_ge (a := w) (b := 10) (by omega) (by omega)), bdS (has9 (by omega) (by omega)), mkS_bit, decide_eq_true hw, Bool.true_and, cnt_s, nI_succ]
    have z0 : ∀ y : Int32, y + 0 = y := Int32.add_zero
    by_cases hA : A w = true
    · rw [hA, if_neg (show ¬ bI true = 0 by decide), bdS (bridgeBy9 (by omega) hT ha ⟨h1, by omega⟩), Bool.true_and]
      by_cases h : l ≤ brg N P bk kd (up wd a w) (cs N r)
      · simp only [decide_eq_true h, if_true]
        rw [if_neg (nI_nlt h (by omega)), nI_succ]
      · simp only [decide_eq_false h]
        rw [if_pos (nI_lt (by omega) (by omega)), z0]
        rfl
    · have hA' : A w = false := by simpa using hA
      rw [hA', if_pos (show bI false = 0 by decide), Bool.false_and, z0]
      rfl
theorem next9 {N P a : Nat} {bk kd wd sl : Nat → Nat} {A : Nat → Bool} {t r so sq : Nat → Int32} {k : Int32} {fu : Nat} (hfu : 40 ≤ fu) (hT : TR N P bk kd wd sl t) (ha : a < N) (hA0 : A 0 = false) : fX9_next_b59 fu r k so sq fu (nI a) (nI (mkS 10 A)) (nI (cnt 10 A)) (-9) 99 1 t 0 = some (if cnt 10 A ≤ 1 then -9 else (bst (fun l => max (cnt 10 (fun i => A i && decide (l ≤ brg N P bk kd (up wd a i) (cs N r)))) (cnt 10 A - cnt 10 (fun i => A i && decide (l ≤ brg N P bk kd (up wd a i) (cs N r))))) 99 37).1, t, 0) := by
  have hc := cnt_le 10 A
  by_cases h1 : cnt 10 A ≤ 1
  · rw [if_pos h1]
    obtain ⟨f, rfl⟩ : ∃ f, fu = f + 1 := ⟨fu - 1, by omega⟩
    show fX9_next_b59_body (f + 1) r k so sq _ _ _ _ _ _ _ _ _ = _
    unfold fX9_next_b59_body
    rw [if_neg (by decide), if_pos (show nI (cnt 10 A) ≤ 1 from nI_le (b := 1) h1 (by omega))]
  rw [if_neg h1]
  refine lpF (N := 37) (k0 := 1) (G := fun m l => fX9_next_b59 fu r k so sq m (nI a) (nI (mkS 10 A)) (nI (cnt 10 A)) (bst (fun l => max (cnt 10 (fun i => A i && decide (l ≤ brg N P bk kd (up wd a i) (cs N r)))) (cnt 10 A - cnt 10 (fun i => A i && decide (l ≤ brg N P bk kd (up wd a i) (cs N r))))) 99 l).1 (nI (bst (fun l => max (cnt 10 (fun i => A i && decide (l ≤ brg N P bk kd (up wd a i) (cs N r)))) (cnt 10 A - cnt 10 (fun i => A i && decide (l ≤ brg N P bk kd (up wd a i) (cs N r))))) 99 l).2) (nI l) t 0) ?_ ?_ 36 1 fu (by omega) (by omega) (by omega)
  · intro m
    show fX9_next_b59_body fu r k so sq _ _ _ _ _ _ _ _ _ = _
    unfold fX9_next_b59_body
    rw [if_pos (by decide)]
  · intro m l hl1 hl
    right
    have hb := bst_le (V := fun l => max (cnt 10 (fun i => A i && decide (l ≤ brg N P bk kd (up wd a i) (cs N r)))) (cnt 10 A - cnt 10 (fun i => A i && decide (l ≤ brg N P bk kd (up wd a i) (cs N r))))) (b0 := 99) (l := l)
    show fX9_next_b59_body fu r k so sq _ _ _ _ _ _ _ _ _ = fX9_next_b59 fu r k so sq m (nI a) (nI (mkS 10 A)) (nI (cnt 10 A)) (bst _ 99 (l + 1)).1 (nI (bst _ 99 (l + 1)).2) (nI (l + 1)) t 0
    unfold fX9_next_b59_body
    rw [if_neg (show ¬ 36 < nI l from nI_nlt (a := 36) (b := l) (by omega) (by omega)), if_neg (show ¬ nI (cnt 10 A) ≤ 1 from nI_ge (a := 1) (by omega) (by omega)), next_in (by omega) hT ha hA0 rfl (by omega) hb, bst, if_neg (show ¬ l = 0 by omega)]
    split <;> rfl
theorem next_b26 {a : Nat} {A : Nat → Bool} {t r so sq : Nat → Int32} {k : Int32} {fu : Nat} (hfu : 40 ≤ fu) (hA0 : A 0 = false) : fX9_next_b26 fu r k so sq fu (nI a) (nI (mkS 10 A)) 0 1 t 0 = fX9_next_b59 fu r k so sq fu (nI a) (nI (mkS 10 A)) (nI (cnt 10 A)) (-9) 99 1 t 0 := by
  have hS := mkS_lt 10 A
  have c1 : cnt 1 A = 0 := by rw [cnt_s, hA0]; rfl
  have key := lpF (N := 10) (k0 := 1) (G := fun n w => fX9_next_b26 fu r k so sq n (nI a) (nI (mkS 10 A)) (nI (cnt w A)) (nI w) t 0) (r := fX9_next_b59 fu r k so sq fu (nI a) (nI (mkS 10 A)) (nI (cnt 10 A)) (-9) 99 1 t 0) ?_ ?_ 9 1 fu (by omega) (by omega) (by omega)
  · simp only [c1] at key
    exact key
  · intro n
    show fX9_next_b26_body fu r k so sq _ _ _ _ _ _ _ = _
    unfold fX9_next_b26_body
    rw [if_pos (by decide)]
  · intro n w h1 hw
    right
    show fX9_next_b26_body fu r k so sq _ _ _ _ _ _ _ = fX9_next_b26 fu r k so sq n (nI a) (nI (mkS 10 A)) (nI (cnt (w + 1) A)) (nI (w + 1)) t 0
    unfold fX9_next_b26_body
    rw [if_neg (show ¬ 10 ≤ nI w from nI_ge (a := w) (b := 10) (by omega) (by omega)), nI_bit (by omega) (by omega), mkS_bit, decide_eq_true hw, Bool.true_and, cnt_s, nI_succ]
    cases A w
    · rw [if_neg (by decide), if_neg (by decide), Int32.add_zero]; rfl
    · rw [if_pos rfl, if_pos rfl, nI_succ]
theorem bst_congr {V W : Nat → Nat} {b l : Nat} (h : ∀ i, i < l → V i = W i) : bst V b l = bst W b l := by
  induction l with
  | zero => rfl
  | succ l ih => rw [bst, bst, ih (fun i hi => h i (by omega)), h l (by omega)]
theorem q_next {N P k : Nat} {bk kd wd sl : Nat → Nat} {day crossed th planks size sworn least great : Int32} {t came under due r bank kind word slow ld ov so sq bo : Nat → Int32} {fu : Nat} (hfu : 40 ≤ fu) (hT : TR N P bk kd wd sl t) (hF : FR N P bk kd wd sl planks size sworn bank kind word slow) (hS : ST N P day crossed came under due r) (hs : SR k ld ov so sq) (a : Int32) : ∃ v bo' l' g', fX8_next fu size planks came kind sworn bank word (nI k) ld ov bo least great a = some (v, bo', l', g') ∧ fX9_next fu r (nI k) so sq t th a = some (v, t, 0) := by
  obtain ⟨d, c, hd, hx, ed, ex, hR⟩ := id hS
  unfold fX8_next fX9_next fX2_bestTry
  by_cases hp : og a N
  · exact ⟨-1, bo, least, great, by rw [bdS ((hasPersonX hF.1.2.1).1 hp)]; rfl, by rw [bdS ((isPerson9 hT).1 hp)]; rfl⟩
  rw [bdS ((hasPersonX hF.1.2.1).2 hp), bdS ((isPerson9 hT).2 hp), if10, if10]
  obtain ⟨j, hj, rfl⟩ := og_in hp (by have := hT.1.2.2.2.2; omega)
  obtain ⟨z, h1, b', rfl, h2⟩ := gatherX (fu := fu) (least := least) (great := great) (borne := bo) (by omega) hT.wf hF hR.C hj hs
  have e9 := wordsOf9 (fu := fu) (r := r) (by omega) hT hs hj
  have hA0 : aw (fun w => brg N P bk kd (up wd j w) (cs N r)) so sq k 0 = false := rfl
  have hc9 : cnt 10 (aw (fun w => brg N P bk kd (up wd j w) (cs N r)) so sq k) ≤ 9 := by
    have : ∀ n, cnt (n + 1) (aw (fun w => brg N P bk kd (up wd j w) (cs N r)) so sq k) ≤ n := by
      intro n
      induction n with
      | zero => exact Nat.le_refl _
      | succ n ih => rw [cnt_s]; split <;> omega
    exact this 9
  generalize aw (fun w => brg N P bk kd (up wd j w) (cs N r)) so sq k = A at h1 h2 e9 hA0 hc9
  rw [bdS e9]
  show ∃ v bo' l' g', _ ∧ fX9_next_b26 fu r (nI k) so sq fu (nI j) _ 0 1 t 0 = _
  rw [next_b26 hfu hA0, next9 hfu hT hj hA0, bdS h1]
  show ∃ v bo' l' g', (Option.bind (if 1 < nI (cnt 10 A) then _ else _) _) = _ ∧ _
  by_cases hq : cnt 10 A ≤ 1
  · refine ⟨-9, b', lw A 10, gw A 10, ?_, ?_⟩
    · rw [if_neg (show ¬ 1 < nI (cnt 10 A) from nI_nlt (a := 1) hq (by omega))]; rfl
    · rw [if_pos hq]
  · refine ⟨(bst (fun q => max (cnt (cnt 10 A) (fun j => decide (¬ b' j < nI q))) (cnt 10 A - cnt (cnt 10 A) (fun j => decide (¬ b' j < nI q)))) 10 37).1, b', lw A 10, gw A 10, ?_, ?_⟩
    · rw [if_pos (show 1 < nI (cnt 10 A) from nI_lt (a := 1) (by omega) (by omega)), tryX hfu hc9]; rfl
    · rw [if_neg hq]
      have e : ∀ q, q < 37 → max (cnt (cnt 10 A) (fun j => decide (¬ b' j < nI q))) (cnt 10 A - cnt (cnt 10 A) (fun j => decide (¬ b' j < nI q))) = max (cnt 10 (fun i => A i && decide (q ≤ brg N P bk kd (up wd j i) (cs N r)))) (cnt 10 A - cnt 10 (fun i => A i && decide (q ≤ brg N P bk kd (up wd j i) (cs N r)))) := fun q hq => by rw [h2 q (by omega)]
      rw [bst_congr e, bst_same (b := 10) (c := 99) (fun i => ?_) (fun i => ?_) (by omega)]
      · have := cnt_mono (n := 10) (P := fun i' => A i' && decide (i ≤ brg N P bk kd (up wd j i') (cs N r))) (Q := A) (fun i _ h => by rw [Bool.and_eq_true] at h; exact h.1)
        omega
      · have := cnt_mono (n := 10) (P := fun i' => A i' && decide (i ≤ brg N P bk kd (up wd j i') (cs N r))) (Q := A) (fun i _ h => by rw [Bool.and_eq_true] at h; exact h.1)
        omega
