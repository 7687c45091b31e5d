-- words: another word for one
theorem TR_word {N P a w : Nat} {bk kd wd sl : Nat → Nat} {t : Nat → Int32} (h : TR N P bk kd wd sl t) (ha : a < N) (hw : 1 ≤ w ∧ w ≤ 9) : TR N P bk kd (up wd a w) sl (upd t (18 + a) (nI w)) := by
  have hN := h.1.2.2.2.2
  refine ⟨⟨by rw [upd_ne (by omega)]; exact h.1.1, by rw [upd_ne (by omega)]; exact h.1.2.1, h.1.2.2⟩, fun b hb => ?_⟩
  obtain ⟨⟨h1, h2, h3, h4⟩, h5, h6, h7, h8⟩ := h.2 b hb
  by_cases e : b = a
  · subst e
    refine ⟨⟨by rw [upd_ne (by omega)]; exact h1, by rw [upd_ne (by omega)]; exact h2, by rw [upd_at, up_at], by rw [upd_ne (by omega)]; exact h4⟩, h5, h6, by rw [up_at]; exact hw, h8⟩
  · refine ⟨⟨by rw [upd_ne (by omega)]; exact h1, by rw [upd_ne (by omega)]; exact h2, by rw [upd_ne (by omega), up_ne e]; exact h3, by rw [upd_ne (by omega)]; exact h4⟩, h5, h6, by rw [up_ne e]; exact h7, h8⟩
theorem upd_back (f : Nat → Int32) (j : Nat) (x : Int32) : upd (upd f j x) j (f j) = f := by
  funext i
  by_cases e : i = j
  · rw [e, upd_at]
  · rw [upd_ne e, upd_ne e]
theorem bridgeBy9 {N P a w : Nat} {bk kd wd sl : Nat → Nat} {t r : Nat → Int32} {fu : Nat} (hfu : 9 ≤ fu) (hT : TR N P bk kd wd sl t) (ha : a < N) (hw : 1 ≤ w ∧ w ≤ 9) : fX9_bridgeBy fu r t (nI a) (nI w) = some (nI (brg N P bk kd (up wd a w) (cs N r)), t) := by
  have hN := hT.1.2.2.2.2
  unfold fX9_bridgeBy
  rw [show (18 : Int32) + nI a = nI (18 + a) from nI_add 18 a, bdS (rdN (by omega) (by decide)), bdS (wrN (by omega) (by decide)), bdS (bridge9 (TR_word hT ha hw) hfu), bdS (wrN (by omega) (by decide)), upd_back]
theorem inf_36 {P : Nat} {f : Nat → Nat} (hP : 1 ≤ P) (hf : ∀ p, p < P → f p ≤ 36) : inf 36 P f = inf 99 P f := by
  apply Nat.le_antisymm
  · exact le_inf (Nat.le_trans (inf_le_b _ _ _) (by omega)) (fun i hi => inf_le hi)
  · exact le_inf (Nat.le_trans (inf_le (i := 0) (by omega)) (hf 0 (by omega))) (fun i hi => inf_le hi)
theorem bridgeWithX {N P a w : Nat} {bk kd wd sl : Nat → Nat} {came bank kind word slow : Nat → Int32} {planks size sworn : Int32} {fu : Nat} {C : Nat → Nat} (hfu : 9 ≤ fu) (hW : WF N P bk kd wd sl) (hF : FR N P bk kd wd sl planks size sworn bank kind word slow) (hC : ∀ p, p < 8 → came p = nI (C p) ∧ C p < 2 ^ N) (ha : a < N) (hw : 1 ≤ w ∧ w ≤ 9) : fX2_bridgeWith fu planks came size kind sworn bank word (nI a) (nI w) = some (nI (brg N P bk kd (up wd a w) C)) := by
  obtain ⟨hP1, hP8, hN⟩ := hW.1
  have h8 := pow8 hN
  have hw9 : ∀ b, b < N → up wd a w b ≤ 9 := by
    intro b hb
    by_cases e : b = a
    · rw [e, up_at]; exact hw.2
    · rw [up_ne e]; exact (hW.2 b hb).2.2.1.2
  unfold brg
  rw [← inf_36 hP1 (fun p _ => bears_le hw9)]
  refine lp (N := P) (G := fun n k => fX2_bridgeWith_b6 fu planks came size kind sworn bank word n (nI a) (nI w) (nI (inf 36 k (fun p => bears N bk kd (up wd a w) p (C p)))) (nI k)) ?_ ?_ P 0 fu (by omega) (by omega)
  · intro n
    show fX2_bridgeWith_b6_body fu planks came size kind sworn bank word _ _ _ _ _ = _
    unfold fX2_bridgeWith_b6_body
    rw [hF.1.1, if_pos (nI_le (by omega) (by omega))]
  · intro n k hk
    right
    obtain ⟨c1, c2⟩ := hC k (by omega)
    have hb := bears_le (N := N) (bk := bk) (kd := kd) (p := k) (c := C k) hw9
    have hi := inf_le_b 36 k (fun p => bears N bk kd (up wd a w) p (C p))
    show fX2_bridgeWith_b6_body fu planks came size kind sworn bank word _ _ _ _ _ = _
    unfold fX2_bridgeWith_b6_body
    rw [if_neg (by rw [hF.1.1]; exact nI_ge (by omega) (by omega)), bdS (rdN (by omega) (by decide)), c1, bdS (bestX (we := up wd a w) hfu hN hF.1.2.1 hF.1.2.2 (fun b hb => ⟨(hF.2 b hb).1, (hF.2 b hb).2.1, (hF.2 b hb).2.2.1⟩) (fun b hb => ⟨(hW.2 b hb).1, (hW.2 b hb).2.1.2, hw9 b hb⟩) (fun b hb => ⟨fun q => by rw [nI_inj (by omega) (by omega) q, up_at], fun q => up_ne (fun z => q (by rw [z]))⟩) (by omega) (by omega)), mnN (by omega) (by omega), ← nI_succ]
    rfl
/-- what was seen agrees -/
def ag (k : Nat) (sl so : Nat → Int32) (b : Nat) : Prop := ∀ j, j < k → ((sl j ≤ nI b) ↔ so j = 1)
theorem agreesX {k b : Nat} {ld ov sl so : Nat → Int32} {fu : Nat} (hfu : 9 ≤ fu) (h : SR k ld ov sl so) : ∃ y, fX2_agrees fu (nI k) ld ov (nI b) = some y ∧ ∃ c : Bool, y = bI c ∧ (c = true ↔ ag k sl so b) := by
  have hk := h.1
  refine lpI (N := k) (k0 := 0) (F := fun m j (_ : Unit) => fX2_agrees_b2 fu (nI k) ld ov m (nI b) (nI j)) (I := fun j _ => ag j sl so b) ?_ ?_ k 0 fu () (Nat.le_refl _) (fun p hp => by omega) (by omega) (by omega)
  · intro m _ hI
    refine ⟨1, ?_, true, rfl, ⟨fun _ => hI, fun _ => rfl⟩⟩
    show fX2_agrees_b2_body fu (nI k) ld ov _ _ _ = _
    unfold fX2_agrees_b2_body
    rw [if_pos (nI_le (by omega) (by omega))]
  · intro m j _ _ hj hI
    obtain ⟨⟨h1, h2⟩, h3, -⟩ := h.2 j hj
    have e : fX2_agrees_b2 fu (nI k) ld ov (m + 1) (nI b) (nI j) = if (if nI b < sl j then (0 : Int32) else 1) = so j then fX2_agrees_b2 fu (nI k) ld ov m (nI b) (nI (j + 1)) else some 0 := by
      show fX2_agrees_b2_body fu (nI k) ld ov _ _ _ = _
      unfold fX2_agrees_b2_body fX2_agrees_b25
      rw [if_neg (nI_ge (by omega) (by omega)), bdS (rdN (by omega) (by decide)), bdS (rdN (by omega) (by decide)), bdS (rdN (by omega) (by decide)), h1, h2, nI_succ]
      split <;> rfl
    have iff1 : ((if nI b < sl j then (0 : Int32) else 1) = so j) ↔ ((sl j ≤ nI b) ↔ so j = 1) := by
      by_cases hl : nI b < sl j
      · have : ¬ sl j ≤ nI b := Int32.not_le.mpr hl
        rw [if_pos hl]
        rcases h3 with q | q <;> rw [q] <;> simp [this]
      · have : sl j ≤ nI b := Int32.not_lt.mp hl
        rw [if_neg hl]
        rcases h3 with q | q <;> rw [q] <;> simp [this]
    show (∃ y, fX2_agrees_b2 fu (nI k) ld ov (m + 1) (nI b) (nI j) = some y ∧ _) ∨ ∃ y : Unit, _ ∧ fX2_agrees_b2 fu (nI k) ld ov (m + 1) (nI b) (nI j) = fX2_agrees_b2 fu (nI k) ld ov m (nI b) (nI (j + 1))
    rw [e]
    by_cases hx : (if nI b < sl j then (0 : Int32) else 1) = so j
    · right
      refine ⟨(), fun i hi => ?_, by rw [if_pos hx]⟩
      by_cases ei : i = j
      · rw [ei]; exact iff1.mp hx
      · exact hI i (by omega)
    · left
      exact ⟨0, by rw [if_neg hx], false, rfl, ⟨fun z => absurd z (by decide), fun z => absurd (iff1.mpr (z j hj)) hx⟩⟩
