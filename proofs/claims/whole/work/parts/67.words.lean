-- words: another word for one
theorem TR_word {N P a w : Nat} {bk kd wd sl : Nat → Nat} {t : Nat → Int32} (h : TR N P bk kd wd sl t) (ha : a < N) (hw : 1 ≤ w ∧ w ≤ 9) : TR N P bk kd (up wd a w) sl (upd t (18 + a) (nI w)) := by
  have hN := h.1.2.2.2.2
  refine ⟨⟨by rw [upd_ne (by omega)]; exact h.1.1, by rw [upd_ne (by omega)]; exact h.1.2.1, h.1.2.2⟩, fun b hb => ?_⟩
  obtain ⟨⟨h1, h2, h3, h4⟩, h5, h6, h7, h8⟩ := h.2 b hb
  by_cases e : b = a
  · subst e
    refine ⟨⟨by rw [upd_ne (by omega)]; exact h1, by rw [upd_ne (by omega)]; exact h2, by rw [upd_at, up_at], by rw [upd_ne (by omega)]; exact h4⟩, h5, h6, by rw [up_at]; exact hw, h8⟩
  · refine ⟨⟨by rw [upd_ne (by omega)]; exact h1, by rw [upd_ne (by omega)]; exact h2, by rw [upd_ne (by omega), up_ne e]; exact h3, by rw [upd_ne (by omega)]; exact h4⟩, h5, h6, by rw [up_ne e]; exact h7, h8⟩
theorem upd_back (f : Nat → Int32) (j : Nat) (x : Int32) : upd (upd f j x) j (f j) = f := by
  funext i
  by_cases e : i = j
  · rw [e, upd_at]
  · rw [upd_ne e, upd_ne e]
theorem bridgeBy9 {N P a w : Nat} {bk kd wd sl : Nat → Nat} {t r : Nat → Int32} {fu : Nat} (hfu : 9 ≤ fu) (hT : TR N P bk kd wd sl t) (ha : a < N) (hw : 1 ≤ w ∧ w ≤ 9) : fX9_bridgeBy fu r t (nI a) (nI w) = some (nI (brg N P bk kd (up wd a w) (cs N r)), t) := by
  have hN := hT.1.2.2.2.2
  unfold fX9_bridgeBy
  rw [show (18 : Int32) + nI a = nI (18 + a) from nI_add 18 a, bdS (rdN (by omega) (by decide)), bdS (wrN (by omega) (by decide)), bdS (bridge9 (TR_word hT ha hw) hfu), bdS (wrN (by omega) (by decide)), upd_back]
theorem inf_36 {P : Nat} {f : Nat → Nat} (hP : 1 ≤ P) (hf : ∀ p, p < P → f p ≤ 36) : inf 36 P f = inf 99 P f := by
  apply Nat.le_antisymm
  · exact le_inf (Nat.le_trans (inf_le_b _ _ _) (by omega)) (fun i hi => inf_le hi)
  · exact le_inf (Nat.le_trans (inf_le (i := 0) (by omega)) (hf 0 (by omega))) (fun i hi => inf_le hi)
theorem bridgeWithX {N P a w : Nat} {bk kd wd sl : Nat → Nat} {came bank kind word slow : Nat → Int32} {planks size sworn : Int32} {fu : Nat} {C : Nat → Nat} (hfu : 9 ≤ fu) (hW : WF N P bk kd wd sl) (hF : FR N P bk kd wd sl planks size sworn bank kind word slow) (hC : ∀ p, p < 8 → came p = nI (C p) ∧ C p < 2 ^ N) (ha : a < N) (hw : 1 ≤ w ∧ w ≤ 9) : fX2_bridgeWith fu planks came size kind sworn bank word (nI a) (nI w) = some (nI (brg N P bk kd (up wd a w) C)) := by
  obtain ⟨hP1, hP8, hN⟩ := hW.1
  have h8 := pow8 hN
  have hw9 : ∀ b, b < N → up wd a w b ≤ 9 := by
    intro b hb
    by_cases e : b = a
    · rw [e, up_at]; exact hw.2
    · rw [up_ne e]; exact (hW.2 b hb).2.2.1.2
  unfold brg
  rw [← inf_36 hP1 (fun p _ => bears_le hw9)]
  refine lp (N := P) (G := fun n k => fX2_bridgeWith_b6 fu planks came size kind sworn bank word n (nI a) (nI w) (nI (inf 36 k (fun p => bears N bk kd (up wd a w) p (C p)))) (nI k)) ?_ ?_ P 0 fu (by omega) (by omega)
  · intro n
    show fX2_bridgeWith_b6_body fu planks came size kind sworn bank word _ _ _ _ _ = _
    unfold fX2_bridgeWith_b6_body
    rw [hF.1.1, if_pos (nI_le (by omega) (by omega))]
  · intro n k hk
    right
    obtain ⟨c1, c2⟩ := hC k (by omega)
    have hb := bears_le (N := N) (bk := bk) (kd := kd) (p := k) (c := C k) hw9
    have hi := inf_le_b 36 k (fun p => bears N bk kd (up wd a w) p (C p))
    show fX2_bridgeWith_b6_body fu planks came size kind sworn bank word _ _ _ _ _ = _
    unfold fX2_bridgeWith_b6_body
    rw [if_neg (by rw [hF.1.1]; exact nI_ge (by omega) (by omega)), bdS (rdN (by omega) (by decide)), c1, bdS (bestX (we := up wd a w) hfu hN hF.1.2.1 hF.1.2.2 (fun b hb => ⟨(hF.2 b hb).1, (hF.2 b hb).2.1, (hF.2 b hb).2.2.1⟩) (fun b hb => ⟨(hW.2 b hb).1, (hW.2 b hb).2.1.2, hw9 b hb⟩) (fun b hb => ⟨fun q => by rw [nI_inj (by omega) (by omega) q, up_at], fun q => up_ne (fun z => q (by rw [z]))⟩) (by omega) (by omega)), mnN (by omega) (by omega), ← nI_succ]
    rfl
