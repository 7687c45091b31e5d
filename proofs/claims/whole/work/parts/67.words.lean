-- words: another word for one
theorem TR_word {N P a w : Nat} {bk kd wd sl : Nat → Nat} {t : Nat → Int32} (h : TR N P bk kd wd sl t) (ha : a < N) (hw : 1 ≤ w ∧ w ≤ 9) : TR N P bk kd (up wd a w) sl (upd t (18 + a) (nI w)) := by
  have hN := h.1.2.2.2.2
  refine ⟨⟨by rw [upd_ne (by omega)]; exact h.1.1, by rw [upd_ne (by omega)]; exact h.1.2.1, h.1.2.2⟩, fun b hb => ?_⟩
  obtain ⟨⟨h1, h2, h3, h4⟩, h5, h6, h7, h8⟩ := h.2 b hb
  by_cases e : b = a
  · subst e
    refine ⟨⟨by rw [upd_ne (by omega)]; exact h1, by rw [upd_ne (by omega)]; exact h2, by rw [upd_at, up_at], by rw [upd_ne (by omega)]; exact h4⟩, h5, h6, by rw [up_at]; exact hw, h8⟩
  · refine ⟨⟨by rw [upd_ne (by omega)]; exact h1, by rw [upd_ne (by omega)]; exact h2, by rw [upd_ne (by omega), up_ne e]; exact h3, by rw [upd_ne (by omega)]; exact h4⟩, h5, h6, by rw [up_ne e]; exact h7, h8⟩
theorem upd_back (f : Nat → Int32) (j : Nat) (x : Int32) : upd (upd f j x) j (f j) = f := by
  funext i
  by_cases e : i = j
  · rw [e, upd_at]
  · rw [upd_ne e, upd_ne e]
theorem bridgeBy9 {N P a w : Nat} {bk kd wd sl : Nat → Nat} {t r : Nat → Int32} {fu : Nat} (hfu : 9 ≤ fu) (hT : TR N P bk kd wd sl t) (ha : a < N) (hw : 1 ≤ w ∧ w ≤ 9) : fX9_bridgeBy fu r t (nI a) (nI w) = some (nI (brg N P bk kd (up wd a w) (cs N r)), t) := by
  have hN := hT.1.2.2.2.2
  unfold fX9_bridgeBy
  rw [show (18 : Int32) + nI a = nI (18 + a) from nI_add 18 a, bdS (rdN (by omega) (by decide)), bdS (wrN (by omega) (by decide)), bdS (bridge9 (TR_word hT ha hw) hfu), bdS (wrN (by omega) (by decide)), upd_back]
