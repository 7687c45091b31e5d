-- tokens
def LC (k : Nat) (L T : Nat → Int32) (c : Nat → Nat) : Prop := k ≤ 120 ∧ ∀ j, j < k → L j = nI (c j) ∧ T j = nI (c j) ∧ c j ≤ 255
theorem LR.lc {k : Nat} {L T : Nat → Int32} (h : LR k L T) : LC k L T (fun j => (L j).toNatClampNeg) := by
  refine ⟨h.1, fun j hj => ?_⟩
  obtain ⟨h1, c, h2, h3⟩ := h.2 j hj
  have e : (L j).toNatClampNeg = c := by rw [h3]; exact nI_clamp (by omega)
  simp only [e]
  exact ⟨h3, h1.trans h3, h2⟩
theorem let9 {fu k j : Nat} {L T : Nat → Int32} {c : Nat → Nat} (h : LC k L T c) (hj : j < k) : fX9_letterAt fu (nI k) T (nI j) = some (nI (c j)) := by
  have := h.1
  unfold fX9_letterAt
  rw [if_neg (nI_ge hj (by omega)), bdS (rdN (by omega) (by decide)), (h.2 j hj).2.1]
theorem letE {fu k j : Nat} {T : Nat → Int32} (hk : k ≤ j) (hj : j < 2 ^ 31) : fX9_letterAt fu (nI k) T (nI j) = some (-1) := by
  unfold fX9_letterAt
  rw [if_pos (nI_le hk hj)]
def dg (x : Nat) : Bool := decide (48 ≤ x ∧ x ≤ 57)
theorem dig9 {fu x : Nat} (hx : x < 2 ^ 31) : fX9_in fu (nI x) 48 57 = some (bI (dg x)) := by
  unfold dg
  rcases rng (fu := fu) (x := nI x) (lo := 48) (hi := 57) with ⟨h1, -, h3⟩ | ⟨h1, -, h3, h4⟩
  · rw [h1, decide_eq_false]
    · rfl
    · rintro ⟨a, b⟩
      rcases h3 with h3 | h3
      · exact nI_nlt (a := x) (b := 48) a hx h3
      · exact nI_nlt (a := 57) (b := x) b (by omega) h3
  · rw [h1, decide_eq_true]
    · rfl
    · exact ⟨Nat.le_of_not_lt (fun z => h3 (nI_lt (b := 48) z (by omega))), Nat.le_of_not_lt (fun z => h4 (nI_lt (a := 57) z hx))⟩
theorem digE {fu : Nat} : fX9_in fu (-1) 48 57 = some 0 := rfl
def kN (x : Nat) : Nat := if x = 112 then 1 else if x = 99 then 2 else if x = 115 then 3 else if x = 109 then 4 else if x = 108 then 5 else 0
theorem kindOf9 {fu x : Nat} (hx : x < 2 ^ 31) : fX9_kindOf fu (nI x) = some (nI (kN x)) := by
  unfold fX9_kindOf kN
  have e : ∀ y, y < 2 ^ 31 → (nI x = nI y ↔ x = y) := fun y hy => nI_eq hx hy
  by_cases h1 : x = 112
  · rw [if_pos h1, if_pos (show nI x = 112 from (e 112 (by omega)).mpr h1)]; rfl
  rw [if_neg h1, if_neg (show ¬ nI x = 112 from fun q => h1 ((e 112 (by omega)).mp q))]
  by_cases h2 : x = 99
  · rw [if_pos h2, if_pos (show nI x = 99 from (e 99 (by omega)).mpr h2)]; rfl
  rw [if_neg h2, if_neg (show ¬ nI x = 99 from fun q => h2 ((e 99 (by omega)).mp q))]
  by_cases h3 : x = 115
  · rw [if_pos h3, if_pos (show nI x = 115 from (e 115 (by omega)).mpr h3)]; rfl
  rw [if_neg h3, if_neg (show ¬ nI x = 115 from fun q => h3 ((e 115 (by omega)).mp q))]
  by_cases h4 : x = 109
  · rw [if_pos h4, if_pos (show nI x = 109 from (e 109 (by omega)).mpr h4)]; rfl
  rw [if_neg h4, if_neg (show ¬ nI x = 109 from fun q => h4 ((e 109 (by omega)).mp q))]
  by_cases h5 : x = 108
  · rw [if_pos h5, if_pos (show nI x = 108 from (e 108 (by omega)).mpr h5)]; rfl
  rw [if_neg h5, if_neg (show ¬ nI x = 108 from fun q => h5 ((e 108 (by omega)).mp q))]
  rfl
theorem kN_le (x : Nat) : kN x ≤ 5 := by
  unfold kN
  repeat' split
  all_goals omega
def ltB (x : Nat) : Bool := x == 110 || x == 117 || x == 118 || x == 120 || decide (0 < kN x)
theorem ix0 : ∀ x, x < 256 → (ixA 0 (((nI x).toUInt32 % 65536).toInt32) < 0 ↔ (x == 59 || ltB x) = false) := by decide +kernel
theorem ix1 : ∀ x, x < 256 → ixA 1 (((nI x).toUInt32 % 65536).toInt32) + 1 = nI (kN x) := by decide +kernel
def RV (rt v : Int32) (w : Nat) : Prop := rt ≠ 0 → rt ≠ 4 → v = nI w
def tkR (ct rt : Int32) (w i e : Nat) : Prop := (ct = -1 ∧ rt = 0) ∨ (ct = -2 ∧ rt = 2 ∧ w ≤ 99 ∧ i < e) ∨ (ct = -3 ∧ rt = 4 ∧ i < e) ∨ (ct = nI w ∧ w = 59 ∧ rt = 3 ∧ i < e) ∨ (ct = nI w ∧ rt = 1 ∧ ltB w = true ∧ w ≤ 255 ∧ i < e)
theorem numE {fu k pl j a b n n' : Nat} {L T : Nat → Int32} {c : Nat → Nat} (h : LC k L T c) (hj : j ≤ k) (hpl : pl ≤ j) (hplk : pl < k) (hab : (a = b ∧ a ≤ 99) ∨ (a = 100 ∧ 99 < b ∧ b ≤ 999)) (hstop : j = k ∨ dg (c j) = false) : ∃ ct rt, ((ct = -2 ∧ rt = 2 ∧ a = b ∧ a ≤ 99) ∨ (ct = -3 ∧ rt = 4)) ∧ (∀ t, fX6_takeNumber_b5 fu (nI k) L (nI pl) (n + 1) (nI j) (nI a) t = some (nI j, nI a, ct)) ∧ ∀ t, fX9_advances_b71 fu (nI k) T (n' + 1) (nI (c pl)) (nI j) (nI b) (nI pl) t = some (nI j, nI b, nI pl, rt) := by
  have hk := h.1
  have hs : nI j - nI pl = nI (j - pl) := nI_sub hpl
  obtain ⟨lp, tp, cp⟩ := h.2 pl hplk
  -- class: at the stop it comes to b95
  have e1 : ∀ t, fX6_takeNumber_b5 fu (nI k) L (nI pl) (n + 1) (nI j) (nI a) t = fX6_takeNumber_b95 fu (nI k) L (nI pl) (nI j) (nI a) t := fun t => by
    show fX6_takeNumber_b5_body fu _ _ _ _ _ _ _ = _
    unfold fX6_takeNumber_b5_body
    by_cases hjk : j = k
    · rw [if_pos (nI_le (by omega) (by omega))]
    · have hd : dg (c j) = false := by rcases hstop with q | q; exact absurd q hjk; exact q
      obtain ⟨lj, tj, cj⟩ := h.2 j (by omega)
      rw [if_neg (nI_ge (by omega) (by omega)), bdS (rdN (by omega) (by decide)), bdS (rdN (by omega) (by decide)), lj]
      by_cases h1 : c j < 48
      · rw [if_pos (show nI (c j) < 48 from nI_lt (b := 48) h1 (by omega))]
      · rw [if_neg (show ¬ nI (c j) < 48 from nI_nlt (b := 48) (by omega) (by omega)), if_pos (show 57 < nI (c j) from nI_lt (a := 57) (Nat.lt_of_not_le (fun z => by unfold dg at hd; have := of_decide_eq_false hd; omega)) (by omega))]
  have e2 : ∀ t, fX9_advances_b71 fu (nI k) T (n' + 1) (nI (c pl)) (nI j) (nI b) (nI pl) t = if 99 < nI b then some (nI j, nI b, nI pl, 4) else if nI (c pl) = 48 then (if nI (j - pl) ≤ 1 then some (nI j, nI b, nI pl, 2) else some (nI j, nI b, nI pl, 4)) else some (nI j, nI b, nI pl, 2) := fun t => by
    show fX9_advances_b71_body fu _ _ _ _ _ _ _ _ = _
    unfold fX9_advances_b71_body fX9_advances_b175
    by_cases hjk : j = k
    · rw [bdS (letE (by omega) (by omega)), bdS digE, if00, hs]
    · have hd : dg (c j) = false := by rcases hstop with q | q; exact absurd q hjk; exact q
      have := (h.2 j (by omega)).2.2
      rw [bdS (let9 h (by omega)), bdS (dig9 (by omega)), hd, if_pos (show bI false = 0 by decide), hs]
  have e3 : ∀ t, fX6_takeNumber_b95 fu (nI k) L (nI pl) (nI j) (nI a) t = if nI (j - pl) ≤ 1 then (if 99 < nI a then some (nI j, nI a, -3) else some (nI j, nI a, -2)) else if nI (c pl) = 48 then some (nI j, nI a, -3) else (if 99 < nI a then some (nI j, nI a, -3) else some (nI j, nI a, -2)) := fun t => by
    unfold fX6_takeNumber_b95 fX6_takeNumber_b127 fX6_takeNumber_b149
    rw [hs, bdS (rdN (by omega) (by decide)), lp, if00, if10]
    split
    · rfl
    · split
      · split <;> rfl
      · rfl
  have a99 : 99 < nI a ↔ 99 < a := nI_ltI (a := 99) (by omega) (by omega)
  have b99 : 99 < nI b ↔ 99 < b := nI_ltI (a := 99) (by omega) (by omega)
  have p48 : nI (c pl) = 48 ↔ c pl = 48 := nI_eq (b := 48) (by omega) (by omega)
  have j1 : nI (j - pl) ≤ 1 ↔ j - pl ≤ 1 := nI_leI (b := 1) (by omega) (by omega)
  by_cases hb : 99 < b
  · refine ⟨-3, 4, Or.inr ⟨rfl, rfl⟩, fun t => ?_, fun t => ?_⟩
    · rw [e1, e3, if_pos (a99.mpr (by omega))]
      split
      · rfl
      · split <;> rfl
    · rw [e2, if_pos (b99.mpr hb)]
  · by_cases hz : c pl = 48 ∧ ¬ j - pl ≤ 1
    · refine ⟨-3, 4, Or.inr ⟨rfl, rfl⟩, fun t => ?_, fun t => ?_⟩
      · rw [e1, e3, if_neg (fun q => hz.2 (j1.mp q)), if_pos (p48.mpr hz.1)]
      · rw [e2, if_neg (fun q => hb (b99.mp q)), if_pos (p48.mpr hz.1), if_neg (fun q => hz.2 (j1.mp q))]
    · refine ⟨-2, 2, Or.inl ⟨rfl, rfl, by omega, by omega⟩, fun t => ?_, fun t => ?_⟩
      · rw [e1, e3, if_neg (show ¬ 99 < nI a from fun q => by have := a99.mp q; omega)]
        by_cases q : j - pl ≤ 1
        · rw [if_pos (j1.mpr q)]
        · rw [if_neg (fun z => q (j1.mp z)), if_neg (fun z => hz ⟨p48.mp z, q⟩)]
      · rw [e2, if_neg (fun q => hb (b99.mp q))]
        by_cases q : c pl = 48
        · rw [if_pos (p48.mpr q), if_pos (j1.mpr (Decidable.byContradiction (fun z => hz ⟨q, z⟩)))]
        · rw [if_neg (fun z => q (p48.mp z))]
theorem numL {fu k pl : Nat} {L T : Nat → Int32} {c : Nat → Nat} (h : LC k L T c) (hplk : pl < k) : ∀ (m j n n' a b : Nat), k = j + m → m < n → m < n' → pl ≤ j → ((a = b ∧ a ≤ 99) ∨ (a = 100 ∧ 99 < b ∧ b ≤ 999)) → ∃ e w v ct rt, (j ≤ e ∧ e ≤ k ∧ (j < k → dg (c j) = true → j < e)) ∧ ((ct = -2 ∧ rt = 2 ∧ w ≤ 99 ∧ v = w) ∨ (ct = -3 ∧ rt = 4)) ∧ (∀ t, fX6_takeNumber_b5 fu (nI k) L (nI pl) n (nI j) (nI a) t = some (nI e, nI w, ct)) ∧ ∀ t, fX9_advances_b71 fu (nI k) T n' (nI (c pl)) (nI j) (nI b) (nI pl) t = some (nI e, nI v, nI pl, rt) := by
  have hk := h.1
  intro m
  induction m with
  | zero =>
    intro j n n' a b e hn hn' hpl hab
    obtain ⟨n, rfl⟩ : ∃ x, n = x + 1 := ⟨n - 1, by omega⟩
    obtain ⟨n', rfl⟩ : ∃ x, n' = x + 1 := ⟨n' - 1, by omega⟩
    obtain ⟨ct, rt, h1, h2, h3⟩ := numE (fu := fu) (n := n) (n' := n') h (show j ≤ k by omega) hpl hplk hab (Or.inl (by omega))
    exact ⟨j, a, b, ct, rt, ⟨by omega, by omega, fun q => by omega⟩, by rcases h1 with ⟨x1, x2, x3, x4⟩ | x1; exact Or.inl ⟨x1, x2, x4, x3.symm⟩; exact Or.inr x1, h2, h3⟩
  | succ m ih =>
    intro j n n' a b e hn hn' hpl hab
    obtain ⟨n, rfl⟩ : ∃ x, n = x + 1 := ⟨n - 1, by omega⟩
    obtain ⟨n', rfl⟩ : ∃ x, n' = x + 1 := ⟨n' - 1, by omega⟩
    obtain ⟨lj, tj, cj⟩ := h.2 j (by omega)
    by_cases hd : dg (c j) = true
    · have hd2 := of_decide_eq_true hd
      have nx : ∃ a2 b2, ((a2 = b2 ∧ a2 ≤ 99) ∨ (a2 = 100 ∧ 99 < b2 ∧ b2 ≤ 999)) ∧ (∀ t, fX6_takeNumber_b5 fu (nI k) L (nI pl) (n + 1) (nI j) (nI a) t = fX6_takeNumber_b5 fu (nI k) L (nI pl) n (nI (j + 1)) (nI a2) t) ∧ (∀ t, fX9_advances_b71 fu (nI k) T (n' + 1) (nI (c pl)) (nI j) (nI b) (nI pl) t = fX9_advances_b71 fu (nI k) T n' (nI (c pl)) (nI (j + 1)) (nI b2) (nI pl) t) := by
        have d1 : ∀ t, fX6_takeNumber_b5 fu (nI k) L (nI pl) (n + 1) (nI j) (nI a) t = if 10 ≤ nI a then fX6_takeNumber_b5 fu (nI k) L (nI pl) n (nI j + 1) 100 t else fX6_takeNumber_b5 fu (nI k) L (nI pl) n (nI j + 1) (((nI a * 10) + nI (c j)) - 48) t := fun t => by
          show fX6_takeNumber_b5_body fu _ _ _ _ _ _ _ = _
          unfold fX6_takeNumber_b5_body fX6_takeNumber_b79
          rw [if_neg (nI_ge (by omega) (by omega)), bdS (rdN (by omega) (by decide)), bdS (rdN (by omega) (by decide)), bdS (rdN (by omega) (by decide)), lj, if_neg (show ¬ nI (c j) < 48 from nI_nlt (b := 48) (by omega) (by omega)), if_neg (show ¬ 57 < nI (c j) from nI_nlt (a := 57) (by omega) (by omega))]
        have d2 : ∀ t, fX9_advances_b71 fu (nI k) T (n' + 1) (nI (c pl)) (nI j) (nI b) (nI pl) t = if nI b ≤ 99 then fX9_advances_b71 fu (nI k) T n' (nI (c pl)) (nI j + 1) (((10 * nI b) + nI (c j)) - 48) (nI pl) t else fX9_advances_b71 fu (nI k) T n' (nI (c pl)) (nI j + 1) (nI b) (nI pl) t := fun t => by
          show fX9_advances_b71_body fu _ _ _ _ _ _ _ _ = _
          unfold fX9_advances_b71_body fX9_advances_b125
          rw [bdS (let9 h (by omega)), bdS (dig9 (by omega)), hd, if_neg (show ¬ bI true = 0 by decide), bdS (let9 h (by omega))]
        have eb : ∀ x, ((10 : Int32) * nI x + nI (c j)) - 48 = nI (10 * x + c j - 48) := fun x => by
          rw [show (10 : Int32) * nI x = nI (10 * x) from pk_mul 10 x, nI_add]
          exact nI_sub (b := 48) (by omega)
        have ea : ∀ x, (nI x * (10 : Int32) + nI (c j)) - 48 = nI (10 * x + c j - 48) := fun x => by
          rw [show nI x * (10 : Int32) = nI (x * 10) from pk_mul x 10, nI_add, Nat.mul_comm x 10]
          exact nI_sub (b := 48) (by omega)
        by_cases q1 : b ≤ 99
        · by_cases q2 : a < 10
          · refine ⟨10 * a + c j - 48, 10 * b + c j - 48, by omega, fun t => ?_, fun t => ?_⟩
            · rw [d1, if_neg (show ¬ 10 ≤ nI a from nI_ge (b := 10) q2 (by omega)), ea, nI_succ]
            · rw [d2, if_pos (show nI b ≤ 99 from nI_le (b := 99) q1 (by omega)), eb, nI_succ]
          · refine ⟨100, 10 * b + c j - 48, by omega, fun t => ?_, fun t => ?_⟩
            · rw [d1, if_pos (show 10 ≤ nI a from nI_le (a := 10) (by omega) (by omega)), nI_succ]; rfl
            · rw [d2, if_pos (show nI b ≤ 99 from nI_le (b := 99) q1 (by omega)), eb, nI_succ]
        · refine ⟨100, b, by omega, fun t => ?_, fun t => ?_⟩
          · rw [d1, if_pos (show 10 ≤ nI a from nI_le (a := 10) (by omega) (by omega)), nI_succ]; rfl
          · rw [d2, if_neg (show ¬ nI b ≤ 99 from nI_ge (a := 99) (by omega) (by omega)), nI_succ]
      obtain ⟨a2, b2, g1, g2, g3⟩ := nx
      obtain ⟨e', w, v, ct, rt, ⟨x1, x2, x3⟩, x4, x5, x6⟩ := ih (j + 1) n n' a2 b2 (by omega) (by omega) (by omega) (by omega) g1
      exact ⟨e', w, v, ct, rt, ⟨by omega, x2, fun _ _ => by omega⟩, x4, fun t => by rw [g2, x5], fun t => by rw [g3, x6]⟩
    · obtain ⟨ct, rt, h1, h2, h3⟩ := numE (fu := fu) (n := n) (n' := n') h (show j ≤ k by omega) hpl hplk hab (Or.inr (by simpa using hd))
      exact ⟨j, a, b, ct, rt, ⟨by omega, by omega, fun _ q => absurd q hd⟩, by rcases h1 with ⟨x1, x2, x3, x4⟩ | x1; exact Or.inl ⟨x1, x2, x4, x3.symm⟩; exact Or.inr x1, h2, h3⟩
def LX (fu k : Nat) (L : Nat → Int32) (i pl e : Nat) (ct rt : Int32) (w : Nat) : Prop := (∀ v p t, ∃ v', fX6_advance fu (nI k) L (nI i) v p t = some (nI e, v', nI pl, ct) ∧ (ct = -2 → v' = nI w)) ∧ (i ≤ pl ∧ pl ≤ e ∧ e ≤ k) ∧ tkR ct rt w i e
theorem lexC {fu k i : Nat} {L T : Nat → Int32} {c : Nat → Nat} (hfu : 130 ≤ fu) (h : LC k L T c) (hi : i ≤ k) (hsp : i = k ∨ c i ≠ 32) : ∃ e ct rt w, (i ≤ e ∧ e ≤ k) ∧ tkR ct rt w i e ∧ (∀ n v p t, ∃ v', fX6_advance_b0 fu (nI k) L (n + 1) (nI i) v p t = some (nI e, v', nI i, ct) ∧ (ct = -2 → v' = nI w)) ∧ (∀ n v p t, ∃ v', fX9_advances_b0 fu (nI k) T (n + 1) (nI i) v p t = some (nI e, v', nI i, rt) ∧ RV rt v' w) := by
  have hk := h.1
  by_cases hik : i = k
  · refine ⟨k, -1, 0, 0, ⟨hi, Nat.le_refl _⟩, Or.inl ⟨rfl, rfl⟩, fun n v p t => ⟨v, ?_, fun q => absurd q (by decide)⟩, fun n v p t => ⟨v, ?_, fun q => absurd rfl q⟩⟩
    · show fX6_advance_b0_body fu _ _ _ _ _ _ _ = _
      unfold fX6_advance_b0_body fX6_advance_b38
      rw [hik, if_pos (nI_le (Nat.le_refl _) (by omega)), if_neg (nI_nlt (Nat.le_refl _) (by omega))]
    · show fX9_advances_b0_body fu _ _ _ _ _ _ _ = _
      unfold fX9_advances_b0_body
      rw [hik, bdS (letE (by omega) (by omega)), if_neg (show ¬ (-1 : Int32) = 32 by decide), bdS (letE (by omega) (by omega)), if_neg (show ¬ (0 : Int32) ≤ -1 by decide)]
  have hc32 : c i ≠ 32 := by rcases hsp with q | q; exact absurd q hik; exact q
  obtain ⟨li, ti, ci⟩ := h.2 i (by omega)
  have n32 : ¬ nI (c i) = 32 := fun q => hc32 ((nI_eq (b := 32) (by omega) (by omega)).mp q)
  have a0 : ∀ n v p t, fX6_advance_b0 fu (nI k) L (n + 1) (nI i) v p t = if nI (c i) < 48 then fX6_advance_b90 fu (nI k) L (nI (c i)) (nI i) v (nI i) t else if 57 < nI (c i) then fX6_advance_b90 fu (nI k) L (nI (c i)) (nI i) v (nI i) t else (fX6_takeNumber fu (nI k) L (nI i) (nI i) v t).bind fun (g8, g9, g10) => some (g8, g9, nI i, g10) := fun n v p t => by
    show fX6_advance_b0_body fu _ _ _ _ _ _ _ = _
    unfold fX6_advance_b0_body fX6_advance_b38
    rw [if_neg (nI_ge (by omega) (by omega)), bdS (rdN (by omega) (by decide)), li, if_neg n32, if_pos (nI_lt (by omega) (by omega)), bdS (rdN (by omega) (by decide)), li]
  by_cases hd : dg (c i) = true
  · have hd2 := of_decide_eq_true hd
    obtain ⟨e, w, v, ct, rt, ⟨x1, x2, x3⟩, x4, x5, x6⟩ := numL (fu := fu) h (show i < k by omega) (k - i) i fu fu 0 0 (by omega) (by omega) (by omega) (Nat.le_refl _) (Or.inl ⟨rfl, by omega⟩)
    have x3' := x3 (by omega) hd
    refine ⟨e, ct, rt, w, ⟨x1, x2⟩, ?_, fun n v0 p t => ⟨nI w, ?_, fun _ => rfl⟩, fun n v0 p t => ⟨nI v, ?_, ?_⟩⟩
    · rcases x4 with ⟨y1, y2, y3, y4⟩ | ⟨y1, y2⟩
      · exact Or.inr (Or.inl ⟨y1, y2, y3, x3'⟩)
      · exact Or.inr (Or.inr (Or.inl ⟨y1, y2, x3'⟩))
    · rw [a0, if_neg (show ¬ nI (c i) < 48 from nI_nlt (b := 48) (by omega) (by omega)), if_neg (show ¬ 57 < nI (c i) from nI_nlt (a := 57) (by omega) (by omega)), show fX6_takeNumber fu (nI k) L (nI i) (nI i) v0 t = some (nI e, nI w, ct) from x5 t]
      rfl
    · show fX9_advances_b0_body fu _ _ _ _ _ _ _ = _
      unfold fX9_advances_b0_body
      rw [bdS (let9 h (by omega)), if_neg n32, bdS (let9 h (by omega)), if_pos (show 0 ≤ nI (c i) from nI_pos' (by omega)), bdS (dig9 (by omega)), hd, if_neg (show ¬ bI true = 0 by decide)]
      exact x6 t
    · rcases x4 with ⟨y1, y2, y3, y4⟩ | ⟨y1, y2⟩
      · intro _ _; rw [y4]
      · intro _ q; exact absurd y2 q
  · have hd' : dg (c i) = false := by simpa using hd
    have hd2 := of_decide_eq_false hd'
    have a1 : ∀ n v p t, fX6_advance_b0 fu (nI k) L (n + 1) (nI i) v p t = if ixA 0 (((nI (c i)).toUInt32 % 65536).toInt32) < 0 then some (nI (i + 1), v, nI i, -3) else some (nI (i + 1), v, nI i, nI (c i)) := fun n v p t => by
      rw [a0]
      unfold fX6_advance_b90 fX6_advance_b117
      rw [nI_succ]
      by_cases q : c i < 48
      · rw [if_pos (show nI (c i) < 48 from nI_lt (b := 48) q (by omega))]
      · rw [if_neg (show ¬ nI (c i) < 48 from nI_nlt (b := 48) (by omega) (by omega)), if_pos (show 57 < nI (c i) from nI_lt (a := 57) (by omega) (by omega))]
    have eq9 : ∀ y, y < 2 ^ 31 → (nI (c i) = nI y ↔ c i = y) := fun y hy => nI_eq (by omega) hy
    have b1 : ∀ n v p t, fX9_advances_b0 fu (nI k) T (n + 1) (nI i) v p t = if nI (c i) = nI 59 then some (nI (i + 1), nI (c i), nI i, 3) else if nI (c i) = nI 110 then some (nI (i + 1), nI (c i), nI i, 1) else if nI (c i) = nI 117 then some (nI (i + 1), nI (c i), nI i, 1) else if nI (c i) = nI 118 then some (nI (i + 1), nI (c i), nI i, 1) else if nI (c i) = nI 120 then some (nI (i + 1), nI (c i), nI i, 1) else if nI (kN (c i)) ≤ 0 then some (nI (i + 1), nI (c i), nI i, 4) else some (nI (i + 1), nI (c i), nI i, 1) := fun n v p t => by
      show fX9_advances_b0_body fu _ _ _ _ _ _ _ = _
      unfold fX9_advances_b0_body fX9_advances_b243
      rw [bdS (let9 h (by omega)), if_neg n32, bdS (let9 h (by omega)), if_pos (show 0 ≤ nI (c i) from nI_pos' (by omega)), bdS (dig9 (by omega)), hd', if_pos (show bI false = 0 by decide), bdS (kindOf9 (by omega)), ← nI_succ]
      rfl
    have hix := ix0 (c i) (by omega)
    have hkn := kN_le (c i)
    by_cases hs : c i = 59
    · refine ⟨i + 1, nI (c i), 3, c i, ⟨by omega, by omega⟩, Or.inr (Or.inr (Or.inr (Or.inl ⟨rfl, hs, rfl, by omega⟩))), fun n v p t => ⟨v, ?_, fun q => ?_⟩, fun n v p t => ⟨nI (c i), ?_, fun _ _ => rfl⟩⟩
      · rw [a1, if_neg (fun q => by have := hix.mp q; rw [hs] at this; exact absurd this (by decide))]
      · rw [hs] at q; exact absurd q (by decide)
      · rw [b1, if_pos ((eq9 59 (by omega)).mpr hs)]
    · by_cases hl : ltB (c i) = true
      · refine ⟨i + 1, nI (c i), 1, c i, ⟨by omega, by omega⟩, Or.inr (Or.inr (Or.inr (Or.inr ⟨rfl, rfl, hl, ci, by omega⟩))), fun n v p t => ⟨v, ?_, fun q => ?_⟩, fun n v p t => ⟨nI (c i), ?_, fun _ _ => rfl⟩⟩
        · rw [a1, if_neg (fun q => by have := hix.mp q; rw [hl, Bool.or_true] at this; cases this)]
        · exact absurd q (fun z => by have := nI_pos (n := c i) (by omega); rw [z] at this; exact this (by decide))
        · rw [b1, if_neg (fun q => hs ((eq9 59 (by omega)).mp q))]
          split
          · rfl
          split
          · rfl
          split
          · rfl
          split
          · rfl
          rename_i q1 q2 q3 q4
          rw [if_neg (nI_nle (Nat.pos_of_ne_zero (fun z => ?_)) (by omega))]
          unfold ltB at hl
          rw [z] at hl
          simp only [Bool.or_eq_true, beq_iff_eq, decide_eq_true_eq] at hl
          rcases hl with (((r | r) | r) | r) | r
          · exact q1 (by rw [r])
          · exact q2 (by rw [r])
          · exact q3 (by rw [r])
          · exact q4 (by rw [r])
          · omega
      · have hl' : ltB (c i) = false := by simpa using hl
        refine ⟨i + 1, -3, 4, 0, ⟨by omega, by omega⟩, Or.inr (Or.inr (Or.inl ⟨rfl, rfl, by omega⟩)), fun n v p t => ⟨v, ?_, fun q => absurd q (by decide)⟩, fun n v p t => ⟨nI (c i), ?_, fun _ q => absurd rfl q⟩⟩
        · rw [a1, if_pos (hix.mpr (by rw [hl', Bool.or_false]; simpa using hs))]
        · unfold ltB at hl'
          simp only [Bool.or_eq_false_iff, beq_eq_false_iff_ne, decide_eq_false_iff_not] at hl'
          obtain ⟨⟨⟨⟨z1, z2⟩, z3⟩, z4⟩, z5⟩ := hl'
          rw [b1, if_neg (fun q => hs ((eq9 59 (by omega)).mp q)), if_neg (fun q => z1 ((eq9 110 (by omega)).mp q)), if_neg (fun q => z2 ((eq9 117 (by omega)).mp q)), if_neg (fun q => z3 ((eq9 118 (by omega)).mp q)), if_neg (fun q => z4 ((eq9 120 (by omega)).mp q)), if_pos ((le0 (by omega)).mpr (by omega))]
theorem lexS {fu k : Nat} {L T : Nat → Int32} {c : Nat → Nat} (hfu : 130 ≤ fu) (h : LC k L T c) : ∀ (m i : Nat), k = i + m → ∃ pl e ct rt w, (i ≤ pl ∧ pl ≤ e ∧ e ≤ k) ∧ tkR ct rt w i e ∧ (∀ n v p t, m < n → ∃ v', fX6_advance_b0 fu (nI k) L n (nI i) v p t = some (nI e, v', nI pl, ct) ∧ (ct = -2 → v' = nI w)) ∧ (∀ n v p t, m < n → ∃ v', fX9_advances_b0 fu (nI k) T n (nI i) v p t = some (nI e, v', nI pl, rt) ∧ RV rt v' w) := by
  have hk := h.1
  have done : ∀ m i, k = i + m → (i = k ∨ c i ≠ 32) → ∃ pl e ct rt w, (i ≤ pl ∧ pl ≤ e ∧ e ≤ k) ∧ tkR ct rt w i e ∧ (∀ n v p t, m < n → ∃ v', fX6_advance_b0 fu (nI k) L n (nI i) v p t = some (nI e, v', nI pl, ct) ∧ (ct = -2 → v' = nI w)) ∧ (∀ n v p t, m < n → ∃ v', fX9_advances_b0 fu (nI k) T n (nI i) v p t = some (nI e, v', nI pl, rt) ∧ RV rt v' w) := by
    intro m i e hsp
    obtain ⟨e', ct, rt, w, ⟨x1, x2⟩, x3, x4, x5⟩ := lexC hfu h (show i ≤ k by omega) hsp
    refine ⟨i, e', ct, rt, w, ⟨Nat.le_refl _, x1, x2⟩, x3, fun n v p t hn => ?_, fun n v p t hn => ?_⟩
    · obtain ⟨n, rfl⟩ : ∃ x, n = x + 1 := ⟨n - 1, by omega⟩
      exact x4 n v p t
    · obtain ⟨n, rfl⟩ : ∃ x, n = x + 1 := ⟨n - 1, by omega⟩
      exact x5 n v p t
  intro m
  induction m with
  | zero => intro i e; exact done 0 i e (Or.inl (by omega))
  | succ m ih =>
    intro i e
    by_cases hsp : c i = 32
    · obtain ⟨pl, e', ct, rt, w, ⟨x0, x1, x2⟩, x3, x4, x5⟩ := ih (i + 1) (by omega)
      obtain ⟨li, ti, ci⟩ := h.2 i (by omega)
      refine ⟨pl, e', ct, rt, w, ⟨by omega, x1, x2⟩, ?_, fun n v p t hn => ?_, fun n v p t hn => ?_⟩
      · unfold tkR at x3 ⊢
        rcases x3 with y | y | y | y | y
        · exact Or.inl y
        · exact Or.inr (Or.inl ⟨y.1, y.2.1, y.2.2.1, by omega⟩)
        · exact Or.inr (Or.inr (Or.inl ⟨y.1, y.2.1, by omega⟩))
        · exact Or.inr (Or.inr (Or.inr (Or.inl ⟨y.1, y.2.1, y.2.2.1, by omega⟩)))
        · exact Or.inr (Or.inr (Or.inr (Or.inr ⟨y.1, y.2.1, y.2.2.1, y.2.2.2.1, by omega⟩)))
      · obtain ⟨n, rfl⟩ : ∃ x, n = x + 1 := ⟨n - 1, by omega⟩
        obtain ⟨v', y1, y2⟩ := x4 n v p t (by omega)
        refine ⟨v', ?_, y2⟩
        rw [← y1]
        show fX6_advance_b0_body fu _ _ _ _ _ _ _ = _
        unfold fX6_advance_b0_body
        rw [if_neg (nI_ge (by omega) (by omega)), bdS (rdN (by omega) (by decide)), li, if_pos (show nI (c i) = 32 by rw [hsp]; rfl), nI_succ]
      · obtain ⟨n, rfl⟩ : ∃ x, n = x + 1 := ⟨n - 1, by omega⟩
        obtain ⟨v', y1, y2⟩ := x5 n v p t (by omega)
        refine ⟨v', ?_, y2⟩
        rw [← y1]
        show fX9_advances_b0_body fu _ _ _ _ _ _ _ = _
        unfold fX9_advances_b0_body
        rw [bdS (let9 h (by omega)), if_pos (show nI (c i) = 32 by rw [hsp]; rfl), nI_succ]
    · exact done (m + 1) i e (Or.inr hsp)
theorem lex {fu k i : Nat} {L T : Nat → Int32} {c : Nat → Nat} (hfu : 130 ≤ fu) (h : LC k L T c) (hi : i ≤ k) : ∃ pl e ct rt w, LX fu k L i pl e ct rt w ∧ ∀ v p t, ∃ v', fX9_advances fu (nI k) T (nI i) v p t = some (nI e, v', nI pl, rt) ∧ RV rt v' w := by
  have hk := h.1
  obtain ⟨pl, e, ct, rt, w, x1, x2, x3, x4⟩ := lexS hfu h (k - i) i (by omega)
  exact ⟨pl, e, ct, rt, w, ⟨fun v p t => x3 fu v p t (by omega), x1, x2⟩, fun v p t => x4 fu v p t (by omega)⟩
