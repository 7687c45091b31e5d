-- items of the text
def DT (fu k : Nat) (L : Nat → Int32) (i pl e : Nat) (ct rt : Int32) (w : Nat) (v : Int32) : Prop := LX fu k L i pl e ct rt w ∧ RV rt v w
theorem nIm {w : Nat} (h : w ≤ 255) (n : Int32) (hn : n < 0) : nI w ≠ n := fun q => nI_pos (n := w) (by omega) (by rw [q]; exact hn)
theorem tk2 {ct rt : Int32} {w i e : Nat} (h : tkR ct rt w i e) : (ct = -2 ↔ rt = 2) ∧ (rt = 2 → w ≤ 99 ∧ i < e) ∧ (ct = -1 ↔ rt = 0) ∧ (ct = 59 ↔ rt = 3) ∧ (rt = 3 → i < e) ∧ (rt = 1 → ct = nI w ∧ ltB w = true ∧ w ≤ 255 ∧ i < e) ∧ (0 ≤ ct → (rt = 1 ∨ rt = 3) ∧ ct = nI w ∧ w ≤ 255) := by
  rcases h with ⟨rfl, rfl⟩ | ⟨rfl, rfl, h1, h2⟩ | ⟨rfl, rfl, h2⟩ | ⟨rfl, h1, rfl, h2⟩ | ⟨rfl, rfl, h1, h3, h2⟩
  · exact ⟨by decide, fun q => absurd q (by decide), by decide, by decide, fun q => absurd q (by decide), fun q => absurd q (by decide), fun q => absurd q (by decide)⟩
  · exact ⟨by decide, fun _ => ⟨h1, h2⟩, by decide, by decide, fun q => absurd q (by decide), fun q => absurd q (by decide), fun q => absurd q (by decide)⟩
  · exact ⟨by decide, fun q => absurd q (by decide), by decide, by decide, fun q => absurd q (by decide), fun q => absurd q (by decide), fun q => absurd q (by decide)⟩
  · subst h1
    exact ⟨by decide, fun q => absurd q (by decide), by decide, by decide, fun _ => h2, fun q => absurd q (by decide), fun _ => ⟨Or.inr rfl, rfl, by omega⟩⟩
  · have h59 : nI w ≠ 59 := fun q => by
      have : w = 59 := (nI_eq (b := 59) (by omega) (by omega)).mp q
      rw [this] at h1
      exact absurd h1 (by decide)
    exact ⟨⟨fun q => absurd q (nIm h3 _ (by decide)), fun q => absurd q (by decide)⟩, fun q => absurd q (by decide), ⟨fun q => absurd q (nIm h3 _ (by decide)), fun q => absurd q (by decide)⟩, ⟨fun q => absurd q h59, fun q => absurd q (by decide)⟩, fun q => absurd q (by decide), fun _ => ⟨rfl, h1, h3, h2⟩, fun _ => ⟨Or.inl rfl, rfl, h3⟩⟩
theorem takeF {fu f : Nat} {ty p v a t b : Int32} {T : Nat → Int32} (hf : f < 2 ^ 31) : fX9_takes fu ty T (nI f) p v a t b = some (0, nI f, p, v, a, t) := by
  unfold fX9_takes fX9_isWell
  rw [if_pos (nI_pos' hf)]
  rfl
theorem take0 {fu : Nat} {ty p v a t : Int32} {T : Nat → Int32} : fX9_takes fu ty T (-1) p v a t 0 = some (0, p, p, v, a, t) := rfl
theorem take1 {fu k e : Nat} {L T : Nat → Int32} {c : Nat → Nat} {p v t : Int32} (hfu : 130 ≤ fu) (h : LC k L T c) (he : e ≤ k) : ∃ pl' e' ct' rt' w' v', DT fu k L e pl' e' ct' rt' w' v' ∧ fX9_takes fu (nI k) T (-1) p v (nI e) t 1 = some (v, -1, nI pl', v', nI e', rt') := by
  obtain ⟨pl', e', ct', rt', w', h1, h2⟩ := lex hfu h he
  obtain ⟨v', h3, h4⟩ := h2 v p t
  refine ⟨pl', e', ct', rt', w', v', ⟨h1, h4⟩, ?_⟩
  have : fX9_takes fu (nI k) T (-1) p v (nI e) t 1 = (fX9_advances fu (nI k) T (nI e) v p t).bind fun (g5, g6, g7, g8) => some (v, (-1 : Int32), g7, g6, g5, g8) := rfl
  rw [this, h3]
  rfl
theorem numF {fu f : Nat} {ty p v a t lo hi : Int32} {T : Nat → Int32} (hf : f < 2 ^ 31) : fX9_number fu ty T t v (nI f) p a lo hi = some (0, t, v, nI f, p, a) := by
  unfold fX9_number fX9_number_b26
  rw [takeF hf, takeF hf]
  rcases rng (fu := fu) (x := v) (lo := lo) (hi := hi) with ⟨h1, -, -⟩ | ⟨h1, -, -⟩
  · rw [bdS h1]
    split <;> rfl
  · rw [bdS h1]
    split <;> rfl
theorem num0 {fu w : Nat} {ty p v a t lo hi : Int32} {T : Nat → Int32} (hv : t = 2 → v = nI w) (h : t ≠ 2 ∨ nI w < lo ∨ hi < nI w) : fX9_number fu ty T t v (-1) p a lo hi = some (0, t, v, p, p, a) := by
  unfold fX9_number fX9_number_b26
  by_cases h2 : t = 2
  · rw [if_pos h2, hv h2]
    rcases rng (fu := fu) (x := nI w) (lo := lo) (hi := hi) with ⟨h1, -, -⟩ | ⟨h1, -, h3, h4⟩
    · rw [bdS h1]; rfl
    · rcases h with q | q | q
      · exact absurd h2 q
      · exact absurd q h3
      · exact absurd q h4
  · rw [if_neg h2]; rfl
theorem num1 {fu k e w : Nat} {L T : Nat → Int32} {c : Nat → Nat} {p v t lo hi : Int32} (hfu : 130 ≤ fu) (h : LC k L T c) (he : e ≤ k) (ht : t = 2) (hv : v = nI w) (h1 : ¬ nI w < lo) (h2 : ¬ hi < nI w) : ∃ pl' e' ct' rt' w' v', DT fu k L e pl' e' ct' rt' w' v' ∧ fX9_number fu (nI k) T t v (-1) p (nI e) lo hi = some (nI w, rt', v', -1, nI pl', nI e') := by
  obtain ⟨pl', e', ct', rt', w', v', h3, h4⟩ := take1 (p := p) (v := v) (t := t) hfu h he
  refine ⟨pl', e', ct', rt', w', v', h3, ?_⟩
  unfold fX9_number fX9_number_b26
  rw [if_pos ht]
  rcases rng (fu := fu) (x := v) (lo := lo) (hi := hi) with ⟨-, -, h5⟩ | ⟨h5, -, -⟩
  · rw [hv] at h5
    rcases h5 with q | q
    · exact absurd q h1
    · exact absurd q h2
  · rw [bdS h5, if10, h4, hv]
    rfl
theorem cnum0 {fu k i pl e w : Nat} {L : Nat → Int32} {ct rt lo hi : Int32} (hL : LX fu k L i pl e ct rt w) (h : rt ≠ 2 ∨ nI w < lo ∨ hi < nI w) (v p t : Int32) : ∃ v', fX6_readNumber fu (nI k) L (nI i) v p t lo hi = some (0, nI e, v', nI pl, ct) := by
  obtain ⟨v', h1, h2⟩ := hL.1 v p t
  obtain ⟨k1, -⟩ := tk2 hL.2.2
  refine ⟨v', ?_⟩
  unfold fX6_readNumber
  rw [h1]
  show (if ct = -2 then _ else _) = _
  by_cases h3 : ct = -2
  · rw [if_pos h3, h2 h3]
    rcases rng (fu := fu) (x := nI w) (lo := lo) (hi := hi) with ⟨-, h4, -⟩ | ⟨-, -, h4, h5⟩
    · rw [bdS h4]; rfl
    · rcases h with q | q | q
      · exact absurd (k1.mp h3) q
      · exact absurd q h4
      · exact absurd q h5
  · rw [if_neg h3]
theorem cnum1 {fu k i pl e w : Nat} {L : Nat → Int32} {ct rt lo hi : Int32} (hL : LX fu k L i pl e ct rt w) (h0 : rt = 2) (h3 : ¬ nI w < lo) (h4 : ¬ hi < nI w) (v p t : Int32) : fX6_readNumber fu (nI k) L (nI i) v p t lo hi = some (1, nI e, nI w, nI pl, ct) := by
  obtain ⟨v', h1, h2⟩ := hL.1 v p t
  have k1 := (tk2 hL.2.2).1.mpr h0
  unfold fX6_readNumber
  rw [h1]
  show (if ct = -2 then _ else _) = _
  rw [if_pos k1, h2 k1]
  rcases rng (fu := fu) (x := nI w) (lo := lo) (hi := hi) with ⟨-, -, h5⟩ | ⟨-, h5, -⟩
  · rcases h5 with q | q
    · exact absurd q h3
    · exact absurd q h4
  · rw [bdS h5]; rfl
theorem cend {fu k i pl e w : Nat} {L : Nat → Int32} {ct rt : Int32} (hL : LX fu k L i pl e ct rt w) (v p t : Int32) : ∃ v', fX6_readEnd fu (nI k) L (nI i) v p t = some (if rt = 3 then 1 else 0, nI e, v', nI pl, ct) := by
  obtain ⟨v', h1, h2⟩ := hL.1 v p t
  have k1 := (tk2 hL.2.2).2.2.2.1
  refine ⟨v', ?_⟩
  unfold fX6_readEnd
  rw [h1]
  show (if ct = 59 then _ else _) = _
  by_cases h : rt = 3
  · rw [if_pos h, if_pos (k1.mpr h)]
  · rw [if_neg h, if_neg (fun q => h (k1.mp q))]
def DR (N P : Nat) (bk kd wd sl : Nat → Nat) (dr dn : Nat → Int32) (planks size sworn : Int32) (bank kind word slow tc : Nat → Int32) : Prop := TR N P bk kd wd sl dr ∧ FR N P bk kd wd sl planks size sworn bank kind word slow ∧ PR N P 0 0 tc (fun _ => 0) (fun _ => 0) dn
theorem DR.e {N P : Nat} {bk kd wd sl : Nat → Nat} {dr dn : Nat → Int32} {planks size sworn : Int32} {bank kind word slow tc : Nat → Int32} (h : DR N P bk kd wd sl dr dn planks size sworn bank kind word slow tc) {a p : Nat} (ha : a < 8) (hp : p < 8) : dn (2 + 8 * a + p) = 0 ∨ dn (2 + 8 * a + p) = -1 := by
  rcases (h.2.2.2.2 a p ha hp).1 with q | q | ⟨e, q1, q2, q3, q4⟩
  · exact Or.inl q
  · exact Or.inr q
  · exact absurd q4.symm (nI_ne0 (by omega) (by omega))
theorem PR_0 {N P : Nat} {tc due dn : Nat → Int32} (h : ∀ p, p < 8 → tc p = nI (cs N dn p)) (h0 : dn 0 = 0 ∧ dn 1 = 0) (he : ∀ a p, a < 8 → p < 8 → dn (2 + 8 * a + p) = 0 ∨ dn (2 + 8 * a + p) = -1 ∧ a < N ∧ p < P) (hN : N ≤ 8) : PR N P 0 0 tc (fun _ => 0) due dn := by
  refine ⟨⟨h0.1, h0.2⟩, fun p hp => ⟨h p hp, ?_⟩, fun a p ha hp => ⟨?_, fun q => ?_⟩⟩
  · have : us N dn p = 0 := by
      refine Decidable.byContradiction (fun q => ?_)
      obtain ⟨i, hi, h2⟩ := mkS_ne0.mp q
      have h3 := of_decide_eq_true h2
      rcases he i p (by omega) hp with z | z
      · rw [z] at h3; exact absurd h3 (by decide)
      · rw [z.1] at h3; exact absurd h3 (by decide)
    rw [this]; rfl
  · rcases he a p ha hp with z | z
    · exact Or.inl z
    · exact Or.inr (Or.inl z.1)
  · rcases he a p ha hp with z | z
    · exact absurd z q
    · exact z.2
theorem DR.e2 {N P : Nat} {bk kd wd sl : Nat → Nat} {dr dn : Nat → Int32} {planks size sworn : Int32} {bank kind word slow tc : Nat → Int32} (h : DR N P bk kd wd sl dr dn planks size sworn bank kind word slow tc) : ∀ a p, a < 8 → p < 8 → dn (2 + 8 * a + p) = 0 ∨ dn (2 + 8 * a + p) = -1 ∧ a < N ∧ p < P := fun a p ha hp => by
  rcases h.e ha hp with q | q
  · exact Or.inl q
  · exact Or.inr ⟨q, (h.2.2.2.2 a p ha hp).2 (by rw [q]; decide)⟩
theorem DR_join {N P b κ u s : Nat} {bk kd wd sl : Nat → Nat} {dr dn : Nat → Int32} {planks size sworn sw' : Int32} {bank kind word slow tc : Nat → Int32} (h : DR N P bk kd wd sl dr dn planks size sworn bank kind word slow tc) (hN : N < 8) (hb : b ≤ 1) (hκ : 1 ≤ κ ∧ κ ≤ 5) (hu : 1 ≤ u ∧ u ≤ 9) (hs : 1 ≤ s ∧ s ≤ 5) (hsw : sw' = if κ = 3 then sworn ||| nI (2 ^ N) else sworn) : DR (N + 1) P (up bk N b) (up kd N κ) (up wd N u) (up sl N s) (upd (upd (upd (upd (upd dr (2 + N) (nI b)) (10 + N) (nI κ)) (18 + N) (nI u)) (26 + N) (nI s)) 1 (nI (N + 1))) dn planks (nI (N + 1)) sw' (upd bank N (nI b)) (upd kind N (nI κ)) (upd word N (nI u)) (upd slow N (nI s)) tc := by
  obtain ⟨hT, hF, hR⟩ := id h
  refine ⟨⟨⟨?_, ?_, hT.1.2.2.1, hT.1.2.2.2.1, by omega⟩, fun a ha => ?_⟩, ⟨⟨hF.1.1, rfl, ?_⟩, fun a ha => ?_⟩, ?_⟩
  · rw [upd_ne (by omega), upd_ne (by omega), upd_ne (by omega), upd_ne (by omega), upd_ne (by omega)]; exact hT.1.1
  · rw [upd_at]
  · by_cases e : a = N
    · subst e
      refine ⟨⟨?_, ?_, ?_, ?_⟩, ?_⟩
      · rw [upd_ne (by omega), upd_ne (by omega), upd_ne (by omega), upd_ne (by omega), upd_at, up_at]
      · rw [upd_ne (by omega), upd_ne (by omega), upd_ne (by omega), upd_at, up_at]
      · rw [upd_ne (by omega), upd_ne (by omega), upd_at, up_at]
      · rw [upd_ne (by omega), upd_at, up_at]
      · rw [up_at, up_at, up_at, up_at]; exact ⟨hb, hκ, hu, hs⟩
    · obtain ⟨⟨h1, h2, h3, h4⟩, h5⟩ := hT.2 a (by omega)
      refine ⟨⟨?_, ?_, ?_, ?_⟩, ?_⟩
      · rw [upd_ne (by omega), upd_ne (by omega), upd_ne (by omega), upd_ne (by omega), upd_ne (by omega), up_ne e]; exact h1
      · rw [upd_ne (by omega), upd_ne (by omega), upd_ne (by omega), upd_ne (by omega), upd_ne (by omega), up_ne e]; exact h2
      · rw [upd_ne (by omega), upd_ne (by omega), upd_ne (by omega), upd_ne (by omega), upd_ne (by omega), up_ne e]; exact h3
      · rw [upd_ne (by omega), upd_ne (by omega), upd_ne (by omega), upd_ne (by omega), upd_ne (by omega), up_ne e]; exact h4
      · rw [up_ne e, up_ne e, up_ne e, up_ne e]; exact h5
  · rw [hsw, mkS_succ, up_at, mkS_congr (Q := fun a => kd a == 3) (fun i hi => by rw [up_ne (by omega)]), hF.1.2.2]
    by_cases e : κ = 3
    · rw [if_pos e, nI_or, if_pos (by rw [e]; rfl)]
    · rw [if_neg e, if_neg (by simpa using e), Nat.or_zero]
  · by_cases e : a = N
    · subst e
      rw [upd_at, upd_at, upd_at, upd_at, up_at, up_at, up_at, up_at]
      exact ⟨rfl, rfl, rfl, rfl⟩
    · rw [upd_ne e, upd_ne e, upd_ne e, upd_ne e, up_ne e, up_ne e, up_ne e, up_ne e]
      exact hF.2 a (by omega)
  · refine PR_0 (fun p hp => ?_) hR.1 (fun a p ha hp => ?_) (by omega)
    · rw [(hR.2.1 p hp).1]
      congr 1
      refine (mkS_ext (by omega) (fun i h1 h2 => ?_)).symm
      rw [show i = N by omega]
      rcases h.e2 N p (by omega) hp with q | q
      · rw [q]; decide
      · omega
    · rcases h.e2 a p ha hp with q | q
      · exact Or.inl q
      · exact Or.inr ⟨q.1, by omega, q.2.2⟩
theorem numAt {w lo hi : Nat} (hw : w < 2 ^ 31) (hh : lo < 2 ^ 31) (h1 : ¬ nI w < nI lo) (h2 : ¬ nI hi < nI w) : lo ≤ w ∧ w ≤ hi := ⟨Nat.le_of_not_lt (fun z => h1 (nI_lt z (by omega))), Nat.le_of_not_lt (fun z => h2 (nI_lt z hw))⟩
-- a person
theorem pers {fu k N b e pl1 e1 w1 : Nat} {L T : Nat → Int32} {c : Nat → Nat} {ct1 rt1 v1 size sworn : Int32} {dr dn bank kind word slow : Nat → Int32} (hfu : 130 ≤ fu) (h : LC k L T c) (hN : N < 8) (hb : b ≤ 1) (hsz : size = nI N) (hd1 : dr 1 = nI N) (hD : DT fu k L e pl1 e1 ct1 rt1 w1 v1) : (∃ f tk v p a dr', f ≤ k ∧ (∀ cv cp t0, ∃ at' v' t', fX6_readPerson fu (nI k) L size (nI e) cv cp t0 bank kind word slow sworn (nI b) = some (0, size, at', v', nI f, t', bank, kind, word, slow, sworn)) ∧ fX9_readsItem_b155 fu (nI k) T (nI N) (nI b) (2 + nI N) rt1 v1 (-1) (nI pl1) (nI e1) dr dn = some (tk, v, nI f, p, a, dr', dn)) ∨ (∃ e3 κ u s pl4 e4 ct4 rt4 w4 v4, (e < e3 ∧ e3 ≤ k) ∧ (1 ≤ κ ∧ κ ≤ 5) ∧ (1 ≤ u ∧ u ≤ 9) ∧ (1 ≤ s ∧ s ≤ 5) ∧ DT fu k L e3 pl4 e4 ct4 rt4 w4 v4 ∧ (∀ cv cp t0, ∃ p' t', fX6_readPerson fu (nI k) L size (nI e) cv cp t0 bank kind word slow sworn (nI b) = some (1, nI (N + 1), nI e3, nI s, p', t', upd bank N (nI b), upd kind N (nI κ), upd word N (nI u), upd slow N (nI s), if κ = 3 then sworn ||| nI (2 ^ N) else sworn)) ∧ fX9_readsItem_b155 fu (nI k) T (nI N) (nI b) (2 + nI N) rt1 v1 (-1) (nI pl1) (nI e1) dr dn = some (rt4, v4, -1, nI pl4, nI e4, upd (upd (upd (upd (upd dr (2 + N) (nI b)) (10 + N) (nI κ)) (18 + N) (nI u)) (26 + N) (nI s)) 1 (nI (N + 1)), dn)) := by
  have hk := h.1
  obtain ⟨hX, hV⟩ := id hD
  obtain ⟨hX1, ⟨hX2, hX3, hX4⟩, hX5⟩ := id hX
  obtain ⟨t1, t2, t3, t4, t5, t6, t7⟩ := tk2 hX5
  have hkle := kN_le w1
  -- class: the kind
  have cls : ∀ cv cp t0, ∃ v', fX6_readPerson fu (nI k) L size (nI e) cv cp t0 bank kind word slow sworn (nI b) = fX6_readPerson_b41 fu (nI k) L (nI b) (nI (if rt1 = 1 then kN w1 else 0)) size (nI e1) v' (nI pl1) ct1 bank kind word slow sworn := fun cv cp t0 => by
    obtain ⟨v', g1, -⟩ := hX1 cv cp t0
    refine ⟨v', ?_⟩
    unfold fX6_readPerson
    rw [if_pos (show size < 8 by rw [hsz]; exact nI_lt (b := 8) hN (by omega)), g1]
    show (if 0 ≤ ct1 then _ else _) = _
    by_cases q : 0 ≤ ct1
    · obtain ⟨z1, z2, z3⟩ := t7 q
      rw [if_pos q, z2, ix1 w1 (by omega)]
      by_cases z : rt1 = 1
      · rw [if_pos z]
      · rw [if_neg z]
        have h59 : rt1 = 3 := by rcases z1 with y | y; exact absurd y z; exact y
        have : w1 = 59 := by
          have := t4.mpr h59
          rw [z2] at this
          exact (nI_eq (b := 59) (by omega) (by omega)).mp this
        rw [this]; rfl
    · have z : rt1 ≠ 1 := fun z => by
        obtain ⟨y1, y2, y3, y4⟩ := t6 z
        exact q (by rw [y1]; exact nI_pos' (by omega))
      rw [if_neg q, if_neg z]
      rfl
  -- reference: the kind
  have e2 : (2 : Int32) + nI N = nI (2 + N) := nI_add 2 N
  have e10 : (10 : Int32) + nI N = nI (10 + N) := nI_add 10 N
  have e18 : (18 : Int32) + nI N = nI (18 + N) := nI_add 18 N
  have e26 : (26 : Int32) + nI N = nI (26 + N) := nI_add 26 N
  have ref : fX9_readsItem_b155 fu (nI k) T (nI N) (nI b) (2 + nI N) rt1 v1 (-1) (nI pl1) (nI e1) dr dn = fX9_readsItem_b188 fu (nI k) T (nI N) (if 0 < (if rt1 = 1 then kN w1 else 0) then 1 else 0) (10 + nI N) rt1 v1 (-1) (nI pl1) (nI e1) (upd dr (2 + N) (nI b)) dn := by
    unfold fX9_readsItem_b155
    rw [e2, bdS (wrN (by omega) (by decide))]
    by_cases z : rt1 = 1
    · obtain ⟨y1, y2, y3, y4⟩ := t6 z
      have hv : v1 = nI w1 := hV (by rw [z]; decide) (by rw [z]; decide)
      rw [if_pos z, if_pos z, hv, bdS (kindOf9 (by omega))]
      by_cases z2 : kN w1 = 0
      · rw [if_pos ((le0 (by omega)).mpr z2), if_neg (by omega)]
      · rw [if_neg (nI_nle (by omega) (by omega)), if_pos (by omega)]
    · rw [if_neg z, if_neg z, if_neg (by omega)]
  rw [ref]
  by_cases hgood : rt1 = 1 ∧ 0 < kN w1
  · obtain ⟨hg1, hg2⟩ := hgood
    obtain ⟨y1, y2, y3, y4⟩ := t6 hg1
    have hv : v1 = nI w1 := hV (by rw [hg1]; decide) (by rw [hg1]; decide)
    rw [if_pos hg1, if_pos hg2]
    simp only [if_pos hg1] at cls
    obtain ⟨pl2, e2', ct2, rt2, w2, v2, hD2, hk2⟩ := take1 (p := nI pl1) (v := v1) (t := rt1) hfu h hX4
    have a1 : fX9_readsItem_b188 fu (nI k) T (nI N) 1 (10 + nI N) rt1 v1 (-1) (nI pl1) (nI e1) (upd dr (2 + N) (nI b)) dn = ((fX9_number fu (nI k) T rt2 v2 (-1) (nI pl2) (nI e2') 1 9).bind fun (v15, g16, g17, g18, g19, g20) => (wr 34 (upd (upd dr (2 + N) (nI b)) (10 + N) (nI (kN w1))) (18 + nI N) v15).bind fun g21 => (fX9_number fu (nI k) T g16 g17 g18 g19 g20 1 5).bind fun (v22, g23, g24, g25, g26, g27) => (wr 34 g21 (26 + nI N) v22).bind fun g28 => (rd 34 g28 1).bind fun v29 => (wr 34 g28 1 (v29 + 1)).bind fun g30 => some (g23, g24, g25, g26, g27, g30, dn)) := by
      unfold fX9_readsItem_b188
      rw [hk2]
      show ((fX9_kindOf fu v1).bind _) = _
      rw [hv, bdS (kindOf9 (by omega)), e10, bdS (wrN (by omega) (by decide))]
    rw [a1]
    obtain ⟨hX2', hV2⟩ := id hD2
    obtain ⟨-, ⟨q1, q2, q3⟩, q5⟩ := id hX2'
    obtain ⟨s1, s2, -⟩ := tk2 q5
    have b41 : ∀ v', fX6_readPerson_b41 fu (nI k) L (nI b) (nI (kN w1)) size (nI e1) v' (nI pl1) ct1 bank kind word slow sworn = ((fX6_readNumber fu (nI k) L (nI e1) v' (nI pl1) ct1 1 9).bind fun (v9, g10, g11, g12, g13) => (if v9 = 0 then some ((0 : Int32), size, g10, g11, g12, g13, bank, kind, word, slow, sworn) else (fX6_readNumber fu (nI k) L g10 g11 g12 g13 1 5).bind fun (v15, g16, g17, g18, g19) => (if v15 = 0 then some ((0 : Int32), size, g16, g17, g18, g19, bank, kind, word, slow, sworn) else (fX0_join fu size bank kind word slow sworn (nI b) (nI (kN w1)) g11 g17).bind fun (g22, g23, g24, g25, g26, g27) => some ((1 : Int32), g22, g16, g17, g18, g19, g23, g24, g25, g26, g27)))) := fun v' => by
      unfold fX6_readPerson_b41
      rw [if_neg (nI_ne0 hg2 (by omega))]
    by_cases hn1 : rt2 ≠ 2 ∨ nI w2 < 1 ∨ 9 < nI w2
    · left
      have r1 := num0 (fu := fu) (ty := nI k) (T := T) (p := nI pl2) (a := nI e2') (w := w2) (v := v2) (lo := 1) (hi := 9) (fun z => hV2 (by rw [z]; decide) (by rw [z]; decide)) hn1
      refine ⟨pl2, rt2, v2, nI pl2, nI e2', upd (upd (upd (upd (upd dr (2 + N) (nI b)) (10 + N) (nI (kN w1))) (18 + N) 0) (26 + N) 0) 1 (nI (N + 1)), by omega, fun cv cp t0 => ?_, ?_⟩
      · obtain ⟨v', g1⟩ := cls cv cp t0
        obtain ⟨v'', g2⟩ := cnum0 hX2' hn1 v' (nI pl1) ct1
        refine ⟨nI e2', v'', ct2, ?_⟩
        rw [g1, b41, g2]
        rfl
      · rw [r1]
        show ((wr 34 _ (18 + nI N) 0).bind _) = _
        rw [e18, bdS (wrN (by omega) (by decide)), numF (by omega)]
        show ((wr 34 _ (26 + nI N) 0).bind _) = _
        rw [e26, bdS (wrN (by omega) (by decide)), bdS (show rd 34 _ 1 = some _ from rdN (j := 1) (by omega) (by decide)), upd_ne (by omega), upd_ne (by omega), upd_ne (by omega), upd_ne (by omega), hd1, bdS (show wr 34 _ 1 _ = some _ from wrN (j := 1) (by omega) (by decide)), ← nI_succ]
    · have z1 : rt2 = 2 := Decidable.byContradiction (fun z => hn1 (Or.inl z))
      have z2 : ¬ nI w2 < 1 := fun z => hn1 (Or.inr (Or.inl z))
      have z3 : ¬ 9 < nI w2 := fun z => hn1 (Or.inr (Or.inr z))
      obtain ⟨w99, hlt2⟩ := s2 z1
      have hu := numAt (w := w2) (lo := 1) (hi := 9) (by omega) (by omega) z2 z3
      have hv2 : v2 = nI w2 := hV2 (by rw [z1]; decide) (by rw [z1]; decide)
      obtain ⟨pl3, e3', ct3, rt3, w3, v3, hD3, r2⟩ := num1 (p := nI pl2) (lo := 1) (hi := 9) hfu h q3 z1 hv2 z2 z3
      obtain ⟨hX3', hV3⟩ := id hD3
      obtain ⟨-, ⟨q1', q2', q3'⟩, q5'⟩ := id hX3'
      obtain ⟨s1', s2', -⟩ := tk2 q5'
      rw [r2]
      have a2 : ((some (nI w2, rt3, v3, (-1 : Int32), nI pl3, nI e3') : Option (Int32 × Int32 × Int32 × Int32 × Int32 × Int32)).bind fun (v15, g16, g17, g18, g19, g20) => (wr 34 (upd (upd dr (2 + N) (nI b)) (10 + N) (nI (kN w1))) (18 + nI N) v15).bind fun g21 => (fX9_number fu (nI k) T g16 g17 g18 g19 g20 1 5).bind fun (v22, g23, g24, g25, g26, g27) => (wr 34 g21 (26 + nI N) v22).bind fun g28 => (rd 34 g28 1).bind fun v29 => (wr 34 g28 1 (v29 + 1)).bind fun g30 => some (g23, g24, g25, g26, g27, g30, dn)) = ((fX9_number fu (nI k) T rt3 v3 (-1) (nI pl3) (nI e3') 1 5).bind fun (v22, g23, g24, g25, g26, g27) => (wr 34 (upd (upd (upd dr (2 + N) (nI b)) (10 + N) (nI (kN w1))) (18 + N) (nI w2)) (26 + nI N) v22).bind fun g28 => (rd 34 g28 1).bind fun v29 => (wr 34 g28 1 (v29 + 1)).bind fun g30 => some (g23, g24, g25, g26, g27, g30, dn)) := by
        show ((wr 34 _ (18 + nI N) (nI w2)).bind _) = _
        rw [e18, bdS (wrN (by omega) (by decide))]
      rw [a2]
      by_cases hn2 : rt3 ≠ 2 ∨ nI w3 < 1 ∨ 5 < nI w3
      · left
        have r1 := num0 (fu := fu) (ty := nI k) (T := T) (p := nI pl3) (a := nI e3') (w := w3) (v := v3) (lo := 1) (hi := 5) (fun z => hV3 (by rw [z]; decide) (by rw [z]; decide)) hn2
        refine ⟨pl3, rt3, v3, nI pl3, nI e3', upd (upd (upd (upd (upd dr (2 + N) (nI b)) (10 + N) (nI (kN w1))) (18 + N) (nI w2)) (26 + N) 0) 1 (nI (N + 1)), by omega, fun cv cp t0 => ?_, ?_⟩
        · obtain ⟨v', g1⟩ := cls cv cp t0
          obtain ⟨v'', g2⟩ := cnum0 hX3' hn2 (nI w2) (nI pl2) ct2
          refine ⟨nI e3', v'', ct3, ?_⟩
          rw [g1, b41, cnum1 hX2' z1 z2 z3]
          show (if (1 : Int32) = 0 then some ((0 : Int32), size, nI e2', nI w2, nI pl2, ct2, bank, kind, word, slow, sworn) else _) = _
          rw [if10, g2]
          rfl
        · rw [r1]
          show ((wr 34 _ (26 + nI N) 0).bind _) = _
          rw [e26, bdS (wrN (by omega) (by decide)), bdS (show rd 34 _ 1 = some _ from rdN (j := 1) (by omega) (by decide)), upd_ne (by omega), upd_ne (by omega), upd_ne (by omega), upd_ne (by omega), hd1, bdS (show wr 34 _ 1 _ = some _ from wrN (j := 1) (by omega) (by decide)), ← nI_succ]
      · right
        have y1' : rt3 = 2 := Decidable.byContradiction (fun z => hn2 (Or.inl z))
        have y2' : ¬ nI w3 < 1 := fun z => hn2 (Or.inr (Or.inl z))
        have y3' : ¬ 5 < nI w3 := fun z => hn2 (Or.inr (Or.inr z))
        obtain ⟨w99', hlt3⟩ := s2' y1'
        have hs := numAt (w := w3) (lo := 1) (hi := 5) (by omega) (by omega) y2' y3'
        have hv3 : v3 = nI w3 := hV3 (by rw [y1']; decide) (by rw [y1']; decide)
        obtain ⟨pl4, e4, ct4, rt4, w4, v4, hD4, r4⟩ := num1 (p := nI pl3) (lo := 1) (hi := 5) hfu h q3' y1' hv3 y2' y3'
        refine ⟨e3', kN w1, w2, w3, pl4, e4, ct4, rt4, w4, v4, ⟨by omega, q3'⟩, ⟨by omega, hkle⟩, hu, hs, hD4, fun cv cp t0 => ?_, ?_⟩
        · obtain ⟨v', g1⟩ := cls cv cp t0
          refine ⟨nI pl3, ct3, ?_⟩
          rw [g1, b41, cnum1 hX2' z1 z2 z3]
          show (if (1 : Int32) = 0 then some ((0 : Int32), size, nI e2', nI w2, nI pl2, ct2, bank, kind, word, slow, sworn) else _) = _
          rw [if10, cnum1 hX3' y1' y2' y3']
          have ej : fX0_join fu size bank kind word slow sworn (nI b) (nI (kN w1)) (nI w2) (nI w3) = some (nI (N + 1), upd bank N (nI b), upd kind N (nI (kN w1)), upd word N (nI w2), upd slow N (nI w3), if kN w1 = 3 then sworn ||| nI (2 ^ N) else sworn) := by
            unfold fX0_join fX0_join_b71
            rw [hsz, if_pos (show nI N < 8 from nI_lt (b := 8) hN (by omega)), bdS (wrN hN (by decide)), bdS (wrN hN (by decide)), bdS (wrN hN (by decide)), bdS (wrN hN (by decide)), nI_shl (by omega), ← nI_succ]
            by_cases z : kN w1 = 3
            · rw [if_pos z, if_pos (show nI (kN w1) = 3 by rw [z]; rfl)]
            · rw [if_neg z, if_neg (show ¬ nI (kN w1) = 3 from fun y => z ((nI_eq (b := 3) (by omega) (by omega)).mp y))]
          show ((fX0_join fu size bank kind word slow sworn (nI b) (nI (kN w1)) (nI w2) (nI w3)).bind _) = _
          rw [ej]
          rfl
        · rw [r4]
          show ((wr 34 _ (26 + nI N) (nI w3)).bind _) = _
          rw [e26, bdS (wrN (by omega) (by decide)), bdS (show rd 34 _ 1 = some _ from rdN (j := 1) (by omega) (by decide)), upd_ne (by omega), upd_ne (by omega), upd_ne (by omega), upd_ne (by omega), hd1, bdS (show wr 34 _ 1 _ = some _ from wrN (j := 1) (by omega) (by decide)), ← nI_succ]
  · left
    have hz : (if rt1 = 1 then kN w1 else 0) = 0 := by
      by_cases z : rt1 = 1
      · rw [if_pos z]; exact Nat.eq_zero_of_not_pos (fun y => hgood ⟨z, y⟩)
      · rw [if_neg z]
    rw [hz, if_neg (by omega)]
    refine ⟨pl1, rt1, v1, nI pl1, nI e1, upd (upd (upd (upd (upd dr (2 + N) (nI b)) (10 + N) 0) (18 + N) 0) (26 + N) 0) 1 (nI (N + 1)), by omega, fun cv cp t0 => ?_, ?_⟩
    · obtain ⟨v', g1⟩ := cls cv cp t0
      refine ⟨nI e1, v', ct1, ?_⟩
      rw [g1, hz]
      rfl
    · unfold fX9_readsItem_b188
      rw [bdS take0]
      show ((fX9_kindOf fu 0).bind _) = _
      rw [bdS (show fX9_kindOf fu 0 = some 0 from rfl), e10, bdS (wrN (by omega) (by decide)), numF (by omega)]
      show ((wr 34 _ (18 + nI N) 0).bind _) = _
      rw [e18, bdS (wrN (by omega) (by decide)), numF (by omega)]
      show ((wr 34 _ (26 + nI N) 0).bind _) = _
      rw [e26, bdS (wrN (by omega) (by decide)), bdS (show rd 34 _ 1 = some _ from rdN (j := 1) (by omega) (by decide)), upd_ne (by omega), upd_ne (by omega), upd_ne (by omega), upd_ne (by omega), hd1, bdS (show wr 34 _ 1 _ = some _ from wrN (j := 1) (by omega) (by decide)), ← nI_succ]
