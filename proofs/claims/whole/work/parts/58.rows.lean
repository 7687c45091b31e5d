-- a promise posted, dropped; a day
theorem nI_inj {a b : Nat} (ha : a < 2 ^ 31) (hb : b < 2 ^ 31) (h : nI a = nI b) : a = b := (nI_eq ha hb).mp h
theorem pos_ne {x : Int32} (h : 0 < x) : x ≠ 0 ∧ x ≠ -1 := ⟨fun q => by rw [q] at h; exact absurd h (by decide), fun q => by rw [q] at h; exact absurd h (by decide)⟩
theorem nIp0 {a : Nat} (h : 0 < a) (ha : a < 2 ^ 31) : 0 < nI a := nI_lt (a := 0) h ha
def mt (N : Nat) (bk : Nat → Nat) (r : Nat → Int32) (a p : Nat) : Bool := mkS N (fun b => decide (0 < r (2 + 8 * b + p)) && (bk b != bk a)) != 0
def cmD (N d : Nat) (bk sl : Nat → Nat) (r : Nat → Int32) (a p : Nat) : Nat := d + sl a + (if mt N bk r a p then 1 else 0)
theorem posts9 {N P d a p : Nat} {bk kd wd sl : Nat → Nat} {t r : Nat → Int32} {fu : Nat} (hfu : 9 ≤ fu) (hT : TR N P bk kd wd sl t) (h0 : r 0 = nI d) (ha : a < N) (hp : p < 8) : fX9_posts fu t r (nI a) (nI p) = some (nI (cmD N d bk sl r a p), upd r (2 + 8 * a + p) (nI (cmD N d bk sl r a p + 1))) := by
  obtain ⟨hP1, hP8, hN⟩ := hT.1.2.2
  have A := hT.wf.2 a ha
  refine lp (N := N) (G := fun n k => fX9_posts_b6 fu t n (nI a) (nI p) (bI (mkS k (fun b => decide (0 < r (2 + 8 * b + p)) && (bk b != bk a)) != 0)) (nI k) r) ?_ ?_ N 0 fu (by omega) (by omega)
  · intro n
    show fX9_posts_b6_body fu t _ _ _ _ _ _ = _
    unfold fX9_posts_b6_body fX9_posts_b92
    rw [bdS hT.n, if_pos (nI_le (by omega) (by omega)), show (0 : Int32) = nI 0 from rfl, bdS (rdN (by omega) (by decide)), h0, bdS (hT.sl ha), nI_add]
    show (if bI (mt N bk r a p) = nI 0 then _ else _) = _
    unfold cmD
    cases mt N bk r a p
    · rw [if_pos (by decide), ix9, nI_add, ← nI_succ, bdS (wrN (by omega) (by decide))]
      rfl
    · rw [if_neg (by decide), ix9, ← nI_succ, ← nI_succ, bdS (wrN (by omega) (by decide))]
      rfl
  · intro n k hk
    right
    have K := hT.wf.2 k hk
    show fX9_posts_b6_body fu t _ _ _ _ _ _ = _
    unfold fX9_posts_b6_body
    rw [bdS hT.n, if_neg (nI_ge (by omega) (by omega)), ix9, bdS (rdN (by omega) (by decide)), nI_succ]
    by_cases e : mkS k (fun b => decide (0 < r (2 + 8 * b + p)) && (bk b != bk a)) = 0
    · rw [mkS, e, if_pos (by decide), Nat.zero_or]
      by_cases h0 : r (2 + 8 * k + p) ≤ 0
      · rw [if_pos h0]
        have : ¬ 0 < r (2 + 8 * k + p) := Int32.not_lt.mpr h0
        simp [this]; rfl
      · rw [if_neg h0, bdS (hT.bk hk), bdS (hT.bk ha)]
        have hp0 : 0 < r (2 + 8 * k + p) := Int32.not_le.mp h0
        by_cases hb : bk k = bk a
        · rw [if_pos (by rw [hb])]
          simp [hb]; rfl
        · rw [if_neg (fun q => hb (nI_inj (by omega) (by omega) q))]
          have e2 : (2 ^ k != 0) = true := by simp
          have e3 : (bk k != bk a) = true := by simp [hb]
          simp only [hp0, e3, decide_true, Bool.and_true, if_true, e2]; rfl
    · have e1 : (mkS k (fun b => decide (0 < r (2 + 8 * b + p)) && (bk b != bk a)) != 0) = true := by simp [e]
      have e2 : mkS (k + 1) (fun b => decide (0 < r (2 + 8 * b + p)) && (bk b != bk a)) ≠ 0 := by
        obtain ⟨i, h1, h2⟩ := mkS_ne0.mp e
        exact mkS_ne0.mpr ⟨i, by omega, h2⟩
      have e3 : (mkS (k + 1) (fun b => decide (0 < r (2 + 8 * b + p)) && (bk b != bk a)) != 0) = true := by simp [e2]
      rw [e1, e3, if_neg (by decide)]
      rfl
theorem us_bit (N : Nat) (r : Nat → Int32) (p a : Nat) : (us N r p).testBit a = (decide (a < N) && decide (0 < r (2 + 8 * a + p))) := mkS_bit _ _ _
theorem cs_bit (N : Nat) (r : Nat → Int32) (p a : Nat) : (cs N r p).testBit a = (decide (a < N) && decide (r (2 + 8 * a + p) = -1)) := mkS_bit _ _ _
theorem meetX {N P a p : Nat} {bk kd wd sl : Nat → Nat} {r under bank kind word slow : Nat → Int32} {planks size sworn : Int32} {fu : Nat} (hfu : 9 ≤ fu) (hW : WF N P bk kd wd sl) (hF : FR N P bk kd wd sl planks size sworn bank kind word slow) (hu : under p = nI (us N r p)) (ha : a < N) (hp : p < 8) : fX5_meetsAnother fu size under bank (nI a) (nI p) = some (bI (mt N bk r a p)) := by
  obtain ⟨hP1, hP8, hN⟩ := hW.1
  have h8 := pow8 hN
  have hul := us_lt N r p
  have key : ∀ m k n, N = k + m → m < n → (∀ b, b < k → ¬ (0 < r (2 + 8 * b + p) ∧ bk b ≠ bk a)) → fX5_meetsAnother_b3 fu size under bank n (nI a) (nI p) (nI k) = some (bI (mt N bk r a p)) := by
    intro m
    induction m with
    | zero =>
      intro k n hk hn hb
      obtain ⟨n, rfl⟩ : ∃ q, n = q + 1 := ⟨n - 1, by omega⟩
      show fX5_meetsAnother_b3_body fu size under bank _ _ _ _ = _
      unfold fX5_meetsAnother_b3_body
      rw [hF.1.2.1, if_pos (nI_le (by omega) (by omega))]
      have : mt N bk r a p = false := by
        unfold mt
        rw [bne_eq_false_iff_eq]
        apply Decidable.byContradiction
        intro q
        obtain ⟨i, h1, h2⟩ := mkS_ne0.mp q
        simp at h2
        exact hb i (by omega) h2
      rw [this]; rfl
    | succ m ih =>
      intro k n hk hn hb
      obtain ⟨n, rfl⟩ : ∃ q, n = q + 1 := ⟨n - 1, by omega⟩
      show fX5_meetsAnother_b3_body fu size under bank _ _ _ _ = _
      unfold fX5_meetsAnother_b3_body
      have hkN : k < N := by omega
      rw [hF.1.2.1, if_neg (nI_ge (by omega) (by omega)), bdS (rdN hp (by decide)), hu, bdS (has8 (by omega) (by omega)), us_bit, bdS (rdN (by omega) (by decide)), bdS (rdN (by omega) (by decide)), (hF.2 k hkN).1, (hF.2 a ha).1, ← nI_succ, ← hF.1.2.1]
      by_cases h0 : 0 < r (2 + 8 * k + p)
      · have e1 : (decide (k < N) && decide (0 < r (2 + 8 * k + p))) = true := by simp [hkN, h0]
        rw [e1, if_neg (by decide)]
        have A := hW.2 a ha
        have K := hW.2 k hkN
        by_cases hbk : bk k = bk a
        · rw [if_pos (by rw [hbk])]
          apply ih (k + 1) n (by omega) (by omega)
          intro b hbk2
          by_cases e : b = k
          · subst e; exact fun q => q.2 hbk
          · exact hb b (by omega)
        · rw [if_neg (fun q => hbk (nI_inj (by omega) (by omega) q))]
          have : mt N bk r a p = true := by
            unfold mt
            rw [bne_iff_ne]
            exact mkS_ne0.mpr ⟨k, hkN, by simp [h0, hbk]⟩
          rw [this]; rfl
      · have e1 : (decide (k < N) && decide (0 < r (2 + 8 * k + p))) = false := by simp [h0]
        rw [e1, if_pos (by decide)]
        apply ih (k + 1) n (by omega) (by omega)
        intro b hbk2
        by_cases e : b = k
        · subst e; exact fun q => h0 q.1
        · exact hb b (by omega)
  exact key N 0 fu (by omega) (by omega) (fun b hb => by omega)
theorem postX {N P d a p : Nat} {bk kd wd sl : Nat → Nat} {r under due bank kind word slow : Nat → Int32} {planks size sworn : Int32} {fu : Nat} (hfu : 9 ≤ fu) (hW : WF N P bk kd wd sl) (hF : FR N P bk kd wd sl planks size sworn bank kind word slow) (hu : under p = nI (us N r p)) (ha : a < N) (hp : p < 8) : fX5_post fu (nI d) slow size bank under due (nI a) (nI p) = some (nI (cmD N d bk sl r a p), upd under p (nI (us N r p ||| 2 ^ a)), upd due (8 * p + a) (nI (cmD N d bk sl r a p))) := by
  obtain ⟨hP1, hP8, hN⟩ := hW.1
  have e : nI p * 8 + nI a = nI (8 * p + a) := by
    rw [show nI p * (8 : Int32) = nI (p * 8) from pk_mul p 8, nI_add, Nat.mul_comm]
  unfold fX5_post fX5_post_b26
  rw [bdS (rdN (by omega) (by decide)), (hF.2 a ha).2.2.2, bdS (meetX hfu hW hF hu ha hp), nI_add]
  simp only [e, nI_shl (show a < 31 by omega)]
  rw [bdS (rdN hp (by decide)), hu, nI_or, bdS (wrN hp (by decide)), bdS (wrN (by omega) (by decide)), bdS (rdN hp (by decide)), hu, nI_or, bdS (wrN hp (by decide)), bdS (wrN (by omega) (by decide))]
  unfold cmD
  cases mt N bk r a p
  · rw [if_pos (by decide), show (0 : Int32) = nI 0 from rfl, nI_add]; rfl
  · rw [if_neg (by decide), show (1 : Int32) = nI 1 from rfl, nI_add]; rfl
theorem mkS_upd {N a : Nat} {f g : Nat → Bool} (ha : a < N) (h : ∀ i, i < N → i ≠ a → f i = g i) (hf : f a = true) : mkS N f = mkS N g ||| 2 ^ a := by
  apply Nat.eq_of_testBit_eq
  intro i
  rw [Nat.testBit_or, mkS_bit, mkS_bit, Nat.testBit_two_pow]
  by_cases e : i = a
  · subst e; simp [ha, hf]
  · have e2 : decide (a = i) = false := decide_eq_false (fun q => e q.symm)
    rw [e2, Bool.or_false]
    by_cases hi : i < N
    · rw [h i hi e]
    · simp [hi]
theorem mkS_del {N a : Nat} {f g : Nat → Bool} (hN : N ≤ 8) (h : ∀ i, i < N → i ≠ a → f i = g i) (hf : f a = false) : mkS N f = cut (mkS N g) (2 ^ a) := by
  apply Nat.eq_of_testBit_eq
  intro i
  rw [cut_bit, mkS_bit, mkS_bit, Nat.testBit_two_pow]
  by_cases e : i = a
  · subst e; simp [hf]
  · have e2 : decide (a = i) = false := decide_eq_false (fun q => e q.symm)
    rw [e2]
    by_cases hi : i < N
    · have : i < 8 := by omega
      rw [h i hi e]; simp [hi, this]
    · simp [hi]
theorem ixne {a b p q : Nat} (hp : p < 8) (hq : q < 8) (h : ¬ (a = b ∧ p = q)) : 2 + 8 * a + p ≠ 2 + 8 * b + q := by omega
theorem mul_inj8 {a b p q : Nat} (hp : a < 8) (hq : b < 8) (h : ¬ (a = b ∧ p = q)) : 8 * p + a ≠ 8 * q + b := by omega
theorem PR_post {N P d x a p e : Nat} {came under due r : Nat → Int32} (hR : PR N P d x came under due r) (hN : N ≤ 8) (hP : P ≤ 8) (hd : d < 2 ^ 30) (ha : a < N) (hp : p < P) (h0 : r (2 + 8 * a + p) = 0) (he : d < e ∧ e ≤ d + 6) : PR N P d x came (upd under p (nI (us N r p ||| 2 ^ a))) (upd due (8 * p + a) (nI e)) (upd r (2 + 8 * a + p) (nI (e + 1))) := by
  have hpos := nIp0 (a := e + 1) (by omega) (by omega)
  refine ⟨⟨by rw [upd_ne (by omega)]; exact hR.1.1, by rw [upd_ne (by omega)]; exact hR.1.2⟩, ?_, ?_⟩
  · intro q hq
    by_cases epq : q = p
    · subst epq
      rw [upd_at]
      refine ⟨?_, ?_⟩
      · rw [(hR.2.1 q hq).1]
        congr 1
        apply mkS_congr
        intro i hi
        by_cases ei : i = a
        · subst ei
          rw [upd_at, h0]
          have := (pos_ne hpos).2
          simp [this]
        · rw [upd_ne (ixne hq hq (fun z => ei z.1))]
      · congr 1
        refine (mkS_upd ha (fun i hi hia => ?_) ?_).symm
        · show decide (0 < upd r (2 + 8 * a + q) (nI (e + 1)) (2 + 8 * i + q)) = decide (0 < r (2 + 8 * i + q))
          rw [upd_ne (ixne hq hq (fun z => hia z.1))]
        · show decide (0 < upd r (2 + 8 * a + q) (nI (e + 1)) (2 + 8 * a + q)) = true
          rw [upd_at]; simp [hpos]
    · rw [upd_ne epq, (hR.2.1 q hq).1, (hR.2.1 q hq).2]
      refine ⟨?_, ?_⟩
      · congr 1
        apply mkS_congr
        intro i hi
        rw [upd_ne (ixne hq (by omega) (fun z => epq z.2))]
      · congr 1
        apply mkS_congr
        intro i hi
        rw [upd_ne (ixne hq (by omega) (fun z => epq z.2))]
  · intro b q hb hq
    by_cases eb : b = a ∧ q = p
    · obtain ⟨rfl, rfl⟩ := eb
      rw [upd_at, upd_at]
      exact ⟨Or.inr (Or.inr ⟨e, he.1, he.2, rfl, rfl⟩), fun _ => ⟨ha, hp⟩⟩
    · rw [upd_ne (ixne hq (by omega) eb), upd_ne (mul_inj8 hb (by omega) eb)]
      exact hR.2.2 b q hb hq
theorem PR_drop {N P d x a p : Nat} {came under due r : Nat → Int32} (hR : PR N P d x came under due r) (hN : N ≤ 8) (hP : P ≤ 8) (ha : a < N) (hp : p < P) : PR N P d x (upd came p (nI (cut (cs N r p) (2 ^ a)))) (upd under p (nI (cut (us N r p) (2 ^ a)))) due (upd r (2 + 8 * a + p) 0) := by
  refine ⟨⟨by rw [upd_ne (by omega)]; exact hR.1.1, by rw [upd_ne (by omega)]; exact hR.1.2⟩, ?_, ?_⟩
  · intro q hq
    by_cases epq : q = p
    · subst epq
      rw [upd_at, upd_at]
      refine ⟨?_, ?_⟩
      · congr 1
        refine (mkS_del hN (fun i hi hia => ?_) ?_).symm
        · show decide (upd r (2 + 8 * a + q) 0 (2 + 8 * i + q) = -1) = decide (r (2 + 8 * i + q) = -1)
          rw [upd_ne (ixne hq hq (fun z => hia z.1))]
        · show decide (upd r (2 + 8 * a + q) 0 (2 + 8 * a + q) = -1) = false
          rw [upd_at]; rfl
      · congr 1
        refine (mkS_del hN (fun i hi hia => ?_) ?_).symm
        · show decide (0 < upd r (2 + 8 * a + q) 0 (2 + 8 * i + q)) = decide (0 < r (2 + 8 * i + q))
          rw [upd_ne (ixne hq hq (fun z => hia z.1))]
        · show decide (0 < upd r (2 + 8 * a + q) 0 (2 + 8 * a + q)) = false
          rw [upd_at]; rfl
    · rw [upd_ne epq, upd_ne epq, (hR.2.1 q hq).1, (hR.2.1 q hq).2]
      refine ⟨?_, ?_⟩
      · congr 1
        apply mkS_congr
        intro i hi
        rw [upd_ne (ixne hq (by omega) (fun z => epq z.2))]
      · congr 1
        apply mkS_congr
        intro i hi
        rw [upd_ne (ixne hq (by omega) (fun z => epq z.2))]
  · intro b q hb hq
    by_cases eb : b = a ∧ q = p
    · obtain ⟨rfl, rfl⟩ := eb
      rw [upd_at]
      exact ⟨Or.inl rfl, fun _ => ⟨ha, hp⟩⟩
    · rw [upd_ne (ixne hq (by omega) eb)]
      exact hR.2.2 b q hb hq
theorem dropX {N a p : Nat} {came under r : Nat → Int32} {fu : Nat} (hN : N ≤ 8) (hc : came p = nI (cs N r p)) (hu : under p = nI (us N r p)) (ha : a < 8) (hp : p < 8) : fX5_drop fu came under (nI a) (nI p) = some (upd came p (nI (cut (cs N r p) (2 ^ a))), upd under p (nI (cut (us N r p) (2 ^ a)))) := by
  have h8 := pow8 hN
  have := us_lt N r p
  have := cs_lt N r p
  unfold fX5_drop
  rw [nI_shl (by omega), bdS (rdN hp (by decide)), hc, nI_cut (by omega), bdS (wrN hp (by decide)), bdS (rdN hp (by decide)), hu, nI_cut (by omega), bdS (wrN hp (by decide))]
