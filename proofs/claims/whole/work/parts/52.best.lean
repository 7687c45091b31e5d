-- the class: what one holds, what a plank bears
def WF (N P : Nat) (bk kd wd sl : Nat → Nat) : Prop := (1 ≤ P ∧ P ≤ 8 ∧ N ≤ 8) ∧ ∀ a, a < N → bk a ≤ 1 ∧ (1 ≤ kd a ∧ kd a ≤ 5) ∧ (1 ≤ wd a ∧ wd a ≤ 9) ∧ 1 ≤ sl a ∧ sl a ≤ 5
theorem TR.wf {N P : Nat} {bk kd wd sl : Nat → Nat} {t : Nat → Int32} (h : TR N P bk kd wd sl t) : WF N P bk kd wd sl := ⟨h.1.2.2, fun a ha => (h.2 a ha).2⟩
def FR (N P : Nat) (bk kd wd sl : Nat → Nat) (planks size sworn : Int32) (bank kind word slow : Nat → Int32) : Prop := (planks = nI P ∧ size = nI N ∧ sworn = nI (mkS N (fun a => kd a == 3))) ∧ ∀ a, a < N → bank a = nI (bk a) ∧ kind a = nI (kd a) ∧ word a = nI (wd a) ∧ slow a = nI (sl a)
theorem holdX {N : Nat} {kd : Nat → Nat} {kind : Nat → Int32} {sworn : Int32} {fu c a p w : Nat} (hN : N ≤ 8) (hk : kind a = nI (kd a)) (hk5 : kd a ≤ 5) (hs : sworn = nI (mkS N (fun a => kd a == 3))) (ha : a < N) (hc : c < 2 ^ 31) (hp : p < 2 ^ 31) (hw : w ≤ 9) : fX0_holdBy fu kind sworn (nI a) (nI w) (nI p) (nI c) = some (nI (hdW N kd a w p c)) := by
  unfold fX0_holdBy
  rw [bdS (rdN (by omega) (by decide)), hk]
  have k2 : nI (kd a) = 2 ↔ kd a = 2 := nI_eq (b := 2) (by omega) (by omega)
  have k3 : nI (kd a) = 3 ↔ kd a = 3 := nI_eq (b := 3) (by omega) (by omega)
  have k4 : nI (kd a) = 4 ↔ kd a = 4 := nI_eq (b := 4) (by omega) (by omega)
  have k5 : nI (kd a) = 5 ↔ kd a = 5 := nI_eq (b := 5) (by omega) (by omega)
  unfold hdW
  by_cases h2 : kd a = 2
  · rw [if_pos (k2.mpr h2), if_pos h2]
    exact congrArg some (mnN (b := 3) (by omega) (by decide))
  · rw [if_neg (fun e => h2 (k2.mp e)), if_neg h2]
    by_cases h3 : kd a = 3
    · rw [if_pos (k3.mpr h3), if_neg (by omega), if_neg (by omega)]
    · rw [if_neg (fun e => h3 (k3.mp e))]
      by_cases h4 : kd a = 4
      · rw [if_pos (k4.mpr h4), if_pos h4, show nI p &&& 1 = nI (p % 2) from pk_andN (by omega) (m := 1) 1 (by decide)]
        by_cases h1 : p % 2 = 1
        · rw [h1, if_pos (by decide), if_pos (by decide)]
          exact congrArg some (pk_mul 2 _)
        · have h0 : p % 2 = 0 := by omega
          rw [h0, if_neg (by decide), if_neg (by decide)]
      · rw [if_neg (fun e => h4 (k4.mp e)), if_neg h4]
        by_cases h5 : kd a = 5
        · rw [if_pos (k5.mpr h5), if_pos h5, hs, nI_and]
          unfold anyS
          have hl : c &&& mkS N (fun a => kd a == 3) < 2 ^ 31 := Nat.lt_of_le_of_lt Nat.and_le_left hc
          by_cases hz : c &&& mkS N (fun a => kd a == 3) = 0
          · rw [hz, if_pos (by decide)]
            exact congrArg some (pk_mul 2 _)
          · rw [if_neg (show ¬ nI (c &&& mkS N (fun a => kd a == 3)) = 0 from nI_ne0 (by omega) hl), if_pos (by simp [hz])]
            rfl
        · rw [if_neg (fun e => h5 (k5.mp e)), if_neg h5]
def tog (a b : Nat) : Nat := if 0 < a ∧ 0 < b then a + b else 0
theorem togX {fu a b : Nat} (ha : a < 2 ^ 30) (hb : b < 2 ^ 30) : fX7_together fu (nI a) (nI b) = some (nI (tog a b)) := by
  unfold fX7_together tog
  by_cases h0 : 0 < a
  · rw [if_neg (show ¬ nI a ≤ 0 from nI_nle h0 (by omega))]
    by_cases h1 : 0 < b
    · rw [if_neg (show ¬ nI b ≤ 0 from nI_nle h1 (by omega)), if_pos ⟨h0, h1⟩, nI_add]
    · have e : b = 0 := by omega
      rw [e, if_pos (by decide), if_neg (fun h => by omega)]
      rfl
  · have e : a = 0 := by omega
    rw [e, if_pos (by decide), if_neg (fun h => by omega)]
    rfl
def s12 (In : Nat → Bool) (h : Nat → Nat) : Nat → Nat × Nat
  | 0 => (0, 0)
  | k + 1 => if In k then (max (s12 In h k).1 (h k), max (s12 In h k).2 (min (s12 In h k).1 (h k))) else s12 In h k
theorem s12_le (In : Nat → Bool) (h : Nat → Nat) (k : Nat) : (s12 In h k).2 ≤ (s12 In h k).1 := by
  induction k with
  | zero => exact Nat.le_refl _
  | succ k ih =>
    rw [s12]
    split
    · simp only
      omega
    · exact ih
theorem s12_bd {In : Nat → Bool} {h : Nat → Nat} {b k : Nat} (hb : ∀ i, i < k → h i ≤ b) : (s12 In h k).1 ≤ b := by
  induction k with
  | zero => exact Nat.zero_le _
  | succ k ih =>
    have h1 := ih (fun i hi => hb i (by omega))
    have h2 := hb k (by omega)
    rw [s12]
    split
    · simp only
      omega
    · exact h1
theorem s12_1 {In : Nat → Bool} {h : Nat → Nat} {k a : Nat} (ha : a < k) (hi : In a = true) : h a ≤ (s12 In h k).1 := by
  induction k with
  | zero => omega
  | succ k ih =>
    rw [s12]
    by_cases e : a = k
    · subst e
      rw [hi, if_pos rfl]
      exact Nat.le_max_right _ _
    · have := ih (by omega)
      split
      · simp only
        omega
      · exact this
theorem s12_2 {In : Nat → Bool} {h : Nat → Nat} {k a b : Nat} (hab : a < b) (hb : b < k) (ia : In a = true) (ib : In b = true) : min (h a) (h b) ≤ (s12 In h k).2 := by
  induction k with
  | zero => omega
  | succ k ih =>
    rw [s12]
    by_cases e : b = k
    · subst e
      have := s12_1 (h := h) hab ia
      rw [ib, if_pos rfl]
      simp only
      omega
    · have := ih (by omega)
      split
      · simp only
        omega
      · exact this
theorem s12_at {In : Nat → Bool} {h : Nat → Nat} {k : Nat} (h0 : 0 < (s12 In h k).1) : ∃ a, a < k ∧ In a = true ∧ h a = (s12 In h k).1 := by
  induction k with
  | zero => simp [s12] at h0
  | succ k ih =>
    rw [s12] at h0 ⊢
    by_cases hi : In k = true
    · rw [if_pos hi] at h0 ⊢
      simp only at h0 ⊢
      by_cases hle : (s12 In h k).1 ≤ h k
      · exact ⟨k, by omega, hi, by omega⟩
      · obtain ⟨a, h1, h2, h3⟩ := ih (by omega)
        exact ⟨a, by omega, h2, by omega⟩
    · rw [if_neg hi] at h0 ⊢
      obtain ⟨a, h1, h2, h3⟩ := ih h0
      exact ⟨a, by omega, h2, h3⟩
theorem s12_at2 {In : Nat → Bool} {h : Nat → Nat} {k : Nat} (h0 : 0 < (s12 In h k).2) : ∃ a b, a < k ∧ b < k ∧ a ≠ b ∧ In a = true ∧ In b = true ∧ h a = (s12 In h k).1 ∧ (s12 In h k).2 ≤ h b := by
  induction k with
  | zero => simp [s12] at h0
  | succ k ih =>
    have hle2 := s12_le In h k
    rw [s12] at h0 ⊢
    by_cases hi : In k = true
    · rw [if_pos hi] at h0 ⊢
      simp only at h0 ⊢
      by_cases hle : (s12 In h k).1 ≤ h k
      · obtain ⟨a, h1, h2, h3⟩ := s12_at (In := In) (h := h) (k := k) (by omega)
        exact ⟨k, a, by omega, by omega, by omega, hi, h2, by omega, by omega⟩
      · by_cases hl2 : (s12 In h k).2 ≤ h k
        · obtain ⟨a, h1, h2, h3⟩ := s12_at (In := In) (h := h) (k := k) (by omega)
          exact ⟨a, k, by omega, by omega, by omega, h2, hi, by omega, by omega⟩
        · obtain ⟨a, b, h1, h2, h3, h4, h5, h6, h7⟩ := ih (by omega)
          exact ⟨a, b, by omega, by omega, h3, h4, h5, by omega, by omega⟩
    · rw [if_neg hi] at h0 ⊢
      obtain ⟨a, b, h1, h2, h3, h4, h5, h6, h7⟩ := ih h0
      exact ⟨a, b, by omega, by omega, h3, h4, h5, h6, h7⟩
def lfF (kd bk : Nat → Nat) (h : Nat → Nat) (c a : Nat) : Nat := if c.testBit a = true ∧ kd a ≠ 3 ∧ bk a = 0 then h a else 0
def rgF (kd bk : Nat → Nat) (h : Nat → Nat) (c a : Nat) : Nat := if c.testBit a = true ∧ kd a ≠ 3 ∧ bk a ≠ 0 then h a else 0
def swF (kd : Nat → Nat) (c a : Nat) : Bool := c.testBit a && kd a == 3
def best (N : Nat) (bk kd : Nat → Nat) (h : Nat → Nat) (c : Nat) : Nat :=
  max (max (tog (sup N (lfF kd bk h c)) (sup N (rgF kd bk h c))) (tog (s12 (swF kd c) h N).1 (s12 (swF kd c) h N).2)) (tog (s12 (swF kd c) h N).1 (max (sup N (lfF kd bk h c)) (sup N (rgF kd bk h c))))
theorem stS_bit {N : Nat} {bk kd wd : Nat → Nat} {p c b a : Nat} : (stS N bk kd wd p c b).testBit a = true ↔ a < N ∧ (bk a = b ∨ kd a = 3) ∧ c.testBit a = true ∧ 0 < hdW N kd a (wd a) p c := by
  unfold stS
  rw [mkS_bit]
  simp [and_assoc]
theorem best_bears {N : Nat} {bk kd wd : Nat → Nat} {p c : Nat} (hbk : ∀ a, a < N → bk a ≤ 1) : best N bk kd (fun a => hdW N kd a (wd a) p c) c = bears N bk kd wd p c := by
  have up : ∀ a b, a < N → b < N → pv N bk kd wd p c a b ≤ bears N bk kd wd p c := fun a b ha hb => Nat.le_trans (le_sup (f := fun b => pv N bk kd wd p c a b) hb) (le_sup (f := fun a => sup N (fun b => pv N bk kd wd p c a b)) ha)
  have pr : ∀ a b, a < N → b < N → a ≠ b → (bk a = 0 ∨ kd a = 3) → (bk b = 1 ∨ kd b = 3) → c.testBit a = true → c.testBit b = true → 0 < hdW N kd a (wd a) p c → 0 < hdW N kd b (wd b) p c → hdW N kd a (wd a) p c + hdW N kd b (wd b) p c ≤ bears N bk kd wd p c := by
    intro a b ha hb hab h1 h2 h3 h4 h5 h6
    have := up a b ha hb
    unfold pv at this
    rw [if_pos ⟨hab, stS_bit.mpr ⟨ha, h1, h3, h5⟩, stS_bit.mpr ⟨hb, h2, h4, h6⟩⟩] at this
    exact this
  have lfA : 0 < sup N (lfF kd bk (fun a => hdW N kd a (wd a) p c) c) → ∃ a, a < N ∧ c.testBit a = true ∧ kd a ≠ 3 ∧ bk a = 0 ∧ hdW N kd a (wd a) p c = sup N (lfF kd bk (fun a => hdW N kd a (wd a) p c) c) := by
    intro h
    obtain ⟨a, ha, e⟩ := sup_at h
    rw [← e] at h ⊢
    unfold lfF at h ⊢
    by_cases q : c.testBit a = true ∧ kd a ≠ 3 ∧ bk a = 0
    · exact ⟨a, ha, q.1, q.2.1, q.2.2, by rw [if_pos q]⟩
    · rw [if_neg q] at h; omega
  have rgA : 0 < sup N (rgF kd bk (fun a => hdW N kd a (wd a) p c) c) → ∃ a, a < N ∧ c.testBit a = true ∧ kd a ≠ 3 ∧ bk a ≠ 0 ∧ hdW N kd a (wd a) p c = sup N (rgF kd bk (fun a => hdW N kd a (wd a) p c) c) := by
    intro h
    obtain ⟨a, ha, e⟩ := sup_at h
    rw [← e] at h ⊢
    unfold rgF at h ⊢
    by_cases q : c.testBit a = true ∧ kd a ≠ 3 ∧ bk a ≠ 0
    · exact ⟨a, ha, q.1, q.2.1, q.2.2, by rw [if_pos q]⟩
    · rw [if_neg q] at h; omega
  have swE : ∀ a, swF kd c a = true → c.testBit a = true ∧ kd a = 3 := by
    intro a h
    unfold swF at h
    simpa using h
  apply Nat.le_antisymm
  · unfold best
    refine Nat.max_le.mpr ⟨Nat.max_le.mpr ⟨?_, ?_⟩, ?_⟩
    · unfold tog
      split
      · rename_i h
        obtain ⟨a, a1, a2, a3, a4, a5⟩ := lfA h.1
        obtain ⟨b, b1, b2, b3, b4, b5⟩ := rgA h.2
        have hb1 := hbk b b1
        rw [← a5, ← b5]
        exact pr a b a1 b1 (fun e => b4 (e ▸ a4)) (Or.inl a4) (Or.inl (by omega)) a2 b2 (by omega) (by omega)
      · exact Nat.zero_le _
    · unfold tog
      split
      · rename_i h
        obtain ⟨a, b, h1, h2, h3, h4, h5, h6, h7⟩ := s12_at2 h.2
        have ea := swE a h4
        have eb := swE b h5
        have := pr a b h1 h2 h3 (Or.inr ea.2) (Or.inr eb.2) ea.1 eb.1 (by omega) (by omega)
        omega
      · exact Nat.zero_le _
    · unfold tog
      split
      · rename_i h
        obtain ⟨a, h1, h2, h3⟩ := s12_at h.1
        have ea := swE a h2
        rcases Nat.le_total (sup N (rgF kd bk (fun a => hdW N kd a (wd a) p c) c)) (sup N (lfF kd bk (fun a => hdW N kd a (wd a) p c) c)) with q | q
        · rw [Nat.max_eq_left q] at h ⊢
          obtain ⟨b, b1, b2, b3, b4, b5⟩ := lfA h.2
          have := pr b a b1 h1 (fun e => b3 (e ▸ ea.2)) (Or.inl b4) (Or.inr ea.2) b2 ea.1 (by omega) (by omega)
          omega
        · rw [Nat.max_eq_right q] at h ⊢
          obtain ⟨b, b1, b2, b3, b4, b5⟩ := rgA h.2
          have hb1 := hbk b b1
          have := pr a b h1 b1 (fun e => b3 (e ▸ ea.2)) (Or.inr ea.2) (Or.inl (by omega)) ea.1 b2 (by omega) (by omega)
          omega
      · exact Nat.zero_le _
  · refine sup_le (fun a ha => sup_le (fun b hb => ?_))
    unfold pv
    split
    · rename_i h
      obtain ⟨hab, q0, q1⟩ := h
      obtain ⟨-, x1, x2, x3⟩ := stS_bit.mp q0
      obtain ⟨-, y1, y2, y3⟩ := stS_bit.mp q1
      have sA : kd a = 3 → swF kd c a = true := fun e => by unfold swF; simp [x2, e]
      have sB : kd b = 3 → swF kd c b = true := fun e => by unfold swF; simp [y2, e]
      unfold best
      by_cases ka : kd a = 3
      · have a1 := s12_1 (h := fun a => hdW N kd a (wd a) p c) ha (sA ka)
        by_cases kb : kd b = 3
        · have b1 := s12_1 (h := fun a => hdW N kd a (wd a) p c) hb (sB kb)
          have m2 : min (hdW N kd a (wd a) p c) (hdW N kd b (wd b) p c) ≤ (s12 (swF kd c) (fun a => hdW N kd a (wd a) p c) N).2 := by
            rcases Nat.lt_or_gt_of_ne hab with q | q
            · exact s12_2 (h := fun a => hdW N kd a (wd a) p c) q hb (sA ka) (sB kb)
            · have := s12_2 (h := fun a => hdW N kd a (wd a) p c) q ha (sB kb) (sA ka)
              omega
          have e : tog (s12 (swF kd c) (fun a => hdW N kd a (wd a) p c) N).1 (s12 (swF kd c) (fun a => hdW N kd a (wd a) p c) N).2 = (s12 (swF kd c) (fun a => hdW N kd a (wd a) p c) N).1 + (s12 (swF kd c) (fun a => hdW N kd a (wd a) p c) N).2 := by
            unfold tog
            rw [if_pos ⟨by omega, by omega⟩]
          omega
        · have yb : bk b = 1 := y1.elim id (fun e => absurd e kb)
          have r1 : hdW N kd b (wd b) p c ≤ sup N (rgF kd bk (fun a => hdW N kd a (wd a) p c) c) := by
            have := le_sup (f := rgF kd bk (fun a => hdW N kd a (wd a) p c) c) hb
            unfold rgF at this
            rw [if_pos ⟨y2, kb, by omega⟩] at this
            exact this
          have e : tog (s12 (swF kd c) (fun a => hdW N kd a (wd a) p c) N).1 (max (sup N (lfF kd bk (fun a => hdW N kd a (wd a) p c) c)) (sup N (rgF kd bk (fun a => hdW N kd a (wd a) p c) c))) = (s12 (swF kd c) (fun a => hdW N kd a (wd a) p c) N).1 + (max (sup N (lfF kd bk (fun a => hdW N kd a (wd a) p c) c)) (sup N (rgF kd bk (fun a => hdW N kd a (wd a) p c) c))) := by
            unfold tog
            rw [if_pos ⟨by omega, by omega⟩]
          omega
      · have xa : bk a = 0 := x1.elim id (fun e => absurd e ka)
        have l1 : hdW N kd a (wd a) p c ≤ sup N (lfF kd bk (fun a => hdW N kd a (wd a) p c) c) := by
          have := le_sup (f := lfF kd bk (fun a => hdW N kd a (wd a) p c) c) ha
          unfold lfF at this
          rw [if_pos ⟨x2, ka, xa⟩] at this
          exact this
        by_cases kb : kd b = 3
        · have b1 := s12_1 (h := fun a => hdW N kd a (wd a) p c) hb (sB kb)
          have e : tog (s12 (swF kd c) (fun a => hdW N kd a (wd a) p c) N).1 (max (sup N (lfF kd bk (fun a => hdW N kd a (wd a) p c) c)) (sup N (rgF kd bk (fun a => hdW N kd a (wd a) p c) c))) = (s12 (swF kd c) (fun a => hdW N kd a (wd a) p c) N).1 + (max (sup N (lfF kd bk (fun a => hdW N kd a (wd a) p c) c)) (sup N (rgF kd bk (fun a => hdW N kd a (wd a) p c) c))) := by
            unfold tog
            rw [if_pos ⟨by omega, by omega⟩]
          omega
        · have yb : bk b = 1 := y1.elim id (fun e => absurd e kb)
          have r1 : hdW N kd b (wd b) p c ≤ sup N (rgF kd bk (fun a => hdW N kd a (wd a) p c) c) := by
            have := le_sup (f := rgF kd bk (fun a => hdW N kd a (wd a) p c) c) hb
            unfold rgF at this
            rw [if_pos ⟨y2, kb, by omega⟩] at this
            exact this
          have e : tog (sup N (lfF kd bk (fun a => hdW N kd a (wd a) p c) c)) (sup N (rgF kd bk (fun a => hdW N kd a (wd a) p c) c)) = (sup N (lfF kd bk (fun a => hdW N kd a (wd a) p c) c)) + (sup N (rgF kd bk (fun a => hdW N kd a (wd a) p c) c)) := by
            unfold tog
            rw [if_pos ⟨by omega, by omega⟩]
          omega
    · exact Nat.zero_le _

-- the loop of bestOfTwo
theorem best_loop {N : Nat} {bk kd wd we : Nat → Nat} {size sworn who ww : Int32} {bank kind word : Nat → Int32} {fu c p : Nat} (hN : N ≤ 8) (hsz : size = nI N) (hsw : sworn = nI (mkS N (fun a => kd a == 3))) (hF : ∀ a, a < N → bank a = nI (bk a) ∧ kind a = nI (kd a) ∧ word a = nI (wd a)) (hW : ∀ a, a < N → bk a ≤ 1 ∧ kd a ≤ 5 ∧ we a ≤ 9) (hE : ∀ a, a < N → (nI a = who → ww = nI (we a)) ∧ (¬ nI a = who → we a = wd a)) (hc : c < 2 ^ 31) (hp : p < 2 ^ 31) : ∀ (m k n : Nat), N = k + m → m < n → fX7_bestOfTwo_b15 fu size kind sworn bank word n (nI p) (nI c) who ww (nI (sup k (lfF kd bk (fun a => hdW N kd a (we a) p c) c))) (nI (sup k (rgF kd bk (fun a => hdW N kd a (we a) p c) c))) (nI (s12 (swF kd c) (fun a => hdW N kd a (we a) p c) k).1) (nI (s12 (swF kd c) (fun a => hdW N kd a (we a) p c) k).2) (nI k) = some (nI (best N bk kd (fun a => hdW N kd a (we a) p c) c)) := by
  intro m
  have bL : ∀ k, k ≤ N → sup k (lfF kd bk (fun a => hdW N kd a (we a) p c) c) ≤ 18 := fun k hk => sup_le (fun i hi => by
    unfold lfF
    split
    · exact hdW_le (hW i (by omega)).2.2
    · omega)
  have bR : ∀ k, k ≤ N → sup k (rgF kd bk (fun a => hdW N kd a (we a) p c) c) ≤ 18 := fun k hk => sup_le (fun i hi => by
    unfold rgF
    split
    · exact hdW_le (hW i (by omega)).2.2
    · omega)
  have bS : ∀ k, k ≤ N → (s12 (swF kd c) (fun a => hdW N kd a (we a) p c) k).1 ≤ 18 := fun k hk => s12_bd (fun i hi => hdW_le (hW i (by omega)).2.2)
  have bT : ∀ k, (s12 (swF kd c) (fun a => hdW N kd a (we a) p c) k).2 ≤ (s12 (swF kd c) (fun a => hdW N kd a (we a) p c) k).1 := fun k => s12_le _ _ k
  induction m with
  | zero =>
    intro k n hk hn
    obtain ⟨n, rfl⟩ : ∃ q, n = q + 1 := ⟨n - 1, by omega⟩
    have e : N = k := by omega
    have h1 := bL k (by omega)
    have h2 := bR k (by omega)
    have h3 := bS k (by omega)
    have h4 := bT k
    show fX7_bestOfTwo_b15_body fu size kind sworn bank word _ _ _ _ _ _ _ _ _ _ = _
    unfold fX7_bestOfTwo_b15_body
    rw [hsz, if_pos (nI_le (by omega) (by omega)), bdS (togX (by omega) (by omega)), bdS (togX (by omega) (by omega)), mxN (by omega) (by omega), bdS (togX (by omega) (by omega))]
    have t1 : tog (sup k (lfF kd bk (fun a => hdW N kd a (we a) p c) c)) (sup k (rgF kd bk (fun a => hdW N kd a (we a) p c) c)) ≤ 36 := by unfold tog; split <;> omega
    have t2 : tog (s12 (swF kd c) (fun a => hdW N kd a (we a) p c) k).1 (s12 (swF kd c) (fun a => hdW N kd a (we a) p c) k).2 ≤ 36 := by unfold tog; split <;> omega
    have t3 : tog (s12 (swF kd c) (fun a => hdW N kd a (we a) p c) k).1 (max (sup k (lfF kd bk (fun a => hdW N kd a (we a) p c) c)) (sup k (rgF kd bk (fun a => hdW N kd a (we a) p c) c))) ≤ 36 := by unfold tog; split <;> omega
    rw [mxN (by omega) (by omega), mxN (by omega) (by omega)]
    unfold best
    rw [e]
  | succ m ih =>
    intro k n hk hn
    obtain ⟨n, rfl⟩ : ∃ q, n = q + 1 := ⟨n - 1, by omega⟩
    have hkN : k < N := by omega
    have h1 := bL k (by omega)
    have h2 := bR k (by omega)
    have h3 := bS k (by omega)
    have h4 := bT k
    obtain ⟨hb1, hk5, hw9⟩ := hW k hkN
    obtain ⟨f1, f2, f3⟩ := hF k hkN
    obtain ⟨g1, g2⟩ := hE k hkN
    have hh := hdW_le (N := N) (kd := kd) (a := k) (p := p) (c := c) hw9
    have h5 := ih (k + 1) n (by omega) (by omega)
    rw [sup, sup, s12, nI_succ] at h5
    have core : ∀ w0 : Int32, w0 = nI (we k) → fX7_bestOfTwo_b66 fu size kind sworn bank word (fX7_bestOfTwo_b15 fu size kind sworn bank word n) (nI p) (nI c) who ww (nI (sup k (lfF kd bk (fun a => hdW N kd a (we a) p c) c))) (nI (sup k (rgF kd bk (fun a => hdW N kd a (we a) p c) c))) (nI (s12 (swF kd c) (fun a => hdW N kd a (we a) p c) k).1) (nI (s12 (swF kd c) (fun a => hdW N kd a (we a) p c) k).2) (nI k) w0 (nI k) = some (nI (best N bk kd (fun a => hdW N kd a (we a) p c) c)) ∨ c.testBit k = false := by
      intro w0 e0
      cases hcb : c.testBit k with
      | false => exact Or.inr rfl
      | true =>
        left
        unfold fX7_bestOfTwo_b66
        rw [e0, bdS (holdX hN f2 hk5 hsw hkN hc hp hw9), bdS (rdN (by omega) (by decide)), f2]
        have k3 : nI (kd k) = 3 ↔ kd k = 3 := nI_eq (b := 3) (by omega) (by omega)
        have kb : nI (bk k) = 0 ↔ bk k = 0 := nI_eq (b := 0) (by omega) (by omega)
        by_cases h3k : kd k = 3
        · have eS : swF kd c k = true := by unfold swF; simp [hcb, h3k]
          have eL : lfF kd bk (fun a => hdW N kd a (we a) p c) c k = 0 := by unfold lfF; rw [if_neg (fun q => q.2.1 h3k)]
          have eR : rgF kd bk (fun a => hdW N kd a (we a) p c) c k = 0 := by unfold rgF; rw [if_neg (fun q => q.2.1 h3k)]
          rw [eS, eL, eR, if_pos rfl, Nat.max_zero, Nat.max_zero] at h5
          rw [if_pos (k3.mpr h3k), mnN (by omega) (by omega), mxN (by omega) (by omega), mxN (by omega) (by omega)]
          exact h5
        · have eS : swF kd c k = false := by unfold swF; simp [h3k]
          rw [if_neg (fun e => h3k (k3.mp e)), bdS (rdN (by omega) (by decide)), f1]
          rw [eS, if_neg (by decide)] at h5
          by_cases h0 : bk k = 0
          · have eL : lfF kd bk (fun a => hdW N kd a (we a) p c) c k = hdW N kd k (we k) p c := by unfold lfF; rw [if_pos ⟨hcb, h3k, h0⟩]
            have eR : rgF kd bk (fun a => hdW N kd a (we a) p c) c k = 0 := by unfold rgF; rw [if_neg (fun q => q.2.2 h0)]
            rw [eL, eR, Nat.max_zero] at h5
            rw [if_pos (kb.mpr h0), mxN (by omega) (by omega)]
            exact h5
          · have eL : lfF kd bk (fun a => hdW N kd a (we a) p c) c k = 0 := by unfold lfF; rw [if_neg (fun q => h0 q.2.2)]
            have eR : rgF kd bk (fun a => hdW N kd a (we a) p c) c k = hdW N kd k (we k) p c := by unfold rgF; rw [if_pos ⟨hcb, h3k, h0⟩]
            rw [eL, eR, Nat.max_zero] at h5
            rw [if_neg (fun e => h0 (kb.mp e)), mxN (by omega) (by omega)]
            exact h5
    show fX7_bestOfTwo_b15_body fu size kind sworn bank word _ _ _ _ _ _ _ _ _ _ = _
    unfold fX7_bestOfTwo_b15_body
    rw [hsz, if_neg (nI_ge (by omega) (by omega)), bdS (has8 hc (by omega))]
    rw [hsz] at core h5
    cases hcb : c.testBit k with
    | false =>
      have eS : swF kd c k = false := by unfold swF; simp [hcb]
      have eL : lfF kd bk (fun a => hdW N kd a (we a) p c) c k = 0 := by unfold lfF; rw [if_neg (fun q => by rw [hcb] at q; exact absurd q.1 (by decide))]
      have eR : rgF kd bk (fun a => hdW N kd a (we a) p c) c k = 0 := by unfold rgF; rw [if_neg (fun q => by rw [hcb] at q; exact absurd q.1 (by decide))]
      rw [eS, eL, eR, if_neg (by decide), Nat.max_zero, Nat.max_zero] at h5
      rw [if_pos (by decide)]
      exact h5
    | true =>
      rw [if_neg (by decide)]
      by_cases hwho : nI k = who
      · rw [if_pos hwho]
        exact (core ww (g1 hwho)).resolve_right (by rw [hcb]; decide)
      · rw [if_neg hwho, bdS (rdN (by omega) (by decide))]
        exact (core (word k) (by rw [f3, g2 hwho])).resolve_right (by rw [hcb]; decide)
theorem bestX {N : Nat} {bk kd wd we : Nat → Nat} {size sworn who ww : Int32} {bank kind word : Nat → Int32} {fu c p : Nat} (hfu : 9 ≤ fu) (hN : N ≤ 8) (hsz : size = nI N) (hsw : sworn = nI (mkS N (fun a => kd a == 3))) (hF : ∀ a, a < N → bank a = nI (bk a) ∧ kind a = nI (kd a) ∧ word a = nI (wd a)) (hW : ∀ a, a < N → bk a ≤ 1 ∧ kd a ≤ 5 ∧ we a ≤ 9) (hE : ∀ a, a < N → (nI a = who → ww = nI (we a)) ∧ (¬ nI a = who → we a = wd a)) (hc : c < 2 ^ 31) (hp : p < 2 ^ 31) : fX7_bestOfTwo fu size kind sworn bank word (nI p) (nI c) who ww = some (nI (bears N bk kd we p c)) := by
  rw [← best_bears (fun a ha => (hW a ha).1)]
  exact best_loop hN hsz hsw hF hW hE hc hp N 0 fu (by omega) (by omega)
