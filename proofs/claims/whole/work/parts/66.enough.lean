-- enough
theorem bears_0 (N p : Nat) (bk kd wd : Nat → Nat) : bears N bk kd wd p 0 = 0 := by
  apply Nat.le_zero.mp
  apply sup_le
  intro a _
  apply sup_le
  intro b _
  unfold pv
  rw [if_neg]
  · exact Nat.le_refl _
  · rintro ⟨-, h, -⟩
    have := (stS_bit.mp h).2.2.1
    simp at this
/-- the first of the smallest sets below k that do -/
def Sel (B : Nat → Prop) (k : Nat) (f : Int32) : Prop := (f = -9 ∧ ∀ s, s < k → ¬ B s) ∨ ∃ s, s < k ∧ f = nI s ∧ B s ∧ ∀ z, z < k → B z → on s < on z ∨ (on s = on z ∧ s ≤ z)
theorem Sel_u {B : Nat → Prop} {k : Nat} {f g : Int32} (h : Sel B k f) (i : Sel B k g) : f = g := by
  rcases h with ⟨h1, h2⟩ | ⟨s, h1, h2, h3, h4⟩
  · rcases i with ⟨i1, -⟩ | ⟨t, i1, i2, i3, i4⟩
    · rw [h1, i1]
    · exact absurd i3 (h2 t i1)
  · rcases i with ⟨-, i2⟩ | ⟨t, i1, i2, i3, i4⟩
    · exact absurd h3 (i2 s h1)
    · have a := h4 t i1 i3
      have b := i4 s h1 h3
      have : s = t := by omega
      rw [h2, i2, this]
theorem Sel_no {B : Nat → Prop} {k : Nat} {f : Int32} (h : Sel B k f) (n : ¬ B k) : Sel B (k + 1) f := by
  rcases h with ⟨h1, h2⟩ | ⟨s, h1, h2, h3, h4⟩
  · refine Or.inl ⟨h1, fun s hs => ?_⟩
    by_cases e : s = k
    · rw [e]; exact n
    · exact h2 s (by omega)
  · refine Or.inr ⟨s, by omega, h2, h3, fun z hz hb => ?_⟩
    by_cases e : z = k
    · rw [e] at hb; exact absurd hb n
    · exact h4 z (by omega) hb
theorem Sel_old {B : Nat → Prop} {k s : Nat} (h : Sel B k (nI s)) (hs : s < k) (hk : k ≤ 256) (n : on s ≤ on k) : Sel B (k + 1) (nI s) := by
  rcases h with ⟨h1, h2⟩ | ⟨t, h1, h2, h3, h4⟩
  · exfalso
    have : (0 : Int32) ≤ nI s := nI_le (a := 0) (by omega) (by omega)
    rw [h1] at this
    exact absurd this (by decide)
  · have e := nI_inj (by omega) (by omega) h2
    subst e
    refine Or.inr ⟨s, by omega, rfl, h3, fun z hz hb => ?_⟩
    by_cases e : z = k
    · rw [e]; omega
    · exact h4 z (by omega) hb
theorem Sel_new {B : Nat → Prop} {k : Nat} {f : Int32} (h : Sel B k f) (hk : k ≤ 256) (b : B k) (n : f = -9 ∨ ∃ s, s < k ∧ f = nI s ∧ on k < on s) : Sel B (k + 1) (nI k) := by
  refine Or.inr ⟨k, by omega, rfl, b, fun z hz hb => ?_⟩
  by_cases e : z = k
  · rw [e]; omega
  · rcases h with ⟨h1, h2⟩ | ⟨t, h1, h2, h3, h4⟩
    · exact absurd hb (h2 z (by omega))
    · rcases n with n | ⟨s, n1, n2, n3⟩
      · exfalso
        have : (0 : Int32) ≤ nI t := nI_le (a := 0) (by omega) (by omega)
        rw [← h2, n] at this
        exact absurd this (by decide)
      · have e2 := nI_inj (by omega) (by omega) (h2.symm.trans n2)
        rw [← e2] at n3
        have := h4 z (by omega) hb
        omega
theorem allX {N P q s : Nat} {bk kd wd : Nat → Nat} {borne : Nat → Int32} {planks : Int32} {fu : Nat} (hfu : 9 ≤ fu) (hB : BT N bk kd wd borne) (hN : N ≤ 8) (hP : 1 ≤ P ∧ P ≤ 8) (hpl : planks = nI P) (hw : ∀ a, a < N → wd a ≤ 9) (hq : q ≤ 36) (hs : s < 2 ^ N) : fX4_bearsAll fu planks borne (nI s) (nI q) = some (bI (decide (q ≤ brg N P bk kd wd (fun _ => s)))) := by
  have h := lpI (N := P) (k0 := 0) (F := fun m k (_ : Unit) => fX4_bearsAll_b2 fu planks borne m (nI s) (nI q) (nI k)) (I := fun k _ => ∀ p, p < k → q ≤ bears N bk kd wd p s) (Q := fun y => y = bI (decide (q ≤ brg N P bk kd wd (fun _ => s)))) ?_ ?_ P 0 fu () (Nat.le_refl _) (fun p hp => by omega) (by omega) (by omega)
  · obtain ⟨y, h1, h2⟩ := h
    rw [← h2]; exact h1
  · intro m _ hI
    refine ⟨1, ?_, ?_⟩
    · show fX4_bearsAll_b2_body fu planks borne _ _ _ _ = _
      unfold fX4_bearsAll_b2_body
      rw [hpl, if_pos (nI_le (by omega) (by omega))]
    · have : decide (q ≤ brg N P bk kd wd (fun _ => s)) = true := decide_eq_true ((le_brg (by omega)).mpr hI)
      rw [this]; rfl
  · intro m k _ _ hk hI
    have hb := bears_le (N := N) (bk := bk) (kd := kd) (p := k) (c := s) hw
    have e : fX4_bearsAll_b2 fu planks borne (m + 1) (nI s) (nI q) (nI k) = if nI q ≤ nI (bears N bk kd wd k s) then fX4_bearsAll_b2 fu planks borne m (nI s) (nI q) (nI k + 1) else some 0 := by
      show fX4_bearsAll_b2_body fu planks borne _ _ _ _ = _
      unfold fX4_bearsAll_b2_body
      rw [hpl, if_neg (nI_ge (by omega) (by omega)), bdS (ofX hB hN hs (by omega))]
    by_cases hl : q ≤ bears N bk kd wd k s
    · right
      refine ⟨(), ?_, ?_⟩
      · intro p hp
        by_cases ep : p = k
        · rw [ep]; exact hl
        · exact hI p (by omega)
      · show fX4_bearsAll_b2 fu planks borne (m + 1) (nI s) (nI q) (nI k) = _
        rw [e, if_pos (nI_le hl (by omega)), nI_succ]
    · left
      refine ⟨0, ?_, ?_⟩
      · show fX4_bearsAll_b2 fu planks borne (m + 1) (nI s) (nI q) (nI k) = _
        rw [e, if_neg (nI_ge (by omega) (by omega))]
      · have : decide (q ≤ brg N P bk kd wd (fun _ => s)) = false := decide_eq_false (fun z => hl ((le_brg (by omega)).mp z k hk))
        rw [this]; rfl
theorem peopleX {N P q : Nat} {bk kd wd : Nat → Nat} {borne : Nat → Int32} {planks size : Int32} {fu : Nat} (hfu : 300 ≤ fu) (hB : BT N bk kd wd borne) (hN : N ≤ 8) (hP : 1 ≤ P ∧ P ≤ 8) (hpl : planks = nI P) (hsz : size = nI N) (hw : ∀ a, a < N → wd a ≤ 9) (hq1 : 1 ≤ q) (hq : q ≤ 36) : ∃ v, fX4_fewestPeople fu size planks borne (nI q) = some v ∧ Sel (fun s => q ≤ brg N P bk kd wd (fun _ => s)) (2 ^ N) v := by
  have h8 := pow8 hN
  have h1 := pow0 N
  have n0 : ¬ q ≤ brg N P bk kd wd (fun _ => 0) := fun z => by
    have := (le_brg (by omega)).mp z 0 (by omega)
    rw [bears_0] at this
    omega
  have n1 : ∀ s, s < 1 → ¬ q ≤ brg N P bk kd wd (fun _ => s) := by
    intro s hs
    have : s = 0 := by omega
    rw [this]; exact n0
  refine lpI (N := 2 ^ N) (k0 := 1) (F := fun m k (y : Int32 × Int32) => fX4_fewestPeople_b9 fu size planks borne m (nI q) y.1 y.2 (nI k)) (I := fun k y => Sel (fun s => q ≤ brg N P bk kd wd (fun _ => s)) k y.1 ∧ ((y.1 = -9 ∧ y.2 = 9) ∨ ∃ s, s < k ∧ y.1 = nI s ∧ y.2 = nI (on s))) ?_ ?_ (2 ^ N - 1) 1 fu (-9, 9) (Nat.le_refl _) ⟨Or.inl ⟨rfl, n1⟩, Or.inl ⟨rfl, rfl⟩⟩ (by omega) (by omega)
  · rintro m y ⟨hI, -⟩
    refine ⟨y.1, ?_, hI⟩
    show fX4_fewestPeople_b9_body fu size planks borne _ _ _ _ _ = _
    unfold fX4_fewestPeople_b9_body
    rw [hsz, bdS (everyX hN), if_pos (nI_lt (by omega) (by omega))]
  · rintro m k ⟨f, c⟩ hk1 hk ⟨hI, hc⟩
    right
    have ho := on_le k
    have e : fX4_fewestPeople_b9 fu size planks borne (m + 1) (nI q) f c (nI k) = if c ≤ nI (on k) then fX4_fewestPeople_b9 fu size planks borne m (nI q) f c (nI (k + 1)) else if bI (decide (q ≤ brg N P bk kd wd (fun _ => k))) = 0 then fX4_fewestPeople_b9 fu size planks borne m (nI q) f c (nI (k + 1)) else fX4_fewestPeople_b9 fu size planks borne m (nI q) (nI k) (nI (on k)) (nI (k + 1)) := by
      show fX4_fewestPeople_b9_body fu size planks borne _ _ _ _ _ = _
      unfold fX4_fewestPeople_b9_body
      rw [hsz, bdS (everyX hN), if_neg (nI_nlt (by omega) (by omega)), bdS (popX (by omega)), bdS (allX (by omega) hB hN hP hpl hw hq hk), bdS (popX (by omega)), nI_succ]
      rfl
    show ∃ y : Int32 × Int32, (Sel (fun s => q ≤ brg N P bk kd wd (fun _ => s)) (k + 1) y.1 ∧ ((y.1 = -9 ∧ y.2 = 9) ∨ ∃ s, s < k + 1 ∧ y.1 = nI s ∧ y.2 = nI (on s))) ∧ fX4_fewestPeople_b9 fu size planks borne (m + 1) (nI q) f c (nI k) = fX4_fewestPeople_b9 fu size planks borne m (nI q) y.1 y.2 (nI (k + 1))
    rw [e]
    have keep : (f = -9 ∧ c = 9) ∨ ∃ s, s < k + 1 ∧ f = nI s ∧ c = nI (on s) := hc.imp id (fun ⟨s, a, b⟩ => ⟨s, by omega, b⟩)
    simp only at hI hc
    by_cases hb : q ≤ brg N P bk kd wd (fun _ => k)
    · rw [decide_eq_true hb, if_neg (show ¬ bI true = 0 by decide)]
      rcases hc with ⟨c1, c2⟩ | ⟨s, c1, c2, c3⟩
      · rw [if_neg (by rw [c2]; exact nI_ge (b := 9) (by omega) (by decide))]
        exact ⟨(nI k, nI (on k)), ⟨Sel_new hI (by omega) hb (Or.inl c1), Or.inr ⟨k, by omega, rfl, rfl⟩⟩, rfl⟩
      · have hs := on_le s
        by_cases hl : on s ≤ on k
        · rw [if_pos (by rw [c3]; exact nI_le hl (by omega))]
          rw [c2] at hI
          exact ⟨(f, c), ⟨by rw [c2]; exact Sel_old hI c1 (by omega) hl, keep⟩, rfl⟩
        · rw [if_neg (by rw [c3]; exact nI_ge (by omega) (by omega))]
          exact ⟨(nI k, nI (on k)), ⟨Sel_new hI (by omega) hb (Or.inr ⟨s, c1, c2, by omega⟩), Or.inr ⟨k, by omega, rfl, rfl⟩⟩, rfl⟩
    · rw [decide_eq_false hb, if_pos (show bI false = 0 from rfl), ite_self]
      exact ⟨(f, c), ⟨Sel_no hI hb, keep⟩, rfl⟩
theorem enough_in {N P q k : Nat} {bk kd wd sl : Nat → Nat} {t : Nat → Int32} {fu : Nat} {r19 : Int32 → Int32 → Int32 → Int32 → Option (Int32 × Int32)} (hfu : 300 ≤ fu) (hT : TR N P bk kd wd sl t) (hq : q ≤ 36) (hk : k < 2 ^ N) (f : Int32) : fX9_enough_b58 fu t r19 fu (nI q) f (nI k) 1 0 0 = (if q ≤ brg N P bk kd wd (fun _ => k) then r19 (nI q) (nI k) (nI (k + 1)) 0 else r19 (nI q) f (nI (k + 1)) 0) ∧ fX9_enough_b58 fu t r19 fu (nI q) f (nI k) 0 0 0 = r19 (nI q) f (nI (k + 1)) 0 := by
  obtain ⟨hP1, hP8, hN⟩ := hT.1.2.2
  have h8 := pow8 hN
  have hw9 : ∀ a, a < N → wd a ≤ 9 := fun a ha => (hT.wf.2 a ha).2.2.1.2
  have no : ∀ m j, j ≤ P → fX9_enough_b58 fu t r19 (m + 1) (nI q) f (nI k) 0 (nI j) 0 = r19 (nI q) f (nI (k + 1)) 0 := by
    intro m j hj
    show fX9_enough_b58_body fu t r19 _ _ _ _ _ _ _ = _
    unfold fX9_enough_b58_body fX9_enough_b98
    rw [bdS hT.p, if00, if00, nI_succ, ite_self]
  refine ⟨?_, ?_⟩
  · have key : ∀ m j n, P = j + m → m < n → (∀ p, p < j → q ≤ bears N bk kd wd p k) → fX9_enough_b58 fu t r19 n (nI q) f (nI k) 1 (nI j) 0 = (if q ≤ brg N P bk kd wd (fun _ => k) then r19 (nI q) (nI k) (nI (k + 1)) 0 else r19 (nI q) f (nI (k + 1)) 0) := by
      intro m
      induction m with
      | zero =>
        intro j n hj hn hI
        obtain ⟨n, rfl⟩ : ∃ z, n = z + 1 := ⟨n - 1, by omega⟩
        have ej : j = P := by omega
        rw [if_pos (show q ≤ brg N P bk kd wd (fun _ => k) from (le_brg (by omega)).mpr (by rw [← ej]; exact hI))]
        show fX9_enough_b58_body fu t r19 _ _ _ _ _ _ _ = _
        unfold fX9_enough_b58_body fX9_enough_b98
        rw [bdS hT.p, if_pos (nI_le (by omega) (by omega)), if10, nI_succ]
      | succ m ih =>
        intro j n hj hn hI
        obtain ⟨n, rfl⟩ : ∃ z, n = z + 1 := ⟨n - 1, by omega⟩
        have hb := bears_le (N := N) (bk := bk) (kd := kd) (p := j) (c := k) hw9
        show fX9_enough_b58_body fu t r19 _ _ _ _ _ _ _ = _
        unfold fX9_enough_b58_body
        rw [bdS hT.p, if_neg (nI_ge (by omega) (by omega)), if10, bdS (bears9 hT (by omega) (by omega) (by omega)), ← nI_succ]
        by_cases hl : q ≤ bears N bk kd wd j k
        · rw [if_neg (nI_nlt hl (by omega))]
          refine ih (j + 1) n (by omega) (by omega) (fun p hp => ?_)
          by_cases ep : p = j
          · rw [ep]; exact hl
          · exact hI p (by omega)
        · rw [if_pos (nI_lt (by omega) (by omega)), if_neg (show ¬ q ≤ brg N P bk kd wd (fun _ => k) from fun z => hl ((le_brg (by omega)).mp z j (by omega)))]
          obtain ⟨n, rfl⟩ : ∃ z, n = z + 1 := ⟨n - 1, by omega⟩
          exact no n (j + 1) (by omega)
    exact key P 0 fu (by omega) (by omega) (fun p hp => by omega)
  · obtain ⟨z, rfl⟩ : ∃ z, fu = z + 1 := ⟨fu - 1, by omega⟩
    exact no z 0 (by omega)
theorem enough9 {N P q : Nat} {bk kd wd sl : Nat → Nat} {t : Nat → Int32} {fu : Nat} (hfu : 300 ≤ fu) (hT : TR N P bk kd wd sl t) (hq : q ≤ 36) : ∃ z : Int32 × Int32, fX9_enough_b19 fu t fu (nI q) (-9) 0 0 = some z ∧ z.2 = 0 ∧ Sel (fun s => q ≤ brg N P bk kd wd (fun _ => s)) (2 ^ N) z.1 := by
  obtain ⟨hP1, hP8, hN⟩ := hT.1.2.2
  have h8 := pow8 hN
  refine lpI (N := 2 ^ N) (k0 := 0) (F := fun m k f => fX9_enough_b19 fu t m (nI q) f (nI k) 0) (I := fun k f => Sel (fun s => q ≤ brg N P bk kd wd (fun _ => s)) k f) ?_ ?_ (2 ^ N) 0 fu (-9) (Nat.le_refl _) (Or.inl ⟨rfl, fun s hs => by omega⟩) (by omega) (by omega)
  · intro m f hI
    refine ⟨(f, 0), ?_, rfl, hI⟩
    show fX9_enough_b19_body fu t _ _ _ _ _ = _
    unfold fX9_enough_b19_body
    rw [bdS hT.n, nI_shl (by omega), if_pos (nI_le (by omega) (by omega))]
  · intro m k f _ hk hI
    right
    obtain ⟨e1, e0⟩ := enough_in (fu := fu) (r19 := fX9_enough_b19 fu t m) hfu hT hq hk f
    show ∃ y, Sel (fun s => q ≤ brg N P bk kd wd (fun _ => s)) (k + 1) y ∧ fX9_enough_b19_body fu t (fX9_enough_b19 fu t m) (nI q) f (nI k) 0 = fX9_enough_b19 fu t m (nI q) y (nI (k + 1)) 0
    unfold fX9_enough_b19_body
    rw [bdS hT.n, nI_shl (by omega), if_neg (nI_ge (by omega) (by omega)), e1, e0]
    by_cases h9 : f = -9
    · rw [if_pos h9]
      by_cases hb : q ≤ brg N P bk kd wd (fun _ => k)
      · rw [if_pos hb]
        exact ⟨nI k, Sel_new hI (by omega) hb (Or.inl h9), rfl⟩
      · rw [if_neg hb]
        exact ⟨f, Sel_no hI hb, rfl⟩
    · rw [if_neg h9]
      rcases id hI with ⟨i1, -⟩ | ⟨s, i1, i2, -⟩
      · exact absurd i1 h9
      · have a := on_le s
        have b := on_le k
        rw [i2, bdS (onesO (by omega) (by omega)), bdS (onesO (by omega) (by omega))]
        rw [i2] at hI
        by_cases hl : on s ≤ on k
        · rw [if_pos (nI_le hl (by omega))]
          exact ⟨nI s, Sel_old hI i1 (by omega) hl, rfl⟩
        · rw [if_neg (nI_ge (by omega) (by omega))]
          by_cases hb : q ≤ brg N P bk kd wd (fun _ => k)
          · rw [if_pos hb]
            exact ⟨nI k, Sel_new hI (by omega) hb (Or.inr ⟨s, i1, rfl, by omega⟩), rfl⟩
          · rw [if_neg hb]
            exact ⟨nI s, Sel_no hI hb, rfl⟩
theorem q_enough {N P : Nat} {bk kd wd sl : Nat → Nat} {th planks size sworn : Int32} {t bank kind word slow borne : Nat → Int32} {fu : Nat} (hfu : 300 ≤ fu) (hT : TR N P bk kd wd sl t) (hF : FR N P bk kd wd sl planks size sworn bank kind word slow) (hB : BT N bk kd wd borne) (l : Int32) : ∃ v, fX8_enough fu size planks borne l = some v ∧ fX9_enough fu t th l = some (v, 0) := by
  obtain ⟨hP1, hP8, hN⟩ := hT.1.2.2
  have hw9 : ∀ a, a < N → wd a ≤ 9 := fun a ha => (hT.wf.2 a ha).2.2.1.2
  unfold fX8_enough fX9_enough
  rcases load1 (fu := fu) (x := l) with ⟨l1, l2⟩ | ⟨l1, l2, q, hq1, hq2, rfl⟩
  · exact ⟨-1, by rw [bdS l2]; rfl, by rw [bdS l1]; rfl⟩
  rw [bdS l2, bdS l1, if10, if10]
  obtain ⟨v, h1, h2⟩ := peopleX (fu := fu) (q := q) hfu hB hN ⟨hP1, hP8⟩ hF.1.1 hF.1.2.1 hw9 hq1 hq2
  obtain ⟨⟨z1, z2⟩, k1, k2, k3⟩ := enough9 (fu := fu) (q := q) hfu hT hq2
  refine ⟨v, by rw [bdS h1], ?_⟩
  rw [k1, Sel_u h2 k3]
  simp only at k2
  rw [k2]
