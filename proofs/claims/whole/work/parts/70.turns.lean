-- byTurns
def LSt (N P : Nat) (bk kd wd : Nat → Nat) (n : Nat) (C : Nat → Nat) : Nat := if n = 2 then brg N P bk kd wd C else inf 99 N (fun c => brg N P bk kd wd (fun p => cut (C p) (2 ^ c)))
def MDt (N P : Nat) (bk kd wd : Nat → Nat) (n : Nat) (C : Nat → Nat) : Nat := max (LSt N P bk kd wd n C) (sup N (fun a => sup P (fun p => LSt N P bk kd wd n (up C p (C p ||| 2 ^ a)))))
def MBt (N P : Nat) (bk kd wd : Nat → Nat) (n : Nat) (C : Nat → Nat) : Nat := if n = 1 then brg N P bk kd wd C else MDt N P bk kd wd n C
theorem LSt_congr {N P n : Nat} {bk kd wd : Nat → Nat} {C D : Nat → Nat} (h : ∀ p, p < P → C p = D p) : LSt N P bk kd wd n C = LSt N P bk kd wd n D := by
  unfold LSt
  rw [brg_congr h, inf_congr (fun c _ => brg_congr (fun p hp => by rw [h p hp]))]
theorem MDt_congr {N P n : Nat} {bk kd wd : Nat → Nat} {C D : Nat → Nat} (h : ∀ p, p < P → C p = D p) : MDt N P bk kd wd n C = MDt N P bk kd wd n D := by
  unfold MDt
  rw [LSt_congr h, sup_congr (fun a _ => sup_congr (fun p hp => LSt_congr (D := up D p (D p ||| 2 ^ a)) (fun q hq => by
    by_cases e : q = p
    · rw [e, up_at, up_at, h p hp]
    · rw [up_ne e, up_ne e, h q hq])))]
theorem MBt_congr {N P n : Nat} {bk kd wd : Nat → Nat} {C D : Nat → Nat} (h : ∀ p, p < P → C p = D p) : MBt N P bk kd wd n C = MBt N P bk kd wd n D := by
  unfold MBt
  rw [brg_congr h, MDt_congr h]
theorem LSt_le {N P n : Nat} {bk kd wd : Nat → Nat} {C : Nat → Nat} (hP : 1 ≤ P) (hw : ∀ a, a < N → wd a ≤ 9) : LSt N P bk kd wd n C ≤ 99 := by
  unfold LSt
  split
  · exact Nat.le_trans (brg_le hP hw) (by omega)
  · exact inf_le_b _ _ _
theorem MDt_le {N P n : Nat} {bk kd wd : Nat → Nat} {C : Nat → Nat} (hP : 1 ≤ P) (hw : ∀ a, a < N → wd a ≤ 9) : MDt N P bk kd wd n C ≤ 99 := Nat.max_le.mpr ⟨LSt_le hP hw, sup_le (fun _ _ => sup_le (fun _ _ => LSt_le hP hw))⟩
theorem MBt_le {N P n : Nat} {bk kd wd : Nat → Nat} {C : Nat → Nat} (hP : 1 ≤ P) (hw : ∀ a, a < N → wd a ≤ 9) : MBt N P bk kd wd n C ≤ 99 := by
  unfold MBt
  split
  · exact Nat.le_trans (brg_le hP hw) (by omega)
  · exact MDt_le hP hw
theorem sup_s (n : Nat) (f : Nat → Nat) : sup (n + 1) f = max (sup n f) (f n) := rfl
theorem inf_s (b n : Nat) (f : Nat → Nat) : inf b (n + 1) f = min (inf b n f) (f n) := rfl
theorem sup_swap (n m : Nat) (f : Nat → Nat → Nat) : sup n (fun a => sup m (fun b => f a b)) = sup m (fun b => sup n (fun a => f a b)) := by
  apply Nat.le_antisymm
  · exact sup_le (fun a ha => sup_le (fun b hb => Nat.le_trans (le_sup (f := fun a => f a b) ha) (le_sup (f := fun b => sup n (fun a => f a b)) hb)))
  · exact sup_le (fun b hb => sup_le (fun a ha => Nat.le_trans (le_sup (f := fun b => f a b) hb) (le_sup (f := fun a => sup m (fun b => f a b)) ha)))
theorem copy9 {fu : Nat} {t w : Nat → Int32} {r19 : Int32 → Int32 → (Nat → Int32) → Option (Int32 × (Nat → Int32))} {l2 l3 : Int32} : ∀ (m k n : Nat) (v : Nat → Int32), 66 = k + m → m < n → (∀ j, j < k → v j = w j) → ∃ v', (∀ j, j < 66 → v' j = w j) ∧ fX9_breaksAgain_b32 fu t w r19 n l2 l3 (nI k) v = (fX9_allBroken fu v' l3).bind fun g6 => (fX9_bridge fu t g6).bind fun v7 => (fX9_min fu l2 v7).bind fun v8 => r19 v8 (l3 + 1) g6 := by
  intro m
  induction m with
  | zero =>
    intro k n v e hn hv
    obtain ⟨n, rfl⟩ : ∃ n', n = n' + 1 := ⟨n - 1, by omega⟩
    refine ⟨v, fun j hj => hv j (by omega), ?_⟩
    show fX9_breaksAgain_b32_body fu t w r19 _ _ _ _ _ = _
    unfold fX9_breaksAgain_b32_body
    rw [if_pos (show 66 ≤ nI k from nI_le (a := 66) (by omega) (by omega))]
  | succ m ih =>
    intro k n v e hn hv
    obtain ⟨n, rfl⟩ : ∃ n', n = n' + 1 := ⟨n - 1, by omega⟩
    obtain ⟨v', h1, h2⟩ := ih (k + 1) n (upd v k (w k)) (by omega) (by omega) (fun j hj => by
      by_cases q : j = k
      · rw [q, upd_at]
      · rw [upd_ne q]; exact hv j (by omega))
    refine ⟨v', h1, ?_⟩
    show fX9_breaksAgain_b32_body fu t w r19 _ _ _ _ _ = _
    unfold fX9_breaksAgain_b32_body
    rw [if_neg (show ¬ 66 ≤ nI k from nI_ge (b := 66) (by omega) (by omega)), bdS (rdN (by omega) (by decide)), bdS (wrN (by omega) (by decide)), ← nI_succ]
    exact h2
theorem again9 {N P n : Nat} {bk kd wd sl : Nat → Nat} {t w v : Nat → Int32} {fu : Nat} (hfu : 67 ≤ fu) (hT : TR N P bk kd wd sl t) (hn : n = 2 ∨ n = 3) : ∃ v', fX9_breaksAgain fu t w v (nI n) = some (nI (LSt N P bk kd wd n (cs N w)), v') := by
  obtain ⟨hP1, hP8, hN⟩ := hT.1.2.2
  have hw9 : ∀ a, a < N → wd a ≤ 9 := fun a ha => (hT.wf.2 a ha).2.2.1.2
  unfold fX9_breaksAgain
  rcases hn with rfl | rfl
  · exact ⟨v, by rw [if_pos (show nI 2 = 2 from rfl), bdS (bridge9 hT (by omega))]; rfl⟩
  rw [if_neg (show ¬ nI 3 = 2 by decide)]
  have : ∃ r : Int32 × (Nat → Int32), fX9_breaksAgain_b19 fu t w fu 99 0 v = some r ∧ r.1 = nI (LSt N P bk kd wd 3 (cs N w)) := by
    refine lpI (N := N) (k0 := 0) (F := fun m c v => fX9_breaksAgain_b19 fu t w m (nI (inf 99 c (fun c => brg N P bk kd wd (fun p => cut (cs N w p) (2 ^ c))))) (nI c) v) (I := fun _ _ => True) ?_ ?_ N 0 fu v (Nat.le_refl _) trivial (by omega) (by omega)
    · intro m v _
      refine ⟨(nI (LSt N P bk kd wd 3 (cs N w)), v), ?_, rfl⟩
      show fX9_breaksAgain_b19_body fu t w _ _ _ _ = some (nI (LSt N P bk kd wd 3 (cs N w)), v)
      unfold fX9_breaksAgain_b19_body
      rw [bdS hT.n, if_pos (nI_le (by omega) (by omega))]
      rfl
    · intro m c v _ hc _
      right
      obtain ⟨v', h1, h2⟩ := copy9 (fu := fu) (t := t) (w := w) (r19 := fX9_breaksAgain_b19 fu t w m) (l2 := nI (inf 99 c (fun c => brg N P bk kd wd (fun p => cut (cs N w p) (2 ^ c))))) (l3 := nI c) 66 0 fu v (by omega) (by omega) (fun j hj => by omega)
      have hb := brg_le (N := N) (P := P) (bk := bk) (kd := kd) (wd := wd) (C := fun p => cut (cs N w p) (2 ^ c)) hP1 hw9
      have hi := inf_le_b 99 c (fun c => brg N P bk kd wd (fun p => cut (cs N w p) (2 ^ c)))
      have eb : brg N P bk kd wd (cs N (brk v' c)) = brg N P bk kd wd (fun p => cut (cs N w p) (2 ^ c)) := brg_congr (fun p hp => by rw [cs_brk hN (by omega), cs_congr hN (by omega) h1])
      refine ⟨brk v' c, trivial, ?_⟩
      show fX9_breaksAgain_b19_body fu t w _ _ _ _ = _
      unfold fX9_breaksAgain_b19_body
      rw [bdS hT.n, if_neg (nI_ge (by omega) (by omega))]
      refine h2.trans ?_
      rw [bdS (broken9 (by omega) (by omega)), bdS (bridge9 hT (by omega)), eb, bdS (mxmn9 (by omega) (by omega)).2, ← nI_succ]
      rfl
  obtain ⟨⟨r1, r2⟩, h1, h2⟩ := this
  refine ⟨r2, ?_⟩
  rw [h1]
  simp only at h2
  rw [h2]
theorem cs_add {N a p q : Nat} {w : Nat → Int32} (ha : a < N) (hN : N ≤ 8) (hp : p < 8) (hq : q < 8) : cs N (upd w (2 + 8 * a + p) (-1)) q = up (cs N w) p (cs N w p ||| 2 ^ a) q := by
  by_cases e : q = p
  · subst e
    rw [up_at]
    refine mkS_upd ha (fun i hi hia => ?_) ?_
    · rw [upd_ne (by omega)]
    · rw [upd_at]; rfl
  · rw [up_ne e]
    exact mkS_congr (fun i hi => by rw [upd_ne (by omega)])
theorem mends_in {N P n a x : Nat} {bk kd wd sl : Nat → Nat} {t w : Nat → Int32} {fu : Nat} {r8 : Int32 → Int32 → Int32 → (Nat → Int32) → (Nat → Int32) → Option (Int32 × (Nat → Int32) × (Nat → Int32))} (hfu : 67 ≤ fu) (hT : TR N P bk kd wd sl t) (hn : n = 2 ∨ n = 3) (ha : a < N) (hx : x ≤ 99) : ∀ (m k l : Nat) (v : Nat → Int32), P = k + m → m < l → ∃ v', fX9_mends_b21 fu t r8 l (nI n) (nI (max x (sup k (fun p => LSt N P bk kd wd n (up (cs N w) p (cs N w p ||| 2 ^ a)))))) (nI a) (nI k) w v = r8 (nI n) (nI (max x (sup P (fun p => LSt N P bk kd wd n (up (cs N w) p (cs N w p ||| 2 ^ a)))))) (nI (a + 1)) w v' := by
  obtain ⟨hP1, hP8, hN⟩ := hT.1.2.2
  have hw9 : ∀ a, a < N → wd a ≤ 9 := fun a ha => (hT.wf.2 a ha).2.2.1.2
  intro m
  induction m with
  | zero =>
    intro k l v e hl
    obtain ⟨l, rfl⟩ : ∃ l', l = l' + 1 := ⟨l - 1, by omega⟩
    refine ⟨v, ?_⟩
    show fX9_mends_b21_body fu t r8 _ _ _ _ _ _ _ = _
    unfold fX9_mends_b21_body
    rw [bdS hT.p, if_pos (nI_le (by omega) (by omega)), ← nI_succ, show k = P by omega]
  | succ m ih =>
    intro k l v e hl
    obtain ⟨l, rfl⟩ : ∃ l', l = l' + 1 := ⟨l - 1, by omega⟩
    obtain ⟨v1, h1⟩ := again9 (v := v) (w := upd w (2 + 8 * a + k) (-1)) hfu hT hn
    have e1 : LSt N P bk kd wd n (cs N (upd w (2 + 8 * a + k) (-1))) = LSt N P bk kd wd n (up (cs N w) k (cs N w k ||| 2 ^ a)) := LSt_congr (fun q hq => cs_add ha hN (by omega) (by omega))
    obtain ⟨v', h2⟩ := ih (k + 1) l v1 (by omega) (by omega)
    refine ⟨v', ?_⟩
    have b1 := LSt_le (N := N) (P := P) (n := n) (bk := bk) (kd := kd) (wd := wd) (C := up (cs N w) k (cs N w k ||| 2 ^ a)) hP1 hw9
    have b2 : sup k (fun p => LSt N P bk kd wd n (up (cs N w) p (cs N w p ||| 2 ^ a))) ≤ 99 := sup_le (fun _ _ => LSt_le hP1 hw9)
    show fX9_mends_b21_body fu t r8 _ _ _ _ _ _ _ = _
    unfold fX9_mends_b21_body
    rw [bdS hT.p, if_neg (nI_ge (by omega) (by omega)), ix9, bdS (rdN (by omega) (by decide)), bdS (wrN (by omega) (by decide)), h1]
    show ((fX9_max fu _ (nI (LSt N P bk kd wd n (cs N (upd w (2 + 8 * a + k) (-1)))))).bind _) = _
    rw [e1, bdS (mxmn9 (by omega) (by omega)).1, bdS (wrN (by omega) (by decide)), upd_back, ← nI_succ, Nat.max_assoc]
    exact h2
theorem mends9 {N P n : Nat} {bk kd wd sl : Nat → Nat} {t w v : Nat → Int32} {fu : Nat} (hfu : 67 ≤ fu) (hT : TR N P bk kd wd sl t) (hn : n = 2 ∨ n = 3) : ∃ v', fX9_mends fu t w v (nI n) = some (nI (MDt N P bk kd wd n (cs N w)), w, v') := by
  obtain ⟨hP1, hP8, hN⟩ := hT.1.2.2
  have hw9 : ∀ a, a < N → wd a ≤ 9 := fun a ha => (hT.wf.2 a ha).2.2.1.2
  obtain ⟨v1, h1⟩ := again9 (v := v) (w := w) hfu hT hn
  unfold fX9_mends
  rw [h1]
  show ∃ v', fX9_mends_b8 fu t fu (nI n) (nI (LSt N P bk kd wd n (cs N w))) 0 w v1 = _
  have : ∃ r : Int32 × (Nat → Int32) × (Nat → Int32), fX9_mends_b8 fu t fu (nI n) (nI (max (LSt N P bk kd wd n (cs N w)) (sup 0 (fun a => sup P (fun p => LSt N P bk kd wd n (up (cs N w) p (cs N w p ||| 2 ^ a))))))) 0 w v1 = some r ∧ r.1 = nI (MDt N P bk kd wd n (cs N w)) ∧ r.2.1 = w := by
    refine lpI (N := N) (k0 := 0) (F := fun m a v => fX9_mends_b8 fu t m (nI n) (nI (max (LSt N P bk kd wd n (cs N w)) (sup a (fun a => sup P (fun p => LSt N P bk kd wd n (up (cs N w) p (cs N w p ||| 2 ^ a))))))) (nI a) w v) (I := fun _ _ => True) ?_ ?_ N 0 fu v1 (Nat.le_refl _) trivial (by omega) (by omega)
    · intro m v _
      refine ⟨(nI (MDt N P bk kd wd n (cs N w)), w, v), ?_, rfl, rfl⟩
      show fX9_mends_b8_body fu t _ _ _ _ _ _ = _
      unfold fX9_mends_b8_body
      rw [bdS hT.n, if_pos (nI_le (by omega) (by omega))]
      rfl
    · intro m a v _ ha _
      right
      have b1 : max (LSt N P bk kd wd n (cs N w)) (sup a (fun a => sup P (fun p => LSt N P bk kd wd n (up (cs N w) p (cs N w p ||| 2 ^ a))))) ≤ 99 := Nat.max_le.mpr ⟨LSt_le hP1 hw9, sup_le (fun _ _ => sup_le (fun _ _ => LSt_le hP1 hw9))⟩
      obtain ⟨v', h2⟩ := mends_in (r8 := fX9_mends_b8 fu t m) (w := w) (x := max (LSt N P bk kd wd n (cs N w)) (sup a (fun a => sup P (fun p => LSt N P bk kd wd n (up (cs N w) p (cs N w p ||| 2 ^ a)))))) hfu hT hn ha b1 P 0 fu v (by omega) (by omega)
      refine ⟨v', trivial, ?_⟩
      show fX9_mends_b8_body fu t _ _ _ _ _ _ = _
      unfold fX9_mends_b8_body
      rw [bdS hT.n, if_neg (nI_ge (by omega) (by omega))]
      rw [show sup 0 (fun p => LSt N P bk kd wd n (up (cs N w) p (cs N w p ||| 2 ^ a))) = 0 from rfl, Nat.max_zero] at h2
      refine h2.trans ?_
      rw [Nat.max_assoc]
      rfl
  obtain ⟨⟨r1, r2, r3⟩, k1, k2, k3⟩ := this
  rw [show sup 0 (fun a => sup P (fun p => LSt N P bk kd wd n (up (cs N w) p (cs N w p ||| 2 ^ a)))) = 0 from rfl, Nat.max_zero] at k1
  simp only at k2 k3
  refine ⟨r3, ?_⟩
  rw [k1, k2, k3]
theorem turns9 {N P n : Nat} {bk kd wd sl : Nat → Nat} {t r w v : Nat → Int32} {fu : Nat} (hfu : 67 ≤ fu) (hT : TR N P bk kd wd sl t) (hn : 1 ≤ n ∧ n ≤ 3) : ∃ w' v', fX9_byTurns_b54 fu t r fu (nI n) (nI N) 99 0 w v 0 = some (nI (inf 99 N (fun a => MBt N P bk kd wd n (fun p => cut (cs N r p) (2 ^ a)))), w', v', 0) := by
  obtain ⟨hP1, hP8, hN⟩ := hT.1.2.2
  have hw9 : ∀ a, a < N → wd a ≤ 9 := fun a ha => (hT.wf.2 a ha).2.2.1.2
  have : ∃ z : Int32 × (Nat → Int32) × (Nat → Int32) × Int32, fX9_byTurns_b54 fu t r fu (nI n) (nI N) 99 0 w v 0 = some z ∧ z.1 = nI (inf 99 N (fun a => MBt N P bk kd wd n (fun p => cut (cs N r p) (2 ^ a)))) ∧ z.2.2.2 = 0 := by
    refine lpI (N := N) (k0 := 0) (F := fun m a (y : (Nat → Int32) × (Nat → Int32)) => fX9_byTurns_b54 fu t r m (nI n) (nI N) (nI (inf 99 a (fun a => MBt N P bk kd wd n (fun p => cut (cs N r p) (2 ^ a))))) (nI a) y.1 y.2 0) (I := fun _ _ => True) ?_ ?_ N 0 fu (w, v) (Nat.le_refl _) trivial (by omega) (by omega)
    · intro m y _
      refine ⟨(nI (inf 99 N (fun a => MBt N P bk kd wd n (fun p => cut (cs N r p) (2 ^ a)))), y.1, y.2, 0), ?_, rfl, rfl⟩
      show fX9_byTurns_b54_body fu t r _ _ _ _ _ _ _ _ = _
      unfold fX9_byTurns_b54_body
      rw [if_pos (nI_le (by omega) (by omega))]
    · rintro m a ⟨y1, y2⟩ _ ha _
      right
      obtain ⟨w1, h1, h2⟩ := asNow9 (fu := fu) (r := r) (w := y1) hfu
      have hi := inf_le_b 99 a (fun a => MBt N P bk kd wd n (fun p => cut (cs N r p) (2 ^ a)))
      have hmb := MBt_le (N := N) (P := P) (n := n) (bk := bk) (kd := kd) (wd := wd) (C := fun p => cut (cs N r p) (2 ^ a)) hP1 hw9
      have em : MBt N P bk kd wd n (cs N (brk w1 a)) = MBt N P bk kd wd n (fun p => cut (cs N r p) (2 ^ a)) := MBt_congr (fun p hp => by rw [cs_brk hN (by omega), cs_congr hN (by omega) h2])
      by_cases e1 : n = 1
      · refine ⟨(brk w1 a, y2), trivial, ?_⟩
        show fX9_byTurns_b54_body fu t r _ _ _ _ _ _ _ _ = _
        unfold fX9_byTurns_b54_body fX9_byTurns_b96
        have eb : brg N P bk kd wd (cs N (brk w1 a)) = MBt N P bk kd wd n (fun p => cut (cs N r p) (2 ^ a)) := by rw [← em]; unfold MBt; rw [if_pos e1]
        rw [if_neg (nI_ge (by omega) (by omega)), bdS h1, bdS (broken9 (by omega) (by omega)), if_pos (show nI n = 1 by rw [e1]; rfl), bdS (bridge9 hT (by omega)), eb, bdS (mxmn9 (by omega) (by omega)).2, ← nI_succ]
        rfl
      · obtain ⟨v', h3⟩ := mends9 (v := y2) (w := brk w1 a) (n := n) hfu hT (by omega)
        have eb : MDt N P bk kd wd n (cs N (brk w1 a)) = MBt N P bk kd wd n (fun p => cut (cs N r p) (2 ^ a)) := by rw [← em]; unfold MBt; rw [if_neg e1]
        refine ⟨(brk w1 a, v'), trivial, ?_⟩
        show fX9_byTurns_b54_body fu t r _ _ _ _ _ _ _ _ = _
        unfold fX9_byTurns_b54_body fX9_byTurns_b96
        rw [if_neg (nI_ge (by omega) (by omega)), bdS h1, bdS (broken9 (by omega) (by omega)), if_neg (show ¬ nI n = 1 from fun q => e1 (nI_inj (by omega) (by omega) q)), h3, eb]
        show ((fX9_min fu _ _).bind _) = _
        rw [bdS (mxmn9 (by omega) (by omega)).2, ← nI_succ]
        rfl
  obtain ⟨⟨r1, r2, r3, r4⟩, k1, k2, k3⟩ := this
  simp only at k2 k3
  exact ⟨r2, r3, by rw [k1, k2, k3]⟩
-- the class's side
theorem cut_00 {N : Nat} {C : Nat → Nat} (hN : N ≤ 8) {p : Nat} (h : C p < 2 ^ N) : cut (C p) 0 = C p := cut_0 (Nat.lt_of_lt_of_le h (pow8 hN))
theorem br0 {N P : Nat} {bk kd wd : Nat → Nat} {borne came : Nat → Int32} {planks : Int32} {fu : Nat} {C : Nat → Nat} (hfu : 9 ≤ fu) (hB : BT N bk kd wd borne) (hN : N ≤ 8) (hP : 1 ≤ P ∧ P ≤ 8) (hpl : planks = nI P) (hC : ∀ p, p < 8 → came p = nI (C p) ∧ C p < 2 ^ N) (hw : ∀ a, a < N → wd a ≤ 9) : fX7_bridge fu came borne planks 0 = some (nI (brg N P bk kd wd C)) := by
  have := bridgeX (g := 0) hfu hB hN hP hpl hC hw
  rw [brg_congr (D := C) (fun p hp => cut_00 hN (hC p (by omega)).2)] at this
  exact this
theorem lastX {N P n fl : Nat} {bk kd wd : Nat → Nat} {borne came : Nat → Int32} {planks size tu : Int32} {fu : Nat} {C : Nat → Nat} (hfu : 9 ≤ fu) (hB : BT N bk kd wd borne) (hN : N ≤ 8) (hN1 : 1 ≤ N) (hP : 1 ≤ P ∧ P ≤ 8) (hpl : planks = nI P) (hsz : size = nI N) (hC : ∀ p, p < 8 → came p = nI (C p) ∧ C p < 2 ^ N) (hw : ∀ a, a < N → wd a ≤ 9) (hfl : fl ≤ 99) (htu : (tu = 0 ∧ n = 2) ∨ (tu = 1 ∧ n = 3)) : ∃ y, fX1_brokenLast fu came borne planks size tu (nI fl) = some y ∧ ∃ v, y = nI v ∧ v ≤ 99 ∧ max fl v = max fl (LSt N P bk kd wd n C) := by
  unfold fX1_brokenLast
  rcases htu with ⟨rfl, rfl⟩ | ⟨rfl, rfl⟩
  · rw [if_neg (by decide), bdS (br0 hfu hB hN hP hpl hC hw)]
    exact ⟨_, rfl, _, rfl, Nat.le_trans (brg_le hP.1 hw) (by omega), rfl⟩
  rw [if_pos (by decide)]
  have e36 : LSt N P bk kd wd 3 C = inf 36 N (fun c => brg N P bk kd wd (fun p => cut (C p) (2 ^ c))) := (inf_36 hN1 (fun c _ => brg_le hP.1 hw)).symm
  rw [e36]
  refine lpI (N := N) (k0 := 0) (F := fun m c (_ : Unit) => fX1_brokenLast_b23 fu came borne planks size m (nI fl) (nI (inf 36 c (fun c => brg N P bk kd wd (fun p => cut (C p) (2 ^ c))))) (nI c)) (I := fun _ _ => True) ?_ ?_ N 0 fu () (Nat.le_refl _) trivial (by omega) (by omega)
  · intro m _ _
    refine ⟨_, ?_, _, rfl, Nat.le_trans (inf_le_b _ _ _) (by omega), rfl⟩
    show fX1_brokenLast_b23_body fu came borne planks size _ _ _ _ = _
    unfold fX1_brokenLast_b23_body
    rw [hsz, if_pos (nI_le (by omega) (by omega))]
  · intro m c _ _ hc _
    have hi := inf_le_b 36 c (fun c => brg N P bk kd wd (fun p => cut (C p) (2 ^ c)))
    have hb := brg_le (N := N) (P := P) (bk := bk) (kd := kd) (wd := wd) (C := fun p => cut (C p) (2 ^ c)) hP.1 hw
    by_cases h : inf 36 c (fun c => brg N P bk kd wd (fun p => cut (C p) (2 ^ c))) ≤ fl
    · left
      refine ⟨_, ?_, _, rfl, Nat.le_trans hi (by omega), ?_⟩
      · show fX1_brokenLast_b23_body fu came borne planks size _ _ _ _ = _
        unfold fX1_brokenLast_b23_body
        rw [hsz, if_neg (nI_ge (by omega) (by omega)), if_pos (nI_le h (by omega))]
      · have : inf 36 N (fun c => brg N P bk kd wd (fun p => cut (C p) (2 ^ c))) ≤ inf 36 c (fun c => brg N P bk kd wd (fun p => cut (C p) (2 ^ c))) := le_inf (inf_le_b _ _ _) (fun i hi => inf_le (by omega))
        omega
    · right
      refine ⟨(), trivial, ?_⟩
      show fX1_brokenLast_b23_body fu came borne planks size _ _ _ _ = _
      unfold fX1_brokenLast_b23_body
      rw [hsz, if_neg (nI_ge (by omega) (by omega)), if_neg (nI_ge (by omega) (by omega)), nI_shl (by omega), bdS (bridgeX hfu hB hN hP hpl hC hw), mnN (by omega) (by omega), ← nI_succ]
      rfl
theorem or_lt {N a c : Nat} (ha : a < N) (hc : c < 2 ^ N) : c ||| 2 ^ a < 2 ^ N := Nat.or_lt_two_pow hc (Nat.pow_lt_pow_right (by omega) ha)
theorem or_has {a c : Nat} (h : c.testBit a = true) : c ||| 2 ^ a = c := by
  apply Nat.eq_of_testBit_eq
  intro i
  rw [Nat.testBit_or, Nat.testBit_two_pow]
  by_cases e : a = i
  · subst e; simp [h]
  · simp [e]
theorem mend_in {N P n k x : Nat} {bk kd wd : Nat → Nat} {borne : Nat → Int32} {planks size l1 : Int32} {fu : Nat} {C : Nat → Nat} {r28 : Int32 → Int32 → Int32 → (Nat → Int32) → Option (Int32 × (Nat → Int32))} (hfu : 9 ≤ fu) (hB : BT N bk kd wd borne) (hN : N ≤ 8) (hN1 : 1 ≤ N) (hP : 1 ≤ P ∧ P ≤ 8) (hpl : planks = nI P) (hsz : size = nI N) (hC : ∀ p, p < 8 → C p < 2 ^ N) (hw : ∀ a, a < N → wd a ≤ 9) (htu : (l1 - 1 = 0 ∧ n = 2) ∨ (l1 - 1 = 1 ∧ n = 3)) (hk : k < P) (hx : x ≤ 99) (hxl : LSt N P bk kd wd n C ≤ x) : ∀ (m b l : Nat) (cur : Nat → Int32), N = b + m → m < l → (∀ j, j < 8 → j ≠ k → cur j = nI (C j)) → ∃ cur', (∀ j, j < 8 → cur' j = nI (C j)) ∧ fX1_mended_b53 fu borne planks size r28 l l1 (nI (max x (sup b (fun b => LSt N P bk kd wd n (up C k (C k ||| 2 ^ b)))))) (nI k) (nI (C k)) (nI b) cur = r28 l1 (nI (max x (sup N (fun b => LSt N P bk kd wd n (up C k (C k ||| 2 ^ b)))))) (nI (k + 1)) cur' := by
  have h8 := pow8 hN
  intro m
  induction m with
  | zero =>
    intro b l cur e hl hcur
    obtain ⟨l, rfl⟩ : ∃ l', l = l' + 1 := ⟨l - 1, by omega⟩
    refine ⟨upd cur k (nI (C k)), ?_, ?_⟩
    · intro j hj
      by_cases q : j = k
      · rw [q, upd_at]
      · rw [upd_ne q]; exact hcur j hj q
    · show fX1_mended_b53_body fu borne planks size r28 _ _ _ _ _ _ _ = _
      unfold fX1_mended_b53_body
      rw [hsz, if_pos (nI_le (by omega) (by omega)), bdS (wrN (by omega) (by decide)), ← nI_succ, show b = N by omega]
  | succ m ih =>
    intro b l cur e hl hcur
    obtain ⟨l, rfl⟩ : ∃ l', l = l' + 1 := ⟨l - 1, by omega⟩
    have hck := hC k (by omega)
    have b2 : sup b (fun b => LSt N P bk kd wd n (up C k (C k ||| 2 ^ b))) ≤ 99 := sup_le (fun _ _ => LSt_le hP.1 hw)
    by_cases hb : (C k).testBit b = true
    · obtain ⟨cur', h1, h2⟩ := ih (b + 1) l cur (by omega) (by omega) hcur
      refine ⟨cur', h1, ?_⟩
      have e0 : LSt N P bk kd wd n (up C k (C k ||| 2 ^ b)) = LSt N P bk kd wd n C := by rw [or_has hb, up_self]
      rw [← h2]
      show fX1_mended_b53_body fu borne planks size r28 _ _ _ _ _ _ _ = _
      unfold fX1_mended_b53_body
      rw [hsz, if_neg (nI_ge (by omega) (by omega)), bdS (has8 (by omega) (by omega)), hb, if_neg (show ¬ bI true = 0 by decide), ← nI_succ, sup_s, e0]
      rw [show max x (max (sup b (fun b => LSt N P bk kd wd n (up C k (C k ||| 2 ^ b)))) (LSt N P bk kd wd n C)) = max x (sup b (fun b => LSt N P bk kd wd n (up C k (C k ||| 2 ^ b)))) by omega]
    · have hb' : (C k).testBit b = false := by simpa using hb
      have hC' : ∀ p, p < 8 → upd cur k (nI (C k ||| 2 ^ b)) p = nI (up C k (C k ||| 2 ^ b) p) ∧ up C k (C k ||| 2 ^ b) p < 2 ^ N := by
        intro p hp
        by_cases q : p = k
        · rw [q, upd_at, up_at]; exact ⟨rfl, or_lt (by omega) hck⟩
        · rw [upd_ne q, up_ne q]; exact ⟨hcur p hp q, hC p hp⟩
      obtain ⟨y, h3, v, rfl, hv, h4⟩ := lastX (n := n) (fl := max x (sup b (fun b => LSt N P bk kd wd n (up C k (C k ||| 2 ^ b))))) hfu hB hN hN1 hP hpl hsz hC' hw (by omega) htu
      obtain ⟨cur', h1, h2⟩ := ih (b + 1) l (upd cur k (nI (C k ||| 2 ^ b))) (by omega) (by omega) (fun j hj q => by rw [upd_ne q]; exact hcur j hj q)
      refine ⟨cur', h1, ?_⟩
      rw [← h2]
      show fX1_mended_b53_body fu borne planks size r28 _ _ _ _ _ _ _ = _
      unfold fX1_mended_b53_body
      rw [if_neg (show ¬ size ≤ nI b by rw [hsz]; exact nI_ge (by omega) (by omega)), bdS (has8 (by omega) (by omega)), hb', if_pos (show bI false = 0 by decide), nI_shl (by omega), nI_or, bdS (wrN (by omega) (by decide)), bdS h3, mxN (by omega) (by omega), h4, ← nI_succ, sup_s, Nat.max_assoc]
theorem mendX {N P n : Nat} {bk kd wd : Nat → Nat} {borne came : Nat → Int32} {planks size l1 : Int32} {fu : Nat} {C : Nat → Nat} (hfu : 9 ≤ fu) (hB : BT N bk kd wd borne) (hN : N ≤ 8) (hN1 : 1 ≤ N) (hP : 1 ≤ P ∧ P ≤ 8) (hpl : planks = nI P) (hsz : size = nI N) (hC : ∀ p, p < 8 → came p = nI (C p) ∧ C p < 2 ^ N) (hw : ∀ a, a < N → wd a ≤ 9) (htu : (l1 = 0 ∧ n = 1) ∨ (l1 = 1 ∧ n = 2) ∨ (l1 = 2 ∧ n = 3)) : ∃ came', fX1_mended fu borne planks size came l1 = some (nI (MBt N P bk kd wd n C), came') := by
  have h8 := pow8 hN
  unfold fX1_mended
  by_cases e1 : n = 1
  · have : l1 = 0 := by rcases htu with ⟨h, -⟩ | ⟨-, h⟩ | ⟨-, h⟩ <;> first | exact h | omega
    refine ⟨came, ?_⟩
    unfold MBt
    rw [this, if_neg (show ¬ (0 : Int32) < 0 by decide), bdS (br0 hfu hB hN hP hpl hC hw), if_pos e1]
  have htu' : (l1 - 1 = 0 ∧ n = 2) ∨ (l1 - 1 = 1 ∧ n = 3) := by
    rcases htu with ⟨-, h⟩ | ⟨h, h'⟩ | ⟨h, h'⟩
    · omega
    · left; rw [h]; exact ⟨by decide, h'⟩
    · right; rw [h]; exact ⟨by decide, h'⟩
  have hpos : 0 < l1 := by
    rcases htu with ⟨-, h⟩ | ⟨h, h'⟩ | ⟨h, h'⟩
    · omega
    · rw [h]; decide
    · rw [h]; decide
  obtain ⟨y, h3, v, rfl, hv, h4⟩ := lastX (n := n) (fl := 0) hfu hB hN hN1 hP hpl hsz hC hw (by omega) htu'
  have hv : v = LSt N P bk kd wd n C := by omega
  subst hv
  rw [if_pos hpos, bdS (show fX1_brokenLast fu came borne planks size (l1 - 1) 0 = _ from h3)]
  have : ∃ z : Int32 × (Nat → Int32), fX1_mended_b28 fu borne planks size fu l1 (nI (max (LSt N P bk kd wd n C) (sup 0 (fun p => sup N (fun b => LSt N P bk kd wd n (up C p (C p ||| 2 ^ b))))))) 0 came = some z ∧ z.1 = nI (MBt N P bk kd wd n C) := by
    refine lpI (N := P) (k0 := 0) (F := fun m p cur => fX1_mended_b28 fu borne planks size m l1 (nI (max (LSt N P bk kd wd n C) (sup p (fun p => sup N (fun b => LSt N P bk kd wd n (up C p (C p ||| 2 ^ b))))))) (nI p) cur) (I := fun _ cur => ∀ j, j < 8 → cur j = nI (C j)) ?_ ?_ P 0 fu came (Nat.le_refl _) (fun j hj => (hC j hj).1) (by omega) (by omega)
    · intro m cur _
      refine ⟨(nI (MBt N P bk kd wd n C), cur), ?_, rfl⟩
      show fX1_mended_b28_body fu borne planks size _ _ _ _ _ = _
      unfold fX1_mended_b28_body MBt MDt
      rw [hpl, if_pos (nI_le (by omega) (by omega)), if_neg e1, sup_swap P N (fun p b => LSt N P bk kd wd n (up C p (C p ||| 2 ^ b)))]
    · intro m k cur _ hk hI
      right
      have b1 : max (LSt N P bk kd wd n C) (sup k (fun p => sup N (fun b => LSt N P bk kd wd n (up C p (C p ||| 2 ^ b))))) ≤ 99 := Nat.max_le.mpr ⟨LSt_le hP.1 hw, sup_le (fun _ _ => sup_le (fun _ _ => LSt_le hP.1 hw))⟩
      obtain ⟨cur', h1, h2⟩ := mend_in (r28 := fX1_mended_b28 fu borne planks size m) (l1 := l1) (k := k) (x := max (LSt N P bk kd wd n C) (sup k (fun p => sup N (fun b => LSt N P bk kd wd n (up C p (C p ||| 2 ^ b)))))) hfu hB hN hN1 hP hpl hsz (fun p hp => (hC p hp).2) hw htu' hk b1 (by omega) N 0 fu cur (by omega) (by omega) (fun j hj _ => hI j hj)
      refine ⟨cur', h1, ?_⟩
      show fX1_mended_b28_body fu borne planks size _ _ _ _ _ = _
      unfold fX1_mended_b28_body
      rw [if_neg (show ¬ planks ≤ nI k by rw [hpl]; exact nI_ge (by omega) (by omega)), bdS (rdN (by omega) (by decide)), hI k (by omega)]
      rw [show sup 0 (fun b => LSt N P bk kd wd n (up C k (C k ||| 2 ^ b))) = 0 from rfl, Nat.max_zero] at h2
      refine h2.trans ?_
      rw [Nat.max_assoc]
      rfl
  obtain ⟨⟨r1, r2⟩, k1, k2⟩ := this
  rw [show sup 0 (fun p => sup N (fun b => LSt N P bk kd wd n (up C p (C p ||| 2 ^ b)))) = 0 from rfl, Nat.max_zero] at k1
  simp only at k2
  exact ⟨r2, by rw [k1, k2]⟩
theorem breakX {N P d x a : Nat} {came under due w : Nat → Int32} {planks : Int32} {fu : Nat} (hfu : 9 ≤ fu) (hN : N ≤ 8) (hP : P ≤ 8) (hpl : planks = nI P) (ha : a < N) (hR : PR N P d x came under due w) : ∃ z : (Nat → Int32) × (Nat → Int32), fX1_breakAll fu planks came under (nI a) = some z ∧ PR N P d x z.1 z.2 due (brk w a) := by
  refine lpI (N := P) (k0 := 0) (F := fun m k (y : (Nat → Int32) × (Nat → Int32)) => fX1_breakAll_b2 fu planks m (nI a) (nI k) y.1 y.2) (I := fun k y => PR N P d x y.1 y.2 due (fun j => if 2 + 8 * a ≤ j ∧ j < 2 + 8 * a + k then 0 else w j)) ?_ ?_ P 0 fu (came, under) (Nat.le_refl _) (PR_congr hN hR (fun _ _ => rfl) (fun _ _ => rfl) (fun _ _ => rfl) (fun j _ => if_neg (by omega))) (by omega) (by omega)
  · rintro m ⟨y1, y2⟩ hI
    refine ⟨(y1, y2), ?_, ?_⟩
    · show fX1_breakAll_b2_body fu planks _ _ _ _ _ = _
      unfold fX1_breakAll_b2_body
      rw [hpl, if_pos (nI_le (by omega) (by omega))]
    · refine PR_congr hN hI (fun _ _ => rfl) (fun _ _ => rfl) (fun _ _ => rfl) (fun j hj => ?_)
      show brk w a j = _
      unfold brk
      by_cases h1 : 2 + 8 * a ≤ j ∧ j < 2 + 8 * a + P
      · rw [if_pos (show 2 + 8 * a ≤ j ∧ j < 10 + 8 * a by omega)]
        show 0 = if 2 + 8 * a ≤ j ∧ j < 2 + 8 * a + P then 0 else w j
        rw [if_pos h1]
      · show _ = if 2 + 8 * a ≤ j ∧ j < 2 + 8 * a + P then 0 else w j
        rw [if_neg h1]
        by_cases h2 : 2 + 8 * a ≤ j ∧ j < 10 + 8 * a
        · rw [if_pos h2]
          have h3 := (hR.2.2 a (j - (2 + 8 * a)) (by omega) (by omega)).2
          rw [show 2 + 8 * a + (j - (2 + 8 * a)) = j by omega] at h3
          by_cases h4 : w j = 0
          · exact h4.symm
          · have := (h3 h4).2; omega
        · rw [if_neg h2]
  · rintro m k ⟨y1, y2⟩ _ hk hI
    right
    have hd := PR_drop hI hN hP ha hk
    refine ⟨(upd y1 k (nI (cut (cs N (fun j => if 2 + 8 * a ≤ j ∧ j < 2 + 8 * a + k then 0 else w j) k) (2 ^ a))), upd y2 k (nI (cut (us N (fun j => if 2 + 8 * a ≤ j ∧ j < 2 + 8 * a + k then 0 else w j) k) (2 ^ a)))), ?_, ?_⟩
    rotate_left
    · show fX1_breakAll_b2_body fu planks _ _ _ _ _ = fX1_breakAll_b2 fu planks m (nI a) (nI (k + 1)) _ _
      unfold fX1_breakAll_b2_body
      rw [hpl, if_neg (nI_ge (by omega) (by omega)), dropX hN (hI.2.1 k (by omega)).1 (hI.2.1 k (by omega)).2 (by omega) (by omega), nI_succ]
      rfl
    · refine PR_congr hN hd (fun _ _ => rfl) (fun _ _ => rfl) (fun _ _ => rfl) (fun j _ => ?_)
      by_cases e : j = 2 + 8 * a + k
      · rw [e, upd_at]
        show (if 2 + 8 * a ≤ 2 + 8 * a + k ∧ 2 + 8 * a + k < 2 + 8 * a + (k + 1) then 0 else _) = 0
        rw [if_pos (by omega)]
      · rw [upd_ne e]
        show (if 2 + 8 * a ≤ j ∧ j < 2 + 8 * a + (k + 1) then 0 else w j) = if 2 + 8 * a ≤ j ∧ j < 2 + 8 * a + k then 0 else w j
        by_cases h1 : 2 + 8 * a ≤ j ∧ j < 2 + 8 * a + k
        · rw [if_pos h1, if_pos (by omega)]
        · rw [if_neg h1, if_neg (by omega)]
theorem turnsX {N P d x n : Nat} {bk kd wd sl : Nat → Nat} {t came under due r bank kind word slow borne tcm tu tdu : Nat → Int32} {planks size sworn l1 td tc : Int32} {fu : Nat} (hfu : 9 ≤ fu) (hT : TR N P bk kd wd sl t) (hF : FR N P bk kd wd sl planks size sworn bank kind word slow) (hB : BT N bk kd wd borne) (hN1 : 1 ≤ N) (hR : PR N P d x came under due r) (htu : (l1 - 1 = 0 ∧ n = 1) ∨ (l1 - 1 = 1 ∧ n = 2) ∨ (l1 - 1 = 2 ∧ n = 3)) {day crossed : Int32} : ∃ z : Int32 × (Nat → Int32) × (Nat → Int32) × (Nat → Int32) × Int32 × Int32, fX1_afterTurns_b32 fu size came borne planks day crossed under due fu l1 36 0 tcm tu tdu td tc = some z ∧ z.1 = nI (inf 99 N (fun a => MBt N P bk kd wd n (fun p => cut (cs N r p) (2 ^ a)))) := by
  obtain ⟨hP1, hP8, hN⟩ := hT.1.2.2
  have hw9 : ∀ a, a < N → wd a ≤ 9 := fun a ha => (hT.wf.2 a ha).2.2.1.2
  have hLS : ∀ C, LSt N P bk kd wd n C ≤ 36 := fun C => by
    unfold LSt
    split
    · exact brg_le hP1 hw9
    · exact Nat.le_trans (inf_le (i := 0) (by omega)) (brg_le hP1 hw9)
  have hMB : ∀ C, MBt N P bk kd wd n C ≤ 36 := fun C => by
    unfold MBt
    split
    · exact brg_le hP1 hw9
    · exact Nat.max_le.mpr ⟨hLS _, sup_le (fun _ _ => sup_le (fun _ _ => hLS _))⟩
  rw [← inf_36 hN1 (fun a _ => hMB _)]
  refine lpI (N := N) (k0 := 0) (F := fun m a (y : (Nat → Int32) × (Nat → Int32) × (Nat → Int32) × Int32 × Int32) => fX1_afterTurns_b32 fu size came borne planks day crossed under due m l1 (nI (inf 36 a (fun a => MBt N P bk kd wd n (fun p => cut (cs N r p) (2 ^ a))))) (nI a) y.1 y.2.1 y.2.2.1 y.2.2.2.1 y.2.2.2.2) (I := fun _ _ => True) ?_ ?_ N 0 fu (tcm, tu, tdu, td, tc) (Nat.le_refl _) trivial (by omega) (by omega)
  · rintro m ⟨y1, y2, y3, y4, y5⟩ _
    refine ⟨(nI (inf 36 N (fun a => MBt N P bk kd wd n (fun p => cut (cs N r p) (2 ^ a)))), y1, y2, y3, y4, y5), ?_, rfl⟩
    show fX1_afterTurns_b32_body fu size came borne planks day crossed under due _ _ _ _ _ _ _ _ _ = _
    unfold fX1_afterTurns_b32_body
    rw [hF.1.2.1, if_pos (nI_le (by omega) (by omega))]
  · rintro m a ⟨y1, y2, y3, y4, y5⟩ _ ha _
    have hi := inf_le_b 36 a (fun a => MBt N P bk kd wd n (fun p => cut (cs N r p) (2 ^ a)))
    by_cases h0 : inf 36 a (fun a => MBt N P bk kd wd n (fun p => cut (cs N r p) (2 ^ a))) = 0
    · left
      refine ⟨(nI (inf 36 N (fun a => MBt N P bk kd wd n (fun p => cut (cs N r p) (2 ^ a)))), y1, y2, y3, y4, y5), ?_, rfl⟩
      show fX1_afterTurns_b32_body fu size came borne planks day crossed under due _ _ _ _ _ _ _ _ _ = _
      unfold fX1_afterTurns_b32_body
      rw [if_neg (show ¬ size ≤ nI a by rw [hF.1.2.1]; exact nI_ge (by omega) (by omega)), if_pos ((le0 (by omega)).mpr h0), inf_zero (n := N) h0 (by omega), h0]
    · right
      have hR1 : PR N P d x (va_cpy came y1 0 0 8) (va_cpy under y2 0 0 8) (va_cpy due y3 0 0 64) r := PR_congr hN hR (fun p hp => cpy8 _ _ hp) (fun p hp => cpy8 _ _ hp) (fun p hp => cpy8 _ _ hp) (fun _ _ => rfl)
      obtain ⟨⟨c1, u1⟩, h1, hR2⟩ := breakX (fu := fu) hfu hN hP8 hF.1.1 ha hR1
      obtain ⟨c2, h2⟩ := mendX (n := n) hfu hB hN hN1 ⟨hP1, hP8⟩ hF.1.1 hF.1.2.1 hR2.C hw9 htu
      have em : MBt N P bk kd wd n (cs N (brk r a)) = MBt N P bk kd wd n (fun p => cut (cs N r p) (2 ^ a)) := MBt_congr (fun p hp => cs_brk hN (by omega))
      have hm := hMB (fun p => cut (cs N r p) (2 ^ a))
      refine ⟨(c2, u1, va_cpy due y3 0 0 64, day, crossed), trivial, ?_⟩
      show fX1_afterTurns_b32_body fu size came borne planks day crossed under due _ _ _ _ _ _ _ _ _ = _
      unfold fX1_afterTurns_b32_body
      rw [if_neg (show ¬ size ≤ nI a by rw [hF.1.2.1]; exact nI_ge (by omega) (by omega)), if_neg (fun q => h0 ((le0 (by omega)).mp q))]
      show ((fX1_breakAll fu planks (va_cpy came y1 0 0 8) (va_cpy under y2 0 0 8) (nI a)).bind fun (g13, g14) => _) = _
      rw [h1]
      show ((fX1_mended fu borne planks size c1 (l1 - 1)).bind fun (v15, g16) => _) = _
      rw [h2, em]
      show fX1_afterTurns_b32 fu size came borne planks day crossed under due m l1 (mn _ _) (nI a + 1) c2 u1 _ day crossed = _
      rw [mnN (by omega) (by omega), ← nI_succ]
      rfl
theorem q_byTurns {N P : Nat} {bk kd wd sl : Nat → Nat} {day crossed th planks size sworn td tc : Int32} {t came under due r bank kind word slow borne w v tcm tu tdu : Nat → Int32} {fu : Nat} (hfu : 67 ≤ fu) (hT : TR N P bk kd wd sl t) (hF : FR N P bk kd wd sl planks size sworn bank kind word slow) (hB : BT N bk kd wd borne) (hS : ST N P day crossed came under due r) (n : Int32) : ∃ y c' u' du' dy' cr' w' v', fX8_byTurns fu size came borne planks day crossed under due tcm tu tdu td tc n = some (y, c', u', du', dy', cr') ∧ fX9_byTurns fu t r w v th n = some (y, w', v', 0) := by
  obtain ⟨hP1, hP8, hN⟩ := hT.1.2.2
  obtain ⟨d, x, hd, hx, ed, ex, hR⟩ := id hS
  have hw9 : ∀ a, a < N → wd a ≤ 9 := fun a ha => (hT.wf.2 a ha).2.2.1.2
  unfold fX8_byTurns fX9_byTurns
  rcases rng (fu := fu) (x := n) (lo := 0) (hi := 3) with ⟨a1, a2, -⟩ | ⟨a1, a2, a3, a4⟩
  · exact ⟨-1, tcm, tu, tdu, td, tc, w, v, by rw [bdS a2]; rfl, by rw [bdS a1]; rfl⟩
  rw [bdS a2, bdS a1, if10, if10, bdS hT.n]
  obtain ⟨D, hD1, rfl⟩ := nI_of a3
  have hD : D ≤ 3 := Nat.le_of_not_lt (fun h => a4 (nI_lt (a := 3) h hD1))
  have hb := brX0 (fu := fu) (by omega) hT hF hB hR
  have hb9 := bridge9 hT (r := r) (fu := fu) (by omega)
  have hz : N = 0 → brg N P bk kd wd (cs N r) = 0 := by
    intro h
    have h1 : bears N bk kd wd 0 (cs N r 0) = 0 := by rw [h]; rfl
    have h2 : brg N P bk kd wd (cs N r) ≤ bears N bk kd wd 0 (cs N r 0) := inf_le (f := fun p => bears N bk kd wd p (cs N r p)) (i := 0) (by omega)
    omega
  have e31 : fX9_byTurns_b31 fu t r (nI N) w v 0 = some (nI (brg N P bk kd wd (cs N r)), w, v, 0) := by
    unfold fX9_byTurns_b31
    by_cases h : N = 0
    · rw [if_pos (show nI N = 0 by rw [h]; rfl), hz h]; rfl
    · rw [if_neg (show ¬ nI N = 0 from nI_ne0 (by omega) (by omega)), bdS hb9]
  have e14 : fX1_afterTurns_b14 fu size came borne planks day crossed under due tcm tu tdu td tc = some (nI (brg N P bk kd wd (cs N r)), tcm, tu, tdu, td, tc) := by
    unfold fX1_afterTurns_b14
    rw [bdS hb]
  unfold fX1_afterTurns
  by_cases h0 : D = 0
  · refine ⟨nI (brg N P bk kd wd (cs N r)), tcm, tu, tdu, td, tc, w, v, ?_, ?_⟩
    · rw [if_pos (show nI D ≤ 0 by rw [h0]; decide), e14]; rfl
    · rw [if_pos (show nI D = 0 by rw [h0]; rfl), e31]
  rw [if_neg (show ¬ nI D ≤ 0 from nI_nle (by omega) (by omega)), if_neg (show ¬ nI D = 0 from nI_ne0 (by omega) (by omega))]
  by_cases h1 : N = 0
  · refine ⟨nI (brg N P bk kd wd (cs N r)), tcm, tu, tdu, td, tc, w, v, ?_, ?_⟩
    · rw [if_pos (show size = 0 by rw [hF.1.2.1, h1]; rfl), e14]; rfl
    · rw [if_pos (show nI N = 0 by rw [h1]; rfl), e31]
  rw [if_neg (show ¬ size = 0 by rw [hF.1.2.1]; exact nI_ne0 (by omega) (by omega)), if_neg (show ¬ nI N = 0 from nI_ne0 (by omega) (by omega))]
  obtain ⟨w', v', k1⟩ := turns9 (n := D) (r := r) (w := w) (v := v) hfu hT ⟨by omega, hD⟩
  obtain ⟨⟨z1, z2, z3, z4, z5, z6⟩, k2, k3⟩ := turnsX (n := D) (l1 := nI D) (tcm := tcm) (tu := tu) (tdu := tdu) (td := td) (tc := tc) (day := day) (crossed := crossed) (fu := fu) (by omega) hT hF hB (by omega) hR (by
    rcases (by omega : D = 1 ∨ D = 2 ∨ D = 3) with rfl | rfl | rfl
    · left; exact ⟨by decide, rfl⟩
    · right; left; exact ⟨by decide, rfl⟩
    · right; right; exact ⟨by decide, rfl⟩)
  refine ⟨z1, z2, z3, z4, z5, z6, w', v', ?_, ?_⟩
  · rw [k2]; rfl
  · simp only at k3
    rw [k1, k3]
