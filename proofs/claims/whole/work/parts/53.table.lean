-- the class's table of all sets; sets without some; the bridge
theorem hdW_par (N : Nat) (kd : Nat → Nat) (a w p c : Nat) : hdW N kd a w (p % 2) c = hdW N kd a w p c := by
  unfold hdW
  rw [Nat.mod_mod]
theorem stS_par (N : Nat) (bk kd wd : Nat → Nat) (p c b : Nat) : stS N bk kd wd (p % 2) c b = stS N bk kd wd p c b := by
  unfold stS
  exact mkS_congr (fun i _ => by rw [hdW_par])
theorem bears_par (N : Nat) (bk kd wd : Nat → Nat) (p c : Nat) : bears N bk kd wd (p % 2) c = bears N bk kd wd p c := by
  unfold bears
  refine sup_congr (fun a _ => sup_congr (fun b _ => ?_))
  unfold pv
  rw [stS_par, stS_par, hdW_par, hdW_par]
def BT (N : Nat) (bk kd wd : Nat → Nat) (borne : Nat → Int32) : Prop := ∀ c, c < 2 ^ N → borne c = nI (bears N bk kd wd 0 c) ∧ borne (256 + c) = nI (bears N bk kd wd 1 c)
theorem pow8 {N : Nat} (h : N ≤ 8) : 2 ^ N ≤ 256 := Nat.pow_le_pow_right (n := 2) (by omega) h
theorem pow0 (N : Nat) : 1 ≤ 2 ^ N := Nat.one_le_two_pow
theorem ofX {N : Nat} {bk kd wd : Nat → Nat} {borne : Nat → Int32} {fu p c : Nat} (hB : BT N bk kd wd borne) (hN : N ≤ 8) (hc : c < 2 ^ N) (hp : p < 2 ^ 31) : fX7_of fu borne (nI p) (nI c) = some (nI (bears N bk kd wd p c)) := by
  have h8 := pow8 hN
  unfold fX7_of
  have e1 : nI p &&& 1 = nI (p % 2) := pk_andN (by omega) (m := 1) 1 (by decide)
  have e2 : nI c &&& 255 = nI (c % 256) := pk_andN (by omega) (m := 255) 8 (by decide)
  have e3 : nI (p % 2) * 256 = nI (p % 2 * 256) := pk_mul (p % 2) 256
  rw [e1, e2, e3, nI_add, Nat.mod_eq_of_lt (by omega : c < 256), bdS (rdN (by omega) (by decide)), ← bears_par N bk kd wd p c]
  rcases (by omega : p % 2 = 0 ∨ p % 2 = 1) with h | h
  · rw [h, Nat.zero_mul, Nat.zero_add]
    exact congrArg some (hB c hc).1
  · rw [h, Nat.one_mul]
    exact congrArg some (hB c hc).2
theorem everyX {fu N : Nat} (hN : N ≤ 8) : fX0_everyone fu (nI N) = some (nI (2 ^ N - 1)) := by
  unfold fX0_everyone
  rw [nI_shl (by omega)]
  exact congrArg some (pk_sub (b := 1) (pow0 N))
theorem reck_loop {N : Nat} {bk kd wd : Nat → Nat} {size sworn : Int32} {bank kind word : Nat → Int32} {fu : Nat} (hfu : 9 ≤ fu) (hN : N ≤ 8) (hsz : size = nI N) (hsw : sworn = nI (mkS N (fun a => kd a == 3))) (hF : ∀ a, a < N → bank a = nI (bk a) ∧ kind a = nI (kd a) ∧ word a = nI (wd a)) (hW : ∀ a, a < N → bk a ≤ 1 ∧ kd a ≤ 5 ∧ wd a ≤ 9) : ∀ (m k n : Nat) (b : Nat → Int32), 2 ^ N = k + m → m < n → (∀ c, c < k → b c = nI (bears N bk kd wd 0 c) ∧ b (256 + c) = nI (bears N bk kd wd 1 c)) → ∃ b', fX7_reckonAll_b2 fu size kind sworn bank word n (nI k) b = some b' ∧ BT N bk kd wd b' := by
  intro m
  have h8 := pow8 hN
  have h1 := pow0 N
  have hE : ∀ a, a < N → (nI a = (-1 : Int32) → (0 : Int32) = nI (wd a)) ∧ (¬ nI a = (-1 : Int32) → wd a = wd a) := fun a ha => ⟨fun e => absurd (e ▸ (show ¬ nI a < 0 from nI_pos (by omega))) (by decide), fun _ => rfl⟩
  induction m with
  | zero =>
    intro k n b hk hn hb
    obtain ⟨n, rfl⟩ : ∃ q, n = q + 1 := ⟨n - 1, by omega⟩
    refine ⟨b, ?_, fun c hc => hb c (by omega)⟩
    show fX7_reckonAll_b2_body fu size kind sworn bank word _ _ _ = _
    unfold fX7_reckonAll_b2_body
    rw [hsz, bdS (everyX hN), if_pos (nI_lt (by omega) (by omega))]
  | succ m ih =>
    intro k n b hk hn hb
    obtain ⟨n, rfl⟩ : ∃ q, n = q + 1 := ⟨n - 1, by omega⟩
    obtain ⟨b', e1, e2⟩ := ih (k + 1) n (upd (upd b k (nI (bears N bk kd wd 0 k))) (256 + k) (nI (bears N bk kd wd 1 k))) (by omega) (by omega) (by
      intro c hc
      by_cases e : c = k
      · subst e
        refine ⟨?_, pk_us⟩
        rw [pk_un (by omega), pk_us]
      · rw [pk_un (by omega), pk_un e, pk_un (by omega), pk_un (by omega)]
        exact hb c (by omega))
    refine ⟨b', ?_, e2⟩
    show fX7_reckonAll_b2_body fu size kind sworn bank word _ _ _ = _
    unfold fX7_reckonAll_b2_body
    have eE : fX0_everyone fu size = some (nI (2 ^ N - 1)) := by rw [hsz]; exact everyX hN
    rw [bdS eE, if_neg (nI_nlt (by omega) (by omega))]
    have b0 : fX7_bestOfTwo fu size kind sworn bank word 0 (nI k) (-1) 0 = some (nI (bears N bk kd wd 0 k)) := bestX (p := 0) hfu hN hsz hsw hF hW hE (by omega) (by omega)
    have b1 : fX7_bestOfTwo fu size kind sworn bank word 1 (nI k) (-1) 0 = some (nI (bears N bk kd wd 1 k)) := bestX (p := 1) hfu hN hsz hsw hF hW hE (by omega) (by omega)
    rw [bdS b0, bdS (wrN (by omega) (by decide)), bdS b1, show (256 : Int32) + nI k = nI (256 + k) from nI_add 256 k, bdS (wrN (by omega) (by decide))]
    rw [nI_succ] at e1
    exact e1
theorem reckX {N : Nat} {bk kd wd : Nat → Nat} {size sworn : Int32} {bank kind word b : Nat → Int32} {fu : Nat} (hfu : 300 ≤ fu) (hN : N ≤ 8) (hsz : size = nI N) (hsw : sworn = nI (mkS N (fun a => kd a == 3))) (hF : ∀ a, a < N → bank a = nI (bk a) ∧ kind a = nI (kd a) ∧ word a = nI (wd a)) (hW : ∀ a, a < N → bk a ≤ 1 ∧ kd a ≤ 5 ∧ wd a ≤ 9) : ∃ b', fX7_reckonAll fu size kind sworn bank word b = some b' ∧ BT N bk kd wd b' := by
  have h8 := pow8 hN
  exact reck_loop (by omega) hN hsz hsw hF hW (2 ^ N) 0 fu b (by omega) (by omega) (fun c hc => by omega)
/-- a set without some -/
def cut (c g : Nat) : Nat := mkS 8 (fun a => c.testBit a && !g.testBit a)
theorem cut_bit (c g i : Nat) : (cut c g).testBit i = (decide (i < 8) && (c.testBit i && !g.testBit i)) := mkS_bit _ _ _
theorem cut_lt {c g N : Nat} (h : c < 2 ^ N) : cut c g < 2 ^ N := by
  apply Nat.lt_pow_two_of_testBit
  intro i hi
  rw [cut_bit, Nat.testBit_lt_two_pow (Nat.lt_of_lt_of_le h (Nat.pow_le_pow_right (by omega) hi))]
  simp
theorem cut_0 {c : Nat} (h : c < 256) : cut c 0 = c := by
  apply Nat.eq_of_testBit_eq
  intro i
  rw [cut_bit]
  by_cases hi : i < 8
  · simp [hi]
  · rw [Nat.testBit_lt_two_pow (Nat.lt_of_lt_of_le (show c < 2 ^ 8 from h) (Nat.pow_le_pow_right (by omega) (by omega)))]
    simp
theorem nI_cut {c g : Nat} (hc : c < 256) : nI c &&& (nI g ^^^ (-1)) = nI (cut c g) := by
  apply Int32.toBitVec_inj.mp
  apply BitVec.eq_of_getLsbD_eq
  intro i hi
  show ((BitVec.ofNat 32 c) &&& ((BitVec.ofNat 32 g) ^^^ (-1 : Int32).toBitVec)).getLsbD i = (BitVec.ofNat 32 (cut c g)).getLsbD i
  have e : (-1 : Int32).toBitVec = BitVec.allOnes 32 := by decide
  rw [e]
  simp only [BitVec.getLsbD_and, BitVec.getLsbD_xor, BitVec.getLsbD_ofNat, BitVec.getLsbD_allOnes, hi, decide_true, Bool.true_and, cut_bit]
  by_cases h8 : i < 8
  · simp [h8]
  · rw [Nat.testBit_lt_two_pow (Nat.lt_of_lt_of_le (show c < 2 ^ 8 from hc) (Nat.pow_le_pow_right (by omega) (by omega)))]
    simp
/-- what the bridge bears, by the sets that came -/
def brg (N P : Nat) (bk kd wd : Nat → Nat) (C : Nat → Nat) : Nat := inf 99 P (fun p => bears N bk kd wd p (C p))
theorem brg_le {N P : Nat} {bk kd wd : Nat → Nat} {C : Nat → Nat} (hP : 1 ≤ P) (hw : ∀ a, a < N → wd a ≤ 9) : brg N P bk kd wd C ≤ 36 := Nat.le_trans (inf_le (i := 0) (by omega)) (bears_le hw)
theorem inf_zero {b n k : Nat} {f : Nat → Nat} (h : inf b k f = 0) (hk : k ≤ n) : inf b n f = 0 := by
  induction n with
  | zero =>
    have : k = 0 := by omega
    subst this
    exact h
  | succ n ih =>
    by_cases e : k = n + 1
    · subst e; exact h
    · rw [inf, ih (by omega)]
      omega
theorem bridgeX_loop {N P : Nat} {bk kd wd : Nat → Nat} {borne came : Nat → Int32} {planks : Int32} {fu g : Nat} {C : Nat → Nat} (hB : BT N bk kd wd borne) (hN : N ≤ 8) (hP : 1 ≤ P ∧ P ≤ 8) (hpl : planks = nI P) (hC : ∀ p, p < 8 → came p = nI (C p) ∧ C p < 2 ^ N) (hw : ∀ a, a < N → wd a ≤ 9) : ∀ (m k n : Nat), P = k + m → 1 ≤ k → m < n → fX7_bridge_b19 fu came borne planks n (nI g) (nI (inf 99 k (fun p => bears N bk kd wd p (cut (C p) g)))) (nI k) = some (nI (brg N P bk kd wd (fun p => cut (C p) g))) := by
  intro m
  have h8 := pow8 hN
  induction m with
  | zero =>
    intro k n hk h1 hn
    obtain ⟨n, rfl⟩ : ∃ q, n = q + 1 := ⟨n - 1, by omega⟩
    show fX7_bridge_b19_body fu came borne planks _ _ _ _ = _
    unfold fX7_bridge_b19_body
    rw [hpl, if_pos (nI_le (by omega) (by omega))]
    have e : P = k := by omega
    rw [e]
    rfl
  | succ m ih =>
    intro k n hk h1 hn
    obtain ⟨n, rfl⟩ : ∃ q, n = q + 1 := ⟨n - 1, by omega⟩
    have hl : inf 99 k (fun p => bears N bk kd wd p (cut (C p) g)) ≤ 36 := Nat.le_trans (inf_le (i := 0) (by omega)) (bears_le hw)
    have hb := bears_le (N := N) (bk := bk) (kd := kd) (p := k) (c := cut (C k) g) hw
    obtain ⟨c1, c2⟩ := hC k (by omega)
    show fX7_bridge_b19_body fu came borne planks _ _ _ _ = _
    unfold fX7_bridge_b19_body
    rw [hpl, if_neg (nI_ge (by omega) (by omega)), ← hpl]
    by_cases h0 : inf 99 k (fun p => bears N bk kd wd p (cut (C p) g)) = 0
    · rw [h0, if_pos (by decide)]
      have := inf_zero h0 (show k ≤ P by omega)
      unfold brg
      rw [this]
    · rw [if_neg (show ¬ nI (inf 99 k (fun p => bears N bk kd wd p (cut (C p) g))) ≤ 0 from nI_nle (by omega) (by omega)), bdS (rdN (by omega) (by decide)), c1, nI_cut (by omega), bdS (ofX hB hN (cut_lt c2) (by omega)), mnN (by omega) (by omega)]
      have h2 := ih (k + 1) n (by omega) (by omega) (by omega)
      rw [inf, nI_succ] at h2
      exact h2
theorem bridgeX {N P : Nat} {bk kd wd : Nat → Nat} {borne came : Nat → Int32} {planks : Int32} {fu g : Nat} {C : Nat → Nat} (hfu : 9 ≤ fu) (hB : BT N bk kd wd borne) (hN : N ≤ 8) (hP : 1 ≤ P ∧ P ≤ 8) (hpl : planks = nI P) (hC : ∀ p, p < 8 → came p = nI (C p) ∧ C p < 2 ^ N) (hw : ∀ a, a < N → wd a ≤ 9) : fX7_bridge fu came borne planks (nI g) = some (nI (brg N P bk kd wd (fun p => cut (C p) g))) := by
  have h8 := pow8 hN
  obtain ⟨c1, c2⟩ := hC 0 (by omega)
  unfold fX7_bridge
  have e0 : rd 8 came 0 = some (came 0) := rdN (j := 0) (by decide) (by decide)
  rw [bdS e0, c1, nI_cut (by omega), show (0 : Int32) = nI 0 from rfl, bdS (ofX hB hN (cut_lt c2) (by omega))]
  have := bridgeX_loop (fu := fu) (g := g) hB hN hP hpl hC hw (P - 1) 1 fu (by omega) (by omega) (by omega)
  have hb := bears_le (N := N) (bk := bk) (kd := kd) (p := 0) (c := cut (C 0) g) hw
  rw [inf, inf, Nat.min_eq_right (by omega)] at this
  exact this
/-- the set for a plank, out of a row -/
def cs (N : Nat) (r : Nat → Int32) (p : Nat) : Nat := mkS N (fun a => decide (r (2 + 8 * a + p) = -1))
theorem came9_loop {N P : Nat} {bk kd wd sl : Nat → Nat} {t r : Nat → Int32} (hT : TR N P bk kd wd sl t) {fu p : Nat} (hp : p < 8) : ∀ (m k n : Nat), N = k + m → m < n → fX9_cameFor_b5 fu t r n (nI p) (nI (mkS k (fun a => decide (r (2 + 8 * a + p) = -1)))) (nI k) = some (nI (cs N r p)) := by
  intro m
  have hN := hT.1.2.2.2.2
  induction m with
  | zero =>
    intro k n hk hn
    obtain ⟨n, rfl⟩ : ∃ q, n = q + 1 := ⟨n - 1, by omega⟩
    show fX9_cameFor_b5_body fu t r _ _ _ _ = _
    unfold fX9_cameFor_b5_body
    rw [bdS hT.n, if_pos (nI_le (by omega) (by omega))]
    have e : k = N := by omega
    rw [e]
    rfl
  | succ m ih =>
    intro k n hk hn
    obtain ⟨n, rfl⟩ : ∃ q, n = q + 1 := ⟨n - 1, by omega⟩
    have h2 := ih (k + 1) n (by omega) (by omega)
    rw [mkS, nI_succ, ← nI_or] at h2
    show fX9_cameFor_b5_body fu t r _ _ _ _ = _
    unfold fX9_cameFor_b5_body
    have e : ((2 : Int32) + 8 * nI k) + nI p = nI (2 + 8 * k + p) := by
      rw [show (8 : Int32) * nI k = nI (8 * k) from pk_mul 8 k, show (2 : Int32) + nI (8 * k) = nI (2 + 8 * k) from nI_add 2 _, nI_add]
    rw [bdS hT.n, if_neg (nI_ge (by omega) (by omega)), e, bdS (rdN (by omega) (by decide))]
    by_cases hv : r (2 + 8 * k + p) = -1
    · rw [if_pos hv, nI_shl (by omega)]
      simp only [hv, decide_true, if_true] at h2
      exact h2
    · rw [if_neg hv]
      simp only [hv, decide_false, if_false] at h2
      exact h2
theorem came9 {N P : Nat} {bk kd wd sl : Nat → Nat} {t r : Nat → Int32} (hT : TR N P bk kd wd sl t) {fu p : Nat} (hfu : 9 ≤ fu) (hp : p < 8) : fX9_cameFor fu t r (nI p) = some (nI (cs N r p)) := by
  have hN := hT.1.2.2.2.2
  exact came9_loop hT hp N 0 fu (by omega) (by omega)
theorem cs_lt (N : Nat) (r : Nat → Int32) (p : Nat) : cs N r p < 2 ^ N := mkS_lt _ _
theorem bridge9_loop {N P : Nat} {bk kd wd sl : Nat → Nat} {t r : Nat → Int32} (hT : TR N P bk kd wd sl t) {fu : Nat} (hfu : 9 ≤ fu) : ∀ (m k n : Nat), P = k + m → m < n → fX9_bridge_b5 fu t r n (nI (inf 99 k (fun p => bears N bk kd wd p (cs N r p)))) (nI k) = some (nI (brg N P bk kd wd (cs N r))) := by
  intro m
  obtain ⟨hP1, hP8, hN⟩ := hT.1.2.2
  have h8 := pow8 hN
  induction m with
  | zero =>
    intro k n hk hn
    obtain ⟨n, rfl⟩ : ∃ q, n = q + 1 := ⟨n - 1, by omega⟩
    show fX9_bridge_b5_body fu t r _ _ _ = _
    unfold fX9_bridge_b5_body
    rw [bdS hT.p, if_pos (nI_le (by omega) (by omega))]
    have e : P = k := by omega
    rw [e]
    rfl
  | succ m ih =>
    intro k n hk hn
    obtain ⟨n, rfl⟩ : ∃ q, n = q + 1 := ⟨n - 1, by omega⟩
    have h2 := ih (k + 1) n (by omega) (by omega)
    rw [inf, nI_succ] at h2
    have hc := cs_lt N r k
    have hl := inf_le_b 99 k (fun p => bears N bk kd wd p (cs N r p))
    have hb := bears_le (N := N) (bk := bk) (kd := kd) (wd := wd) (p := k) (c := cs N r k) (fun a ha => (hT.2 a ha).2.2.2.1.2)
    show fX9_bridge_b5_body fu t r _ _ _ = _
    unfold fX9_bridge_b5_body
    rw [bdS hT.p, if_neg (nI_ge (by omega) (by omega)), bdS (came9 hT hfu (by omega)), bdS (bears9 hT hfu (by omega) (by omega))]
    by_cases hle : inf 99 k (fun p => bears N bk kd wd p (cs N r p)) ≤ bears N bk kd wd k (cs N r k)
    · rw [if_pos (nI_le hle (by omega))]
      rw [Nat.min_eq_left hle] at h2
      exact h2
    · rw [if_neg (nI_ge (by omega) (by omega))]
      rw [Nat.min_eq_right (by omega)] at h2
      exact h2
theorem bridge9 {N P : Nat} {bk kd wd sl : Nat → Nat} {t r : Nat → Int32} (hT : TR N P bk kd wd sl t) {fu : Nat} (hfu : 9 ≤ fu) : fX9_bridge fu t r = some (nI (brg N P bk kd wd (cs N r))) := by
  obtain ⟨hP1, hP8, hN⟩ := hT.1.2.2
  exact bridge9_loop hT hfu P 0 fu (by omega) (by omega)
