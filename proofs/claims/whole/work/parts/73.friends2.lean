-- friends: the reference's table
def ec (p : Nat) : Nat → Nat := ce ((p + 1) / 2) (p / 2)
theorem ec_dn (p : Nat) : dn (ec (p + 1)) (p % 2) = ec p ∧ 0 < ec (p + 1) (p % 2) := by
  unfold ec
  rcases (by omega : p % 2 = 0 ∨ p % 2 = 1) with h | h
  · rw [h, dn_0, ce_0, show (p + 1 + 1) / 2 - 1 = (p + 1) / 2 by omega, show (p + 1) / 2 = p / 2 by omega]
    exact ⟨rfl, by omega⟩
  · rw [h, dn_1, ce_1, show (p + 1) / 2 - 1 = p / 2 by omega, show (p + 1 + 1) / 2 = (p + 1) / 2 by omega]
    exact ⟨rfl, by omega⟩
theorem ec_le (p i : Nat) : ec p i ≤ ec (p + 1) i := by
  unfold ec ce
  split
  · omega
  · split <;> omega
def Tk (B : Nat → Nat → Prop) (p S : Nat) : Prop := ∃ m, on S = 2 * m ∧ Kp B m S (ec p)
theorem Tk_step {B : Nat → Nat → Prop} {p S : Nat} : Tk B (p + 1) S ↔ Tk B p S ∨ ∃ x, (x < 256 ∧ on x = 2 ∧ sb x S) ∧ B (p % 2) x ∧ Tk B p (cut S x) := by
  obtain ⟨e1, e2⟩ := ec_dn p
  constructor
  · rintro ⟨m, h1, h2⟩
    rcases K_type (i := p % 2) (by omega) m S _ h2 with h | ⟨x, n, k1, ⟨k2, k3, k4⟩, ⟨k5, k6⟩, k7⟩
    · rw [e1] at h
      exact Or.inl ⟨m, h1, h⟩
    · rw [e1] at k7
      have := on_cut k4
      exact Or.inr ⟨x, ⟨k2, k3, k4⟩, k6, n, by omega, k7⟩
  · rintro (⟨m, h1, h2⟩ | ⟨x, ⟨k2, k3, k4⟩, k6, n, k8, k7⟩)
    · exact ⟨m, h1, K_mono m _ _ _ _ (fun _ h => h) (fun i _ => ec_le p i) h2⟩
    · have := on_cut k4
      exact ⟨n + 1, by omega, x, p % 2, ⟨k2, k3, k4⟩, ⟨by omega, e2, k6⟩, by rw [e1]; exact k7⟩
def Rd (B : Nat → Nat → Prop) (p k S : Nat) : Prop := Tk B p S ∨ ∃ x, (x < 256 ∧ on x = 2 ∧ sb x S) ∧ B (p % 2) x ∧ Tk B p (cut S x) ∧ k ≤ cut S x
def Rk (B : Nat → Nat → Prop) (p s j S : Nat) : Prop := Tk B p S ∨ ∃ x, (x < 256 ∧ on x = 2 ∧ sb x S) ∧ B (p % 2) x ∧ Tk B p (cut S x) ∧ (s < cut S x ∨ (cut S x = s ∧ x < j))
theorem sb_lt {x S N : Nat} (h : sb x S) (hS : S < 2 ^ N) : x < 2 ^ N := Nat.lt_pow_two_of_testBit x (fun i hi => fal (fun q => by
  have := h i q
  rw [Nat.testBit_lt_two_pow (Nat.lt_of_lt_of_le hS (Nat.pow_le_pow_right (by omega) hi))] at this
  cases this))
theorem Rk_0 {B : Nat → Nat → Prop} {p s S : Nat} : Rk B p s 0 S ↔ Rd B p (s + 1) S := by
  unfold Rk Rd
  constructor
  · rintro (h | ⟨x, h1, h2, h3, h4 | ⟨h4, h5⟩⟩)
    · exact Or.inl h
    · exact Or.inr ⟨x, h1, h2, h3, h4⟩
    · omega
  · rintro (h | ⟨x, h1, h2, h3, h4⟩)
    · exact Or.inl h
    · exact Or.inr ⟨x, h1, h2, h3, Or.inl h4⟩
theorem Rk_N {B : Nat → Nat → Prop} {N p s S : Nat} (hS : S < 2 ^ N) : Rk B p s (2 ^ N) S ↔ Rd B p s S := by
  unfold Rk Rd
  constructor
  · rintro (h | ⟨x, h1, h2, h3, h4 | ⟨h4, h5⟩⟩)
    · exact Or.inl h
    · exact Or.inr ⟨x, h1, h2, h3, by omega⟩
    · exact Or.inr ⟨x, h1, h2, h3, by omega⟩
  · rintro (h | ⟨x, h1, h2, h3, h4⟩)
    · exact Or.inl h
    · refine Or.inr ⟨x, h1, h2, h3, ?_⟩
      have := sb_lt h1.2.2 hS
      omega
theorem cut_lt2 {S x : Nat} (hS : S < 256) (h1 : x < 256) (h2 : on x = 2) (h : sb x S) : cut S x < S := by
  have h3 : sb (cut S x) S := fun i hi => (cutb.mp hi).2.1
  have h4 := on_cut h
  have e : S = cut S x ||| x := extb (fun i => by
    rw [Nat.testBit_or, Bool.or_eq_true, cutb]
    constructor
    · intro q
      by_cases z : x.testBit i = true
      · exact Or.inr z
      · exact Or.inl ⟨bit8 hS q, q, fal z⟩
    · rintro (q | q)
      · exact q.2.1
      · exact h i q)
  have h5 : cut S x ≤ S := by
    have : cut S x ≤ cut S x ||| x := Nat.left_le_or
    rw [← e] at this
    exact this
  rcases Nat.lt_or_eq_of_le h5 with q | q
  · exact q
  · rw [q] at h4; omega
theorem Rk_self {B : Nat → Nat → Prop} {p s j : Nat} (hs : s < 256) : Rk B p s j s ↔ Tk B p s := by
  unfold Rk
  constructor
  · rintro (h | ⟨x, h1, h2, h3, h4⟩)
    · exact h
    · have := cut_lt2 hs h1.1 h1.2.1 h1.2.2
      omega
  · exact Or.inl
def IQ (N : Nat) (Q : Nat → Prop) (tb : Nat → Int32) (mo : Nat) : Prop := (∀ S, S < 2 ^ N → (Q S → tb S = nI (on S / 2)) ∧ (¬ Q S → tb S = -1)) ∧ (∃ S, S < 2 ^ N ∧ Q S ∧ mo = on S / 2) ∧ ∀ S, S < 2 ^ N → Q S → on S / 2 ≤ mo
theorem IQ_congr {N mo : Nat} {Q Q' : Nat → Prop} {tb : Nat → Int32} (h : IQ N Q tb mo) (e : ∀ S, S < 2 ^ N → (Q S ↔ Q' S)) : IQ N Q' tb mo := by
  obtain ⟨h1, ⟨S, h2, h3, h4⟩, h5⟩ := h
  exact ⟨fun S hS => ⟨fun q => (h1 S hS).1 ((e S hS).mpr q), fun q => (h1 S hS).2 (fun z => q ((e S hS).mp z))⟩, ⟨S, h2, (e S h2).mp h3, h4⟩, fun S hS q => h5 S hS ((e S hS).mpr q)⟩
theorem IQ_mo {N mo : Nat} {Q : Nat → Prop} {tb : Nat → Int32} (h : IQ N Q tb mo) : mo ≤ 4 := by
  obtain ⟨-, ⟨S, -, -, h4⟩, -⟩ := h
  have := on_le S
  omega
theorem IQ_add {N mo S0 : Nat} {Q Q' : Nat → Prop} {tb : Nat → Int32} (h : IQ N Q tb mo) (h0 : S0 < 2 ^ N) (e : ∀ S, S < 2 ^ N → (Q' S ↔ Q S ∨ S = S0)) : IQ N Q' (upd tb S0 (nI (on S0 / 2))) (max mo (on S0 / 2)) := by
  obtain ⟨h1, ⟨S, h2, h3, h4⟩, h5⟩ := h
  refine ⟨fun T hT => ⟨fun q => ?_, fun q => ?_⟩, ?_, fun T hT q => ?_⟩
  · by_cases z : T = S0
    · rw [z, upd_at]
    · rw [upd_ne z]
      rcases (e T hT).mp q with q | q
      · exact (h1 T hT).1 q
      · exact absurd q z
  · have z : T ≠ S0 := fun z => q ((e T hT).mpr (Or.inr z))
    rw [upd_ne z]
    exact (h1 T hT).2 (fun z => q ((e T hT).mpr (Or.inl z)))
  · by_cases z : on S0 / 2 ≤ mo
    · exact ⟨S, h2, (e S h2).mpr (Or.inl h3), by rw [Nat.max_eq_left z]; exact h4⟩
    · exact ⟨S0, h0, (e S0 h0).mpr (Or.inr rfl), by rw [Nat.max_eq_right (by omega)]⟩
  · rcases (e T hT).mp q with q | q
    · have := h5 T hT q; omega
    · rw [q]; exact Nat.le_max_right _ _
theorem Rk_skip {B : Nat → Nat → Prop} {p s j S : Nat} (h : ∀ x, x = j → on x = 2 → sb x S → B (p % 2) x → Tk B p s → cut S x = s → False) : Rk B p s j S ↔ Rk B p s (j + 1) S := by
  unfold Rk
  constructor
  · rintro (h' | ⟨x, h1, h2, h3, h4⟩)
    · exact Or.inl h'
    · exact Or.inr ⟨x, h1, h2, h3, by omega⟩
  · rintro (h' | ⟨x, h1, h2, h3, h4⟩)
    · exact Or.inl h'
    · refine Or.inr ⟨x, h1, h2, h3, ?_⟩
      rcases h4 with h4 | ⟨h4, h5⟩
      · exact Or.inl h4
      · by_cases z : x = j
        · exact (h x z h1.2.1 h1.2.2 h2 (by rw [← h4]; exact h3) h4).elim
        · exact Or.inr ⟨h4, by omega⟩
theorem max9 {fu k : Nat} {x : Int32} (hk : k < 2 ^ 31) (hx : x = -1 ∨ x = nI k) : fX9_max fu x (nI k) = some (nI k) := by
  unfold fX9_max
  rcases hx with rfl | rfl
  · rw [if_pos (show -1 ≤ nI k from Int32.le_trans (by decide) (nI_pos' hk))]
  · split <;> rfl
theorem fr_in {N P q p s : Nat} {bk kd wd sl : Nat → Nat} {t : Nat → Int32} {fu : Nat} {r56 : Int32 → Int32 → Int32 → Int32 → (Nat → Int32) → Int32 → Option (Int32 × (Nat → Int32) × Int32)} {r72 : Int32 → Int32 → Int32 → Int32 → Int32 → (Nat → Int32) → Int32 → Option (Int32 × (Nat → Int32) × Int32)} (hfu : 10 ≤ fu) (hT : TR N P bk kd wd sl t) (hq : q ≤ 36) (hp : p < P) (hs : s < 2 ^ N) : ∀ (m j n mo : Nat) (tb : Nat → Int32), 2 ^ N = j + m → m < n → IQ N (Rk (fun i x => q ≤ bears N bk kd wd i x) p s j) tb mo → ∃ tb' mo', IQ N (Rk (fun i x => q ≤ bears N bk kd wd i x) p s (2 ^ N)) tb' mo' ∧ fX9_friends_b80 fu t r56 r72 n (nI q) (nI (2 ^ N)) (nI mo) (nI p) (nI s) (nI j) tb 0 = r72 (nI q) (nI (2 ^ N)) (nI mo') (nI p) (nI s + (-1)) tb' 0 := by
  obtain ⟨hP1, hP8, hN⟩ := hT.1.2.2
  have h8 := pow8 hN
  have hw9 : ∀ a, a < N → wd a ≤ 9 := fun a ha => (hT.wf.2 a ha).2.2.1.2
  intro m
  induction m with
  | zero =>
    intro j n mo tb e hn hI
    obtain ⟨n, rfl⟩ : ∃ n', n = n' + 1 := ⟨n - 1, by omega⟩
    refine ⟨tb, mo, by rw [e]; exact hI, ?_⟩
    show fX9_friends_b80_body fu t r56 r72 _ _ _ _ _ _ _ _ _ = _
    unfold fX9_friends_b80_body
    rw [if_pos (nI_le (by omega) (by omega))]
  | succ m ih =>
    intro j n mo tb e hn hI
    obtain ⟨n, rfl⟩ : ∃ n', n = n' + 1 := ⟨n - 1, by omega⟩
    have hmo := IQ_mo hI
    have hb := bears_le (N := N) (bk := bk) (kd := kd) (p := p) (c := j) hw9
    have honj := on_le j
    have hons := on_le s
    have hpar := bears_par N bk kd wd p
    by_cases hTs : Tk (fun i x => q ≤ bears N bk kd wd i x) p s
    · have hts : tb s = nI (on s / 2) := (hI.1 s hs).1 ((Rk_self (by omega)).mpr hTs)
      have skip : (∀ S, S < 2 ^ N → (Rk (fun i x => q ≤ bears N bk kd wd i x) p s j S ↔ Rk (fun i x => q ≤ bears N bk kd wd i x) p s (j + 1) S)) → ∃ tb' mo', IQ N (Rk (fun i x => q ≤ bears N bk kd wd i x) p s (2 ^ N)) tb' mo' ∧ fX9_friends_b80 fu t r56 r72 n (nI q) (nI (2 ^ N)) (nI mo) (nI p) (nI s) (nI j + 1) tb 0 = r72 (nI q) (nI (2 ^ N)) (nI mo') (nI p) (nI s + (-1)) tb' 0 := fun hc => by
        rw [← nI_succ]
        exact ih (j + 1) n mo tb (by omega) (by omega) (IQ_congr hI hc)
      have e0 : fX9_friends_b80 fu t r56 r72 (n + 1) (nI q) (nI (2 ^ N)) (nI mo) (nI p) (nI s) (nI j) tb 0 = if (nI j &&& nI s) = 0 then (if nI (on j) = 2 then (if nI (bears N bk kd wd p j) < nI q then fX9_friends_b80 fu t r56 r72 n (nI q) (nI (2 ^ N)) (nI mo) (nI p) (nI s) (nI j + 1) tb 0 else (rd 256 tb (nI s ||| nI j)).bind fun v16 => (rd 256 tb (nI s)).bind fun v17 => (fX9_max fu v16 (v17 + 1)).bind fun v18 => (wr 256 tb (nI s ||| nI j) v18).bind fun g19 => (rd 256 g19 (nI s ||| nI j)).bind fun v20 => (fX9_max fu (nI mo) v20).bind fun v21 => fX9_friends_b80 fu t r56 r72 n (nI q) (nI (2 ^ N)) v21 (nI p) (nI s) (nI j + 1) g19 0) else fX9_friends_b80 fu t r56 r72 n (nI q) (nI (2 ^ N)) (nI mo) (nI p) (nI s) (nI j + 1) tb 0) else fX9_friends_b80 fu t r56 r72 n (nI q) (nI (2 ^ N)) (nI mo) (nI p) (nI s) (nI j + 1) tb 0 := by
        show fX9_friends_b80_body fu t r56 r72 _ _ _ _ _ _ _ _ _ = _
        unfold fX9_friends_b80_body
        rw [if_neg (nI_ge (by omega) (by omega)), bdS (rdN (by omega) (by decide)), hts, if_neg (show ¬ nI (on s / 2) < 0 from nI_pos (by omega)), bdS (onesO hfu (by omega)), bdS (bears9 hT (by omega) (by omega) (by omega))]
      rw [e0]
      by_cases c1 : j &&& s = 0
      · rw [if_pos ((and0 (by omega)).mpr c1)]
        by_cases c2 : on j = 2
        · rw [if_pos (show nI (on j) = 2 by rw [c2]; rfl)]
          by_cases c3 : q ≤ bears N bk kd wd p j
          · rw [if_neg (nI_nlt c3 (by omega))]
            have hS0 : s ||| j < 2 ^ N := Nat.or_lt_two_pow hs (by omega)
            have hdis : ∀ i, j.testBit i = true → s.testBit i = false := fun i hi => fal (fun z => by
              have : (j &&& s).testBit i = true := by rw [Nat.testBit_and, hi, z]; rfl
              rw [c1, Nat.zero_testBit] at this
              cases this)
            have hsj : sb j (s ||| j) := fun i hi => by rw [Nat.testBit_or, hi, Bool.or_true]
            have hcut : cut (s ||| j) j = s := extb (fun i => by
              rw [cutb, Nat.testBit_or, Bool.or_eq_true]
              constructor
              · rintro ⟨_, z1 | z1, z2⟩
                · exact z1
                · rw [z1] at z2; cases z2
              · intro z
                exact ⟨bit8 (by omega) z, Or.inl z, fal (fun y => by rw [hdis i y] at z; cases z)⟩)
            have hon : on (s ||| j) = on s + 2 := by
              have := on_cut hsj
              rw [hcut, c2] at this
              exact this
            obtain ⟨ms, hms, -⟩ := id hTs
            have hdiv : on s / 2 + 1 = on (s ||| j) / 2 := by omega
            have hold : tb (s ||| j) = -1 ∨ tb (s ||| j) = nI (on (s ||| j) / 2) := by
              by_cases z : Rk (fun i x => q ≤ bears N bk kd wd i x) p s j (s ||| j)
              · exact Or.inr ((hI.1 _ hS0).1 z)
              · exact Or.inl ((hI.1 _ hS0).2 z)
            have hI2 : IQ N (Rk (fun i x => q ≤ bears N bk kd wd i x) p s (j + 1)) (upd tb (s ||| j) (nI (on (s ||| j) / 2))) (max mo (on (s ||| j) / 2)) := by
              refine IQ_add hI hS0 (fun S hS => ?_)
              constructor
              · rintro (h' | ⟨x, h1, h2, h3, h4⟩)
                · exact Or.inl (Or.inl h')
                · rcases h4 with h4 | ⟨h4, h5⟩
                  · exact Or.inl (Or.inr ⟨x, h1, h2, h3, Or.inl h4⟩)
                  · by_cases z : x = j
                    · right
                      subst z
                      refine extb (fun i => ?_)
                      rw [Nat.testBit_or, Bool.or_eq_true, ← h4, cutb]
                      constructor
                      · intro y
                        by_cases z : x.testBit i = true
                        · exact Or.inr z
                        · exact Or.inl ⟨bit8 (by omega) y, y, fal z⟩
                      · rintro (y | y)
                        · exact y.2.1
                        · exact h1.2.2 i y
                    · exact Or.inl (Or.inr ⟨x, h1, h2, h3, Or.inr ⟨h4, by omega⟩⟩)
              · rintro (h' | h')
                · rcases h' with h' | ⟨x, h1, h2, h3, h4⟩
                  · exact Or.inl h'
                  · exact Or.inr ⟨x, h1, h2, h3, by omega⟩
                · subst h'
                  refine Or.inr ⟨j, ⟨by omega, c2, hsj⟩, ?_, by rw [hcut]; exact hTs, Or.inr ⟨hcut, by omega⟩⟩
                  show q ≤ bears N bk kd wd (p % 2) j
                  rw [hpar]
                  exact c3
            obtain ⟨tb', mo', k1, k2⟩ := ih (j + 1) n (max mo (on (s ||| j) / 2)) _ (by omega) (by omega) hI2
            refine ⟨tb', mo', k1, ?_⟩
            have hon8 := on_le (s ||| j)
            rw [nI_or, bdS (rdN (by omega) (by decide)), bdS (rdN (by omega) (by decide)), hts, ← nI_succ, hdiv, bdS (max9 (by omega) hold), bdS (wrN (by omega) (by decide)), bdS (rdN (by omega) (by decide)), upd_at, bdS (mxmn9 (by omega) (by omega)).1, ← nI_succ]
            exact k2
          · rw [if_pos (nI_lt (by omega) (by omega))]
            exact skip (fun S hS => Rk_skip (fun x z1 z2 z3 z4 z5 z6 => by
              subst z1
              rw [hpar] at z4
              exact c3 z4))
        · rw [if_neg (show ¬ nI (on j) = 2 from fun z => c2 (nI_inj (b := 2) (by omega) (by omega) z))]
          exact skip (fun S hS => Rk_skip (fun x z1 z2 z3 z4 z5 z6 => by subst z1; exact c2 z2))
      · rw [if_neg (fun z => c1 ((and0 (by omega)).mp z))]
        exact skip (fun S hS => Rk_skip (fun x z1 z2 z3 z4 z5 z6 => by
          subst z1
          apply c1
          refine extb (fun i => ?_)
          rw [Nat.testBit_and, Nat.zero_testBit, Bool.and_eq_true, ← z6, cutb]
          constructor
          · rintro ⟨y1, _, _, y2⟩
            rw [y1] at y2
            cases y2
          · intro y; cases y))
    · have hts : tb s = -1 := (hI.1 s hs).2 (fun z => hTs ((Rk_self (by omega)).mp z))
      refine ⟨tb, mo, IQ_congr hI (fun S hS => ?_), ?_⟩
      · constructor
        · rintro (h' | ⟨x, h1, h2, h3, h4⟩)
          · exact Or.inl h'
          · exact Or.inr ⟨x, h1, h2, h3, by omega⟩
        · rintro (h' | ⟨x, h1, h2, h3, h4⟩)
          · exact Or.inl h'
          · refine Or.inr ⟨x, h1, h2, h3, ?_⟩
            rcases h4 with h4 | ⟨h4, h5⟩
            · exact Or.inl h4
            · rw [h4] at h3; exact absurd h3 hTs
      · show fX9_friends_b80_body fu t r56 r72 _ _ _ _ _ _ _ _ _ = _
        unfold fX9_friends_b80_body
        rw [if_neg (nI_ge (by omega) (by omega)), bdS (rdN (by omega) (by decide)), hts, if_pos (by decide)]
theorem fr_set {N P q p : Nat} {bk kd wd sl : Nat → Nat} {t : Nat → Int32} {fu : Nat} {r56 : Int32 → Int32 → Int32 → Int32 → (Nat → Int32) → Int32 → Option (Int32 × (Nat → Int32) × Int32)} (hfu : 300 ≤ fu) (hT : TR N P bk kd wd sl t) (hq : q ≤ 36) (hp : p < P) : ∀ (k n mo : Nat) (tb : Nat → Int32), k ≤ 2 ^ N → k < n → IQ N (Rd (fun i x => q ≤ bears N bk kd wd i x) p k) tb mo → ∃ tb' mo', IQ N (Rd (fun i x => q ≤ bears N bk kd wd i x) p 0) tb' mo' ∧ fX9_friends_b72 fu t r56 n (nI q) (nI (2 ^ N)) (nI mo) (nI p) (nI k - 1) tb 0 = r56 (nI q) (nI (2 ^ N)) (nI mo') (nI p + 1) tb' 0 := by
  obtain ⟨hP1, hP8, hN⟩ := hT.1.2.2
  have h8 := pow8 hN
  intro k
  induction k with
  | zero =>
    intro n mo tb hk hn hI
    obtain ⟨n, rfl⟩ : ∃ n', n = n' + 1 := ⟨n - 1, by omega⟩
    refine ⟨tb, mo, hI, ?_⟩
    show fX9_friends_b72_body fu t r56 _ _ _ _ _ _ _ _ = _
    unfold fX9_friends_b72_body
    rw [if_pos (show nI 0 - 1 < 0 by decide)]
  | succ k ih =>
    intro n mo tb hk hn hI
    obtain ⟨n, rfl⟩ : ∃ n', n = n' + 1 := ⟨n - 1, by omega⟩
    obtain ⟨tb1, mo1, k1, k2⟩ := fr_in (fu := fu) (r56 := r56) (r72 := fX9_friends_b72 fu t r56 n) (s := k) (by omega) hT hq hp (by omega) (2 ^ N) 0 fu mo tb (by omega) (by omega) (IQ_congr hI (fun S _ => Rk_0.symm))
    obtain ⟨tb', mo', k3, k4⟩ := ih n mo1 tb1 (by omega) (by omega) (IQ_congr k1 (fun S hS => Rk_N hS))
    refine ⟨tb', mo', k3, ?_⟩
    show fX9_friends_b72_body fu t r56 _ _ _ _ _ _ _ _ = _
    unfold fX9_friends_b72_body
    rw [nI_pred, if_neg (show ¬ nI k < 0 from nI_pos (by omega))]
    refine Eq.trans k2 ?_
    rw [← Int32.sub_eq_add_neg]
    exact k4
theorem fr_init {N P q : Nat} {bk kd wd sl : Nat → Nat} {t : Nat → Int32} {fu : Nat} (hfu : 300 ≤ fu) (hT : TR N P bk kd wd sl t) : ∀ (m k n : Nat) (tb : Nat → Int32), 2 ^ N = k + m → m < n → (∀ S, S < k → tb S = if S = 0 then 0 else -1) → ∃ tb', (∀ S, S < 2 ^ N → tb' S = if S = 0 then 0 else -1) ∧ fX9_friends_b25 fu t n (nI q) (nI (2 ^ N)) (nI k) tb 0 = fX9_friends_b56 fu t fu (nI q) (nI (2 ^ N)) 0 0 tb' 0 := by
  obtain ⟨hP1, hP8, hN⟩ := hT.1.2.2
  have h8 := pow8 hN
  intro m
  induction m with
  | zero =>
    intro k n tb e hn hI
    obtain ⟨n, rfl⟩ : ∃ n', n = n' + 1 := ⟨n - 1, by omega⟩
    refine ⟨tb, fun S hS => hI S (by omega), ?_⟩
    show fX9_friends_b25_body fu t _ _ _ _ _ _ = _
    unfold fX9_friends_b25_body
    rw [if_pos (nI_le (by omega) (by omega))]
  | succ m ih =>
    intro k n tb e hn hI
    obtain ⟨n, rfl⟩ : ∃ n', n = n' + 1 := ⟨n - 1, by omega⟩
    obtain ⟨tb', k1, k2⟩ := ih (k + 1) n (upd tb k (if k = 0 then 0 else -1)) (by omega) (by omega) (fun S hS => by
      by_cases z : S = k
      · rw [z, upd_at]
      · rw [upd_ne z]; exact hI S (by omega))
    refine ⟨tb', k1, ?_⟩
    rw [← k2]
    show fX9_friends_b25_body fu t _ _ _ _ _ _ = _
    unfold fX9_friends_b25_body fX9_friends_b44
    rw [if_neg (nI_ge (by omega) (by omega)), bdS (wrN (by omega) (by decide)), bdS (wrN (by omega) (by decide)), ← nI_succ]
    by_cases z : k = 0
    · rw [if_pos (show nI k = 0 by rw [z]; rfl), if_pos z]
    · rw [if_neg (show ¬ nI k = 0 from nI_ne0 (by omega) (by omega)), if_neg z]
theorem friends9 {N P q : Nat} {bk kd wd sl : Nat → Nat} {t tb : Nat → Int32} {fu : Nat} (hfu : 300 ≤ fu) (hT : TR N P bk kd wd sl t) (hq : q ≤ 36) : ∃ v tb', fX9_friends_b25 fu t fu (nI q) (nI (2 ^ N)) 0 tb 0 = some (nI v, tb', 0) ∧ Gr (fun i x => q ≤ bears N bk kd wd i x) (2 ^ N - 1) (ce (P - P / 2) (P / 2)) v := by
  obtain ⟨hP1, hP8, hN⟩ := hT.1.2.2
  have h8 := pow8 hN
  have h1 := pow0 N
  obtain ⟨tb1, k1, k2⟩ := fr_init (q := q) (fu := fu) hfu hT (2 ^ N) 0 fu tb (by omega) (by omega) (fun S hS => by omega)
  have T0 : ∀ S, S < 2 ^ N → (Tk (fun i x => q ≤ bears N bk kd wd i x) 0 S ↔ S = 0) := fun S hS => by
    constructor
    · rintro ⟨m, h1, h2⟩
      have := (K_bound _ _ _ h2).2
      have e0 : ec 0 0 = 0 := rfl
      have e1 : ec 0 1 = 0 := rfl
      exact on_0 S (by omega) (by omega)
    · intro z
      exact ⟨0, by rw [z]; decide, trivial⟩
  have I0 : IQ N (Tk (fun i x => q ≤ bears N bk kd wd i x) 0) tb1 0 := by
    refine ⟨fun S hS => ⟨fun z => ?_, fun z => ?_⟩, ⟨0, by omega, (T0 0 (by omega)).mpr rfl, by decide⟩, fun S hS z => ?_⟩
    · rw [k1 S hS, if_pos ((T0 S hS).mp z), (T0 S hS).mp z]; decide
    · rw [k1 S hS, if_neg (fun y => z ((T0 S hS).mpr y))]
    · rw [(T0 S hS).mp z]; decide
  have main : ∃ z : Int32 × (Nat → Int32) × Int32, fX9_friends_b56 fu t fu (nI q) (nI (2 ^ N)) (nI 0) (nI 0) tb1 0 = some z ∧ ∃ v, z.1 = nI v ∧ z.2.2 = 0 ∧ Gr (fun i x => q ≤ bears N bk kd wd i x) (2 ^ N - 1) (ce (P - P / 2) (P / 2)) v := by
    refine lpI (N := P) (k0 := 0) (F := fun m p (y : (Nat → Int32) × Nat) => fX9_friends_b56 fu t m (nI q) (nI (2 ^ N)) (nI y.2) (nI p) y.1 0) (I := fun p y => IQ N (Tk (fun i x => q ≤ bears N bk kd wd i x) p) y.1 y.2) ?_ ?_ P 0 fu (tb1, 0) (Nat.le_refl _) I0 (by omega) (by omega)
    · rintro m ⟨tb2, mo⟩ hI
      refine ⟨(nI mo, tb2, 0), ?_, mo, rfl, rfl, ?_⟩
      · show fX9_friends_b56_body fu t _ _ _ _ _ _ _ = _
        unfold fX9_friends_b56_body
        rw [bdS hT.p, if_pos (nI_le (by omega) (by omega))]
      · obtain ⟨-, ⟨S, h2, ⟨m', h3, h4⟩, h5⟩, h6⟩ := hI
        have ee : ec P = ce (P - P / 2) (P / 2) := by
          unfold ec
          rw [show (P + 1) / 2 = P - P / 2 by omega]
        rw [ee] at h4
        have hall : ∀ T, T < 2 ^ N → sb T (2 ^ N - 1) := fun T hT' i hi => by
          rw [every_bit]
          refine decide_eq_true (Nat.lt_of_not_le (fun z => ?_))
          rw [Nat.testBit_lt_two_pow (Nat.lt_of_lt_of_le hT' (Nat.pow_le_pow_right (by omega) z))] at hi
          cases hi
        simp only at h5 h6
        refine ⟨?_, fun k hk => ?_⟩
        · rw [show mo = m' by omega]
          exact K_mono m' _ _ _ _ (hall S h2) (fun _ _ => Nat.le_refl _) h4
        · obtain ⟨T, g1, g2, g3, g4⟩ := K_exact _ _ _ hk
          have := h6 T (sb_lt g2 (by omega)) ⟨k, g3, by rw [ee]; exact g4⟩
          omega
    · rintro m p ⟨tb2, mo⟩ _ hp hI
      right
      obtain ⟨tb3, mo3, g1, g2⟩ := fr_set (fu := fu) (r56 := fX9_friends_b56 fu t m) (p := p) hfu hT hq hp (2 ^ N) fu mo tb2 (Nat.le_refl _) (by omega) (IQ_congr hI (fun S hS => by
        unfold Rd
        constructor
        · exact Or.inl
        · rintro (z | ⟨x, z1, z2, z3, z4⟩)
          · exact z
          · have := cut_lt (g := x) hS
            omega))
      refine ⟨(tb3, mo3), IQ_congr g1 (fun S hS => ?_), ?_⟩
      · rw [Tk_step]
        unfold Rd
        constructor
        · rintro (z | ⟨x, z1, z2, z3, z4⟩)
          · exact Or.inl z
          · exact Or.inr ⟨x, z1, z2, z3⟩
        · rintro (z | ⟨x, z1, z2, z3⟩)
          · exact Or.inl z
          · exact Or.inr ⟨x, z1, z2, z3, Nat.zero_le _⟩
      · show fX9_friends_b56_body fu t _ _ _ _ _ _ _ = _
        unfold fX9_friends_b56_body
        rw [bdS hT.p, if_neg (nI_ge (by omega) (by omega))]
        refine Eq.trans g2 ?_
        rw [← nI_succ]
  obtain ⟨⟨z1, z2, z3⟩, m1, v, m2, m3, m4⟩ := main
  simp only at m2 m3
  refine ⟨v, z2, ?_, m4⟩
  subst m3
  rw [m2] at m1
  exact k2.trans m1
theorem q_friends {N P : Nat} {bk kd wd sl : Nat → Nat} {th planks size sworn : Int32} {t bank kind word slow borne tb : Nat → Int32} {fu : Nat} (hfu : 300 ≤ fu) (hT : TR N P bk kd wd sl t) (hF : FR N P bk kd wd sl planks size sworn bank kind word slow) (hB : BT N bk kd wd borne) (l : Int32) : ∃ v tb', fX8_friends fu planks size borne l = some v ∧ fX9_friends fu t tb th l = some (v, tb', 0) := by
  obtain ⟨hP1, hP8, hN⟩ := hT.1.2.2
  have hw9 : ∀ a, a < N → wd a ≤ 9 := fun a ha => (hT.wf.2 a ha).2.2.1.2
  unfold fX8_friends fX9_friends
  rcases load1 (fu := fu) (x := l) with ⟨l1, l2⟩ | ⟨l1, l2, q, hq1, hq2, rfl⟩
  · exact ⟨-1, tb, by rw [bdS l2]; rfl, by rw [bdS l1]; rfl⟩
  rw [bdS l2, bdS l1, if10, if10]
  obtain ⟨v, h1, h2⟩ := heldX (fu := fu) (q := q) (by omega) hB hN hP8 hF.1.1 hF.1.2.1 hw9 hq2
  obtain ⟨w, tb', h3, h4⟩ := friends9 (fu := fu) (q := q) (tb := tb) hfu hT hq2
  refine ⟨nI v, tb', by rw [bdS h1], ?_⟩
  rw [bdS hT.n, nI_shl (by omega), h3, Gr_u h2 h4]
