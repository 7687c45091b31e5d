abbrev vwCl : List vw_C := [(RX0, TX0, 8), (RX1, TX1, 4), (RX2, TX2, 9), (RX3, TX3, 3), (RX4, TX4, 3), (RX5, TX5, 5), (RX6, TX6, 7), (RX7, TX7, 2), (RX8, TX8, 14), (RX9, TX9, 23)]
/-- the good words of the tables -/
def TB : List Cond := lw_tbl.filter goodWord
theorem tb_in {w : Cond} (i : Nat) (h : lw_tbl[i]? = some w) (hg : goodWord w = true) : w ∈ TB := List.mem_filter.mpr ⟨List.mem_of_getElem? h, hg⟩
theorem tb_gd (w : Cond) (h : w ∈ TB) : (w.onTables && w.keeps) = true ∨ ∃ ty, w = .arrayClass ty := good_of_word (List.mem_filter.mp h).2
theorem tb_law {args : Array Value} {s : State} (h : ∀ w ∈ lw_tbl, w.before args s = true) : ∀ w ∈ TB, w.before args s = true := fun w hw => h w (List.mem_filter.mp hw).1
theorem tb_one {w0 : Cond} (h : w0 ∈ TB) : GoodIn TB (w0 :: TB) := fun w hw => by
  rcases List.mem_cons.mp hw with rfl | q
  · exact ⟨h, tb_gd _ h⟩
  · exact ⟨q, tb_gd _ q⟩
theorem tb_V {own : String} {idx : Nat} {C : String} {y : MethodName} {w0 : Cond} (h1 : Cond.methodLink own idx y ∈ TB) (h2 : Cond.instanceMethod y ∈ TB) (h3 : Cond.selects C y y ∈ TB) (h4 : Cond.initialized C ∈ TB) (h5 : w0 ∈ TB) : GoodIn TB (wsV own idx C y (w0 :: TB)) := fun w hw => by
  unfold wsV at hw
  rcases List.mem_append.mp hw with q | q
  · have : w ∈ TB := by
      simp only [List.mem_cons, List.not_mem_nil, or_false] at q
      rcases q with rfl | rfl | rfl | rfl <;> assumption
    exact ⟨this, tb_gd _ this⟩
  · exact tb_one h5 w q
theorem tb_S {own : String} {idx : Nat} {y : MethodName} {w0 : Cond} (h1 : Cond.methodLink own idx y ∈ TB) (h2 : Cond.static y ∈ TB) (h4 : Cond.initialized y.cls ∈ TB) (h5 : w0 ∈ TB) : GoodIn TB (va_wsS own idx y (w0 :: TB)) := fun w hw => by
  unfold va_wsS at hw
  rcases List.mem_append.mp hw with q | q
  · have : w ∈ TB := by
      simp only [List.mem_cons, List.not_mem_nil, or_false] at q
      rcases q with rfl | rfl | rfl <;> assumption
    exact ⟨this, tb_gd _ this⟩
  · exact tb_one h5 w q
/-- the links across the nest -/
def NL : List (String × Nat × MethodName × String) := [("HalfPlanks", 19, yX0_init, "HalfPlanks"), ("HalfPlanks", 47, yX5_init, "HalfPlanks"), ("HalfPlanks$History", 24, yX5_init, "HalfPlanks"), ("HalfPlanks$Gambler", 11, yX5_init, "HalfPlanks"), ("HalfPlanks$Reader", 94, yX8_within, "HalfPlanks"), ("HalfPlanks$Reader", 91, yX8_has, "HalfPlanks"), ("HalfPlanks$Strength", 33, yX8_has, "HalfPlanks"), ("HalfPlanks$Promises", 39, yX8_has, "HalfPlanks"), ("HalfPlanks$Planner", 68, yX8_has, "HalfPlanks"), ("HalfPlanks$Gambler", 73, yX8_has, "HalfPlanks"), ("HalfPlanks$Gambler", 89, yX8_power, "HalfPlanks")]
def KW (D : va_G) (tys : List (ClassId × FieldType)) (U : State) : Prop := va_K D vwCl tys U ∧ ∀ q ∈ NL, va_Nw (.methodLinkNest q.1 q.2.1 q.2.2.1 q.2.2.2) U
theorem KW.warm {D : va_G} {tys : List (ClassId × FieldType)} {s U : State} (hW : s.WarmedH U.vm) (h : KW D tys s) : KW D tys U := ⟨va_K.moved hW.alike h.1, fun q hq => va_Nw.warmM hW (h.2 q hq)⟩
theorem KW.call {D : va_G} {tys : List (ClassId × FieldType)} {U : State} {g : JFrame} {mk : MethodId} {a : Array Value} (h : KW D tys U) : KW D tys (U.calling g mk a) := ⟨va_K.moved (u := U) (U := U.calling g mk a) (Vm.Alike.refl U.vm) h.1, fun q hq => va_Nw.same rfl (u := U) (U := U.calling g mk a) rfl (h.2 q hq)⟩
/-- which cells a world has -/
def inW (ws : va_W) (q : Nat) : Prop := ∃ (k : Nat) (e : va_E), ws[k]? = some (q, e)
def roP (D : va_G) (tys : List (ClassId × FieldType)) (ws : va_W) (av : List Value) : Array Value → State → Prop := va_Pc av (fun U => va_P D vwCl ws U.heap ∧ KW D tys U)
def roQ (ret : Option Value) : Array Value → State → Outcome → State → Prop := fun _ st o t => o = .returned ret ∧ t.heap = st.heap
def rwP (D : va_G) (tys : List (ClassId × FieldType)) (ws : va_W) (av : List Value) : Array Value → State → Prop := va_Pc av (fun U => va_P D vwCl ws U.heap ∧ KW D tys U ∧ va_D (fun _ => True) ws)
def rwQ (D : va_G) (ret : Option Value) (ws1 : va_W) (A : Nat → Prop) : Array Value → State → Outcome → State → Prop := fun _ st o t => o = .returned ret ∧ va_P D vwCl ws1 t.heap ∧ va_F A st t
theorem roB {D : va_G} {tys : List (ClassId × FieldType)} {ws : va_W} {av : List Value} : FrameBlind (roP D tys ws av) := fun _ _ _ _ h => ⟨h.1, h.2.1, h.2.2.call⟩
theorem rwB {D : va_G} {tys : List (ClassId × FieldType)} {ws : va_W} {av : List Value} : FrameBlind (rwP D tys ws av) := fun _ _ _ _ h => ⟨h.1, h.2.1, h.2.2.1.call, h.2.2.2⟩
theorem inW_D {A : Nat → Prop} {ws : va_W} (h : va_D A ws) : va_D (inW ws) ws := ⟨h.1, fun k q hk => ⟨k, q.2, hk⟩⟩
/-- a world with some cells put anew -/
def rpl : va_W → List Nat → va_W → va_W
  | ws, i :: is, c :: cs => rpl (ws.set i c) is cs
  | ws, _, _ => ws
theorem rpl_len : ∀ (is : List Nat) (cs ws : va_W), (rpl ws is cs).length = ws.length
  | [], _, _ => by simp [rpl]
  | _ :: _, [], _ => by simp [rpl]
  | i :: is, c :: cs, ws => by rw [rpl, rpl_len is cs, List.length_set]
theorem rpl_at : ∀ (is : List Nat) (cs ws : va_W) (k : Nat) (q : Nat × va_E), (rpl ws is cs)[k]? = some q → is.length = cs.length → (∃ j : Nat, cs[j]? = some q ∧ is[j]? = some k) ∨ (k ∉ is ∧ ws[k]? = some q)
  | [], cs, ws, k, q, h, _ => Or.inr ⟨by simp, by simpa [rpl] using h⟩
  | i :: is, [], ws, k, q, h, hl => by simp at hl
  | i :: is, c :: cs, ws, k, q, h, hl => by
    rw [rpl] at h
    rcases rpl_at is cs (ws.set i c) k q h (by simpa using hl) with ⟨j, h1, h2⟩ | ⟨h1, h2⟩
    · exact Or.inl ⟨j + 1, by simpa using h1, by simpa using h2⟩
    · by_cases hk : k = i
      · subst hk
        have hlt : k < (ws.set k c).length := (List.getElem?_eq_some_iff.mp h2).1
        rw [List.length_set] at hlt
        rw [List.getElem?_set_self hlt] at h2
        exact Or.inl ⟨0, by simpa using h2, by simp⟩
      · rw [List.getElem?_set_ne (Ne.symm hk)] at h2
        exact Or.inr ⟨by simp [hk, h1], h2⟩
theorem mapGet {ws w : va_W} {is : List Nat} (hs : is.map (fun i => ws[i]?) = w.map some) {k : Nat} {q : Nat × va_E} (hq : w[k]? = some q) : ∃ i, is[k]? = some i ∧ ws[i]? = some q := by
  have h1 : (is.map (fun i => ws[i]?))[k]? = some (some q) := by rw [hs, List.getElem?_map, hq]; rfl
  rw [List.getElem?_map] at h1
  cases hi : is[k]? with
  | none => rw [hi] at h1; cases h1
  | some i => rw [hi] at h1; exact ⟨i, rfl, Option.some.inj h1⟩
theorem mapGet2 {ws w : va_W} {is : List Nat} (hs : is.map (fun i => ws[i]?) = w.map some) {k i : Nat} (hi : is[k]? = some i) : ∃ q, w[k]? = some q ∧ ws[i]? = some q := by
  have h1 : (w.map some)[k]? = some (ws[i]?) := by rw [← hs, List.getElem?_map, hi]; rfl
  rw [List.getElem?_map] at h1
  cases hq : w[k]? with
  | none => rw [hq] at h1; cases h1
  | some q => rw [hq] at h1; exact ⟨q, rfl, (Option.some.inj h1).symm⟩
theorem rpl_P {D : va_G} {cl : List vw_C} {A : Nat → Prop} {ws wc wc1 : va_W} {H H1 : Heap} (hP : va_P D cl ws H) (hD : va_D A ws) (is : List Nat) (hC : is.map (fun i => ws[i]?) = wc.map some) (hl : wc1.map Prod.fst = wc.map Prod.fst)
    (hk : ∀ q : Nat, q < H.size → ¬ inW wc q → H1[q]? = H[q]?) (hP1 : va_P D cl wc1 H1) : va_P D cl (rpl ws is wc1) H1 := by
  have hlen : is.length = wc1.length := by
    have h1 := congrArg List.length hC
    have h2 := congrArg List.length hl
    simp only [List.length_map] at h1 h2
    omega
  intro k q hq
  rcases rpl_at is wc1 ws k q hq hlen with ⟨j, h1, -⟩ | ⟨h1, h2⟩
  · exact hP1 j q h1
  · refine (hP k q h2).kept (hk q.1 (hP k q h2).lt ?_)
    rintro ⟨j, e, hj⟩
    obtain ⟨i, hi1, hi2⟩ := mapGet hC hj
    have := hD.1 k i q (q.1, e) h2 hi2 rfl
    subst this
    exact h1 (List.mem_of_getElem? hi1)
theorem rpl_D {A : Nat → Prop} {ws wc wc1 : va_W} (hD : va_D A ws) (is : List Nat) (hC : is.map (fun i => ws[i]?) = wc.map some) (hl : wc1.map Prod.fst = wc.map Prod.fst) : va_D A (rpl ws is wc1) := by
  have hlen : is.length = wc1.length := by
    have h1 := congrArg List.length hC
    have h2 := congrArg List.length hl
    simp only [List.length_map] at h1 h2
    omega
  have key : ∀ (k : Nat) (q : Nat × va_E), (rpl ws is wc1)[k]? = some q → ∃ q0, ws[k]? = some q0 ∧ q0.1 = q.1 := by
    intro k q hq
    rcases rpl_at is wc1 ws k q hq hlen with ⟨j, h1, h2⟩ | ⟨h1, h2⟩
    · obtain ⟨q0, e1, e2⟩ := mapGet2 hC h2
      refine ⟨q0, e2, ?_⟩
      have e3 := congrArg (fun l => l[j]?) hl
      simp only [List.getElem?_map, h1, e1, Option.map_some] at e3
      exact (Option.some.inj e3).symm
    · exact ⟨q, h2, rfl⟩
  refine ⟨fun i j x y hi hj hxy => ?_, fun k q hk => ?_⟩
  · obtain ⟨x0, a1, a2⟩ := key i x hi
    obtain ⟨y0, b1, b2⟩ := key j y hj
    exact hD.1 i j x0 y0 a1 b1 (by rw [a2, b2]; exact hxy)
  · obtain ⟨q0, a1, a2⟩ := key k q hk
    rw [← a2]
    exact hD.2 k q0 a1
theorem D_same {A : Nat → Prop} {ws ws1 : va_W} (h : va_D A ws) (hl : ws1.map Prod.fst = ws.map Prod.fst) : va_D A ws1 := by
  have key : ∀ (k : Nat) (q : Nat × va_E), ws1[k]? = some q → ∃ q0, ws[k]? = some q0 ∧ q0.1 = q.1 := by
    intro k q hq
    have e3 := congrArg (fun l => l[k]?) hl
    simp only [List.getElem?_map, hq, Option.map_some] at e3
    cases hw : ws[k]? with
    | none => rw [hw] at e3; cases e3
    | some q0 => rw [hw] at e3; exact ⟨q0, rfl, (Option.some.inj e3).symm⟩
  refine ⟨fun i j x y hi hj hxy => ?_, fun k q hk => ?_⟩
  · obtain ⟨x0, a1, a2⟩ := key i x hi
    obtain ⟨y0, b1, b2⟩ := key j y hj
    exact h.1 i j x0 y0 a1 b1 (by rw [a2, b2]; exact hxy)
  · obtain ⟨q0, a1, a2⟩ := key k q hk
    rw [← a2]
    exact h.2 k q0 a1
-- partial steps, as Options
def rd (n : Nat) (f : Nat → Int32) (i : Int32) : Option Int32 := if i < 0 ∨ n ≤ i.toNatClampNeg then none else some (f i.toNatClampNeg)
def wr (n : Nat) (f : Nat → Int32) (i x : Int32) : Option (Nat → Int32) := if i < 0 ∨ n ≤ i.toNatClampNeg then none else some (upd f i.toNatClampNeg x)
def dvI (x y : Int32) : Option Int32 := if y = 0 then none else some (x / y)
def rmI (x y : Int32) : Option Int32 := if y = 0 then none else some (x - x / y * y)
def dvL (x y : Int64) : Option Int64 := if y = 0 then none else some (x / y)
def rmL (x y : Int64) : Option Int64 := if y = 0 then none else some (x - x / y * y)
def mx (x y : Int32) : Int32 := if x < y then y else x
def mn (x y : Int32) : Int32 := if y < x then y else x
theorem ob {α β : Type} {x : Option α} {k : α → Option β} {o : β} (h : x.bind k = some o) : ∃ v, x = some v ∧ k v = some o := by
  cases x with
  | none => cases h
  | some v => exact ⟨v, rfl, h⟩
theorem it {c : Prop} [Decidable c] {α : Type} {x y z : α} (h : (if c then x else y) = z) (hc : c) : x = z := by rw [if_pos hc] at h; exact h
theorem ie {c : Prop} [Decidable c] {α : Type} {x y z : α} (h : (if c then x else y) = z) (hc : ¬ c) : y = z := by rw [if_neg hc] at h; exact h
theorem rd_s {n : Nat} {f : Nat → Int32} {i v : Int32} (h : rd n f i = some v) : vp_in i n ∧ f i.toNatClampNeg = v := by
  unfold rd at h
  by_cases c : i < 0 ∨ n ≤ i.toNatClampNeg
  · rw [if_pos c] at h; cases h
  · rw [if_neg c] at h; exact ⟨c, Option.some.inj h⟩
theorem wr_s {n : Nat} {f g : Nat → Int32} {i x : Int32} (h : wr n f i x = some g) : vp_in i n ∧ upd f i.toNatClampNeg x = g := by
  unfold wr at h
  by_cases c : i < 0 ∨ n ≤ i.toNatClampNeg
  · rw [if_pos c] at h; cases h
  · rw [if_neg c] at h; exact ⟨c, Option.some.inj h⟩
section
variable {p : Program} {l : Launch} {e : Env} {R : Room} {s : State} {m : MethodId} {args : Array Value} {below : List Frame} {meth : Method} {c : Code} {H : Heap} {locs : List Loc} {cells slots : Nat} {Q : State → Prop} {cc : ByteArray} {pc : Nat} {ls : Array Slot} {rest : List Value} {D : va_G} {cl : List vw_C} {A : Nat → Prop} {a : Nat} {tys : List (ClassId × FieldType)} {ws : va_W} {H0 : Heap}
theorem x_iald (hx : p.tables.exec = Jvm.exec) (hb : c.code = cc) (hK : va_K D cl tys s) (hP : va_P D cl ws H) (q0 t0 : Nat) {cA : ClassId} {n : Nat} {f : Nat → Int32} (ha : ws[q0]? = some (a, .inl (cA, n, .inl f))) (ht : tys[t0]? = some (cA, .int)) {i v : Int32} (hv : rd n f i = some v) (hdg : decode cc pc = .ok (.iaload, 1))
    (kk : W p l e R s m args below meth c H locs cells slots Q (F0 m (pc + 1) ls (.int v :: rest))) : W p l e R s m args below meth c H locs cells slots Q (F0 m pc ls (.int i :: .ref a :: rest)) := by
  obtain ⟨h1, rfl⟩ := rd_s hv
  exact va_iald hx hb hK hP q0 t0 ha ht h1 hdg kk
theorem x_zald (hx : p.tables.exec = Jvm.exec) (hb : c.code = cc) (hK : va_K D cl tys s) (hP : va_P D cl ws H) (q0 t0 : Nat) {cA : ClassId} {n : Nat} {f : Nat → Int32} (ha : ws[q0]? = some (a, .inl (cA, n, .inl f))) (ht : tys[t0]? = some (cA, .boolean)) {i v : Int32} (hv : rd n f i = some v) (hdg : decode cc pc = .ok (.baload, 1))
    (kk : W p l e R s m args below meth c H locs cells slots Q (F0 m (pc + 1) ls (.int v :: rest))) : W p l e R s m args below meth c H locs cells slots Q (F0 m pc ls (.int i :: .ref a :: rest)) := by
  obtain ⟨h1, rfl⟩ := rd_s hv
  exact va_zald hx hb hK hP q0 t0 ha ht h1 hdg kk
theorem x_iast (hx : p.tables.exec = Jvm.exec) (hb : c.code = cc) (hK : va_K D cl tys s) (hP : va_P D cl ws H) (hD : va_D A ws) (hS : va_S A H0 H locs) (q0 t0 : Nat) {cA : ClassId} {n : Nat} {f g : Nat → Int32} (ha : ws[q0]? = some (a, .inl (cA, n, .inl f))) (ht : tys[t0]? = some (cA, .int)) {i x : Int32} (hv : wr n f i x = some g) (hdg : decode cc pc = .ok (.iastore, 1))
    (kk : ∀ (H1 : Heap) (locs1 : List Loc), va_P D cl (ws.set q0 (a, .inl (cA, n, .inl g))) H1 → va_D A (ws.set q0 (a, .inl (cA, n, .inl g))) → va_S A H0 H1 locs1 → W p l e R s m args below meth c H1 locs1 cells slots Q (F0 m (pc + 1) ls rest)) : W p l e R s m args below meth c H locs cells slots Q (F0 m pc ls (.int x :: .int i :: .ref a :: rest)) := by
  obtain ⟨h1, rfl⟩ := wr_s hv
  exact va_iast hx hb hK hP hD hS q0 t0 ha ht h1 hdg kk
theorem x_zast (hx : p.tables.exec = Jvm.exec) (hb : c.code = cc) (hK : va_K D cl tys s) (hP : va_P D cl ws H) (hD : va_D A ws) (hS : va_S A H0 H locs) (q0 t0 : Nat) {cA : ClassId} {n : Nat} {f g : Nat → Int32} (ha : ws[q0]? = some (a, .inl (cA, n, .inl f))) (ht : tys[t0]? = some (cA, .boolean)) {i x : Int32} (hv : wr n f i (vp_nar .boolean x) = some g) (hdg : decode cc pc = .ok (.bastore, 1))
    (kk : ∀ (H1 : Heap) (locs1 : List Loc), va_P D cl (ws.set q0 (a, .inl (cA, n, .inl g))) H1 → va_D A (ws.set q0 (a, .inl (cA, n, .inl g))) → va_S A H0 H1 locs1 → W p l e R s m args below meth c H1 locs1 cells slots Q (F0 m (pc + 1) ls rest)) : W p l e R s m args below meth c H locs cells slots Q (F0 m pc ls (.int x :: .int i :: .ref a :: rest)) := by
  obtain ⟨h1, rfl⟩ := wr_s hv
  exact va_zast hx hb hK hP hD hS q0 t0 ha ht h1 hdg kk
theorem x_idiv (hx : p.tables.exec = Jvm.exec) (hb : c.code = cc) {x y v : Int32} (hdg : decode cc pc = .ok (.idiv, 1)) (hv : dvI x y = some v) (kk : W p l e R s m args below meth c H locs cells slots Q (F0 m (pc + 1) ls (.int v :: rest))) : W p l e R s m args below meth c H locs cells slots Q (F0 m pc ls (.int y :: .int x :: rest)) := by
  unfold dvI at hv
  by_cases h0 : y = 0
  · rw [if_pos h0] at hv; cases hv
  · rw [if_neg h0] at hv; cases hv; exact lv_idiv hx hb hdg h0 kk
theorem x_irem (hx : p.tables.exec = Jvm.exec) (hb : c.code = cc) {x y v : Int32} (hdg : decode cc pc = .ok (.irem, 1)) (hv : rmI x y = some v) (kk : W p l e R s m args below meth c H locs cells slots Q (F0 m (pc + 1) ls (.int v :: rest))) : W p l e R s m args below meth c H locs cells slots Q (F0 m pc ls (.int y :: .int x :: rest)) := by
  unfold rmI at hv
  by_cases h0 : y = 0
  · rw [if_pos h0] at hv; cases hv
  · rw [if_neg h0] at hv; cases hv; exact lv_irem hx hb hdg h0 kk
theorem x_ldiv (hx : p.tables.exec = Jvm.exec) (hb : c.code = cc) {x y v : Int64} (hdg : decode cc pc = .ok (.ldiv, 1)) (hv : dvL x y = some v) (kk : W p l e R s m args below meth c H locs cells slots Q (F0 m (pc + 1) ls (.long v :: rest))) : W p l e R s m args below meth c H locs cells slots Q (F0 m pc ls (.long y :: .long x :: rest)) := by
  unfold dvL at hv
  by_cases h0 : y = 0
  · rw [if_pos h0] at hv; cases hv
  · rw [if_neg h0] at hv; cases hv; exact lv_ldiv hx hb hdg h0 kk
theorem x_lrem (hx : p.tables.exec = Jvm.exec) (hb : c.code = cc) {x y v : Int64} (hdg : decode cc pc = .ok (.lrem, 1)) (hv : rmL x y = some v) (kk : W p l e R s m args below meth c H locs cells slots Q (F0 m (pc + 1) ls (.long v :: rest))) : W p l e R s m args below meth c H locs cells slots Q (F0 m pc ls (.long y :: .long x :: rest)) := by
  unfold rmL at hv
  by_cases h0 : y = 0
  · rw [if_pos h0] at hv; cases hv
  · rw [if_neg h0] at hv; cases hv; exact lv_lrem hx hb hdg h0 kk
theorem x_ret {ret : Option Value} {st0 : List Value} {av : Array Value} (hr : va_Run p l e R s m args below meth c H locs cells slots 0 0 (F0 m pc ls st0) rest (roQ ret av) (fun _ => False)) (kk : W p l e R s m args below meth c H locs cells slots Q (F0 m (pc + 3) ls (ret.toList ++ rest))) : W p l e R s m args below meth c H locs cells slots Q (F0 m pc ls st0) := by
  intro T hT X
  obtain ⟨v, st₀, t, T', L, h0, X', hL, e1, -, ⟨hv, hh⟩, st⟩ := hr T hT X
  cases hv
  obtain ⟨t2, a1, b1⟩ := kk T' (by rw [e1, hh, h0]) (Stand.forget X' (fun q h => (hL q h).elim))
  exact ⟨t2, st t2 a1, b1⟩
theorem x_rw {ret : Option Value} {st0 : List Value} {av : Array Value} {wc wc1 : va_W} (hr : va_Run p l e R s m args below meth c H locs cells slots 0 0 (F0 m pc ls st0) rest (rwQ D ret wc1 (inW wc) av) (inW wc)) (hP : va_P D vwCl ws H) (hD : va_D A ws) (hS : va_S A H0 H locs) (is : List Nat) (hC : is.map (fun i => ws[i]?) = wc.map some) (hl : wc1.map Prod.fst = wc.map Prod.fst)
    (kk : ∀ (H1 : Heap) (locs1 : List Loc), va_P D vwCl (rpl ws is wc1) H1 → va_D A (rpl ws is wc1) → va_S A H0 H1 locs1 → W p l e R s m args below meth c H1 locs1 cells slots Q (F0 m (pc + 3) ls (ret.toList ++ rest))) : W p l e R s m args below meth c H locs cells slots Q (F0 m pc ls st0) := by
  intro T hT X
  obtain ⟨v, st₀, t, T', L, h0, X', hL, e1, -, ⟨hv, hP1, hz, hk⟩, st⟩ := hr T hT X
  cases hv
  rw [h0] at hz hk
  rw [← e1] at hz hk hP1
  have inA : ∀ q, inW wc q → A q := by
    rintro q ⟨k, e, hq⟩
    obtain ⟨i, -, h2⟩ := mapGet hC hq
    exact hD.2 i _ h2
  obtain ⟨t2, a1, b1⟩ := kk T'.heap (locs ++ L) (rpl_P hP hD is hC hl (fun q h1 h2 => hk q h1 h2) hP1) (rpl_D hD is hC hl)
    ⟨Nat.le_trans hS.1 hz, fun q h1 h2 => by rw [hk q (Nat.lt_of_lt_of_le h1 hS.1) (fun z => h2 (inA q z))]; exact hS.2.1 q h1 h2, fun q hq => by
      rcases List.mem_append.mp hq with h | h
      · exact hS.2.2 q h
      · exact inA _ (hL q h)⟩ T' rfl X'
  exact ⟨t2, st t2 a1, b1⟩
end
abbrev TY (cI cZ cQ : ClassId) : List (ClassId × FieldType) := [(cI, .int), (cZ, .boolean), (cQ, .object "HalfPlanks$Promises")]
theorem nn {α : Type} {o : α} {P : Prop} (h : none = some o) : P := by cases h
theorem mapInj {A : Nat → Prop} {ws wc : va_W} {is : List Nat} (hC : is.map (fun i => ws[i]?) = wc.map some) (hnd : va_nd is = true) (hD : va_D A ws) {i j : Nat} {x y : Nat × va_E} (hi : wc[i]? = some x) (hj : wc[j]? = some y) (hxy : x.1 = y.1) : i = j := by
  obtain ⟨i1, a1, a2⟩ := mapGet hC hi
  obtain ⟨j1, b1, b2⟩ := mapGet hC hj
  have := hD.1 i1 j1 x y a2 b2 hxy
  subst this
  exact va_nd_inj is hnd i j i1 a1 b1
theorem subP {D : va_G} {cl : List vw_C} {ws wc : va_W} {H : Heap} {is : List Nat} (hP : va_P D cl ws H) (hC : is.map (fun i => ws[i]?) = wc.map some) : va_P D cl wc H := fun k q hq => by
  obtain ⟨i, -, h2⟩ := mapGet hC hq
  exact hP i q h2
theorem subD {A : Nat → Prop} {ws wc : va_W} {is : List Nat} (hD : va_D A ws) (hC : is.map (fun i => ws[i]?) = wc.map some) (hnd : va_nd is = true) : va_D (fun _ => True) wc := ⟨fun i j x y hi hj hxy => mapInj hC hnd hD hi hj hxy, fun _ _ _ => trivial⟩
theorem allTB (ws : List Cond) (h : ws.all (fun w => decide (w ∈ TB)) = true) : ∀ w ∈ ws, w ∈ TB := fun w hw => by simpa using List.all_eq_true.mp h w hw
theorem inTX0 : ∀ w ∈ wsX00, w ∈ TB := allTB _ (by decide +kernel)
theorem inTX1 : ∀ w ∈ wsX10, w ∈ TB := allTB _ (by decide +kernel)
theorem inTX2 : ∀ w ∈ wsX20, w ∈ TB := allTB _ (by decide +kernel)
theorem inTX3 : ∀ w ∈ wsX30, w ∈ TB := allTB _ (by decide +kernel)
theorem inTX4 : ∀ w ∈ wsX40, w ∈ TB := allTB _ (by decide +kernel)
theorem inTX5 : ∀ w ∈ wsX50, w ∈ TB := allTB _ (by decide +kernel)
theorem inTX6 : ∀ w ∈ wsX60, w ∈ TB := allTB _ (by decide +kernel)
theorem inTX7 : ∀ w ∈ wsX70, w ∈ TB := allTB _ (by decide +kernel)
theorem inTX8 : ∀ w ∈ wsX80, w ∈ TB := allTB _ (by decide +kernel)
theorem inTX9 : ∀ w ∈ wsX90, w ∈ TB := allTB _ (by decide +kernel)
def zb (x : Int32) : Option Int32 := if x = 0 then some 0 else if x = 1 then some 1 else none
theorem zb_s {x v : Int32} (h : zb x = some v) : v = x ∧ narrow .boolean (.int x) = .int x := by
  unfold zb at h
  by_cases h0 : x = 0
  · rw [if_pos h0] at h; cases h; subst h0; exact ⟨rfl, rfl⟩
  · rw [if_neg h0] at h
    by_cases h1 : x = 1
    · rw [if_pos h1] at h; cases h; subst h1; exact ⟨rfl, rfl⟩
    · rw [if_neg h1] at h; cases h
