-- HalfPlanks$History.lose()V
def fX3_lose (fu : Nat) (z_known : Int32) : Option (Int32) :=
  some (0)
set_option maxHeartbeats 4000000 in
set_option maxRecDepth 100000 in
theorem tX3_lose {l : Launch} {D : va_G} {cI cZ cQ : ClassId} {a_this a_ring : Nat} {z_known z_top : Int32} {fu : Nat} {o_z_known : Int32} (hf : fX3_lose fu z_known = some (o_z_known)) : Met l yX3_lose (.code yX3_lose cX3_lose 1 none :: TB) ({ frames := 0, cells := 0, slots := 0, locals := 0 } : Room) (rwP D (TY cI cZ cQ) [(a_this, .inr (3, [.ref a_ring, .int z_known, .int z_top]))] [.ref a_this]) (rwQ D none [(a_this, .inr (3, [.ref a_ring, .int o_z_known, .int z_top]))] (inW [(a_this, .inr (3, [.ref a_ring, .int z_known, .int z_top]))])) 0 0 (inW [(a_this, .inr (3, [.ref a_ring, .int z_known, .int z_top]))]) := by
  refine Met.ofW (cc := cX3_lose) (maxL := 1) (ret := none) (by decide) rfl ?_
  intro p e s m args below meth c s₁ B hml hv
  obtain ⟨rfl, hP, hKW, hD0⟩ := hv
  have hx := B.exec
  have hb := B.bytes
  have hr := B.returns
  have hts : ∀ w ∈ TB, w.before ([.ref a_this] : List Value).toArray s = true := fun w h => atoms_spec (ws := .code yX3_lose cX3_lose 1 none :: TB) B.pre w (List.mem_cons_of_mem _ h)
  have hown : s.vm.findClass RX3 = some m.cls := findClass_of_methodNamed B.named
  have hlocks := B.notSynchronized
  have hK := hKW.1
  have hD := inW_D hD0
  generalize hAe : inW [(a_this, .inr (3, [.ref a_ring, .int z_known, .int z_top]))] = A at hD ⊢
  have hS : va_S A s.heap s.heap [] := va_S.rf
  have hl := lv_entry [.ref a_this] (n := 1) (Nat.le_of_ble_eq_true rfl)
  rw [lg_entry_eq]
  generalize (lg_sl [.ref a_this] ++ List.replicate (1 - (lg_sl [.ref a_this]).length) Slot.unset).toArray = ls at hl ⊢
  have hl : lv_has ls 1 [(0, .ref a_this)] := hl
  show W p l e ({ frames := 0, cells := 0, slots := 0, locals := 0 } : Room) s m ([.ref a_this] : List Value).toArray below meth c s.heap [] 0 0 (MQ below (rwQ D none [(a_this, .inr (3, [.ref a_ring, .int o_z_known, .int z_top]))] A) ([.ref a_this] : List Value).toArray s 0 0 A) (F0 m 0 ls [])
  have hP : va_P D vwCl [(a_this, .inr (3, [.ref a_ring, .int z_known, .int z_top]))] s.heap := hP
  have hD : va_D A [(a_this, .inr (3, [.ref a_ring, .int z_known, .int z_top]))] := hD
  unfold fX3_lose at hf
  obtain ⟨H, hH⟩ : ∃ H, H = s.heap := ⟨_, rfl⟩
  obtain ⟨locs, hlo⟩ : ∃ q : List Loc, q = [] := ⟨_, rfl⟩
  have hS : va_S A s.heap H locs := by rw [hH, hlo]; exact hS
  rw [← hH] at hP
  suffices hgo : W p l e ({ frames := 0, cells := 0, slots := 0, locals := 0 } : Room) s m ([.ref a_this] : List Value).toArray below meth c H locs 0 0 (MQ below (rwQ D none [(a_this, .inr (3, [.ref a_ring, .int o_z_known, .int z_top]))] A) ([.ref a_this] : List Value).toArray s 0 0 A) (F0 m 0 ls []) by rw [hH, hlo] at hgo; exact hgo
  clear hH hlo
  refine lv_aload_n hx hb dX3_lose_0 rfl (lv_at hl 0 rfl) ?_
  refine lv_iconst (v := 0) hx hb dX3_lose_1 (by decide) ?_
  refine va_put (D := D) (ci := 3) (v := .int 0) (ty := .int) (C := RX3) (T := TX3) (N := 3) hx hb hts inTX3 tyX3 tyX3_ok nmX3 hown hK hP hD hS 0 rfl rfl 1 (by decide) (hts _ q204) (fun _ h9 => h9) rfl (by decide +kernel) rfl rfl (Nat.le_of_ble_eq_true rfl) dX3_lose_2 (fun H locs hP hD hS => ?_)
  have hP : va_P D vwCl [(a_this, .inr (3, [.ref a_ring, .int 0, .int z_top]))] H := hP
  have hD : va_D A [(a_this, .inr (3, [.ref a_ring, .int 0, .int z_top]))] := hD
  cases hf
  exact W.vret hx hb hr (fun t ht _ => ⟨rfl, by rw [ht]; exact hP, hS.F ht⟩) hS.2.2 dX3_lose_5
theorem kX3_lose {p : Program} {l : Launch} {e : Env} {R : Room} {s : State} {m : MethodId} {args : Array Value} {below : List Frame} {meth : Method} {c : Code} {H : Heap} {locs : List Loc} {cells slots : Nat} {Q : State → Prop} {cc : ByteArray} {nL pc index : Nat} {ls : Array Slot} {rest : List Value} {own : String} {D : va_G} {cI cZ cQ : ClassId} {a_this a_ring : Nat} {z_known z_top : Int32} {fu : Nat} {o_z_known : Int32} (hx : p.tables.exec = Jvm.exec) (hb : c.code = cc) (hml : c.maxLocals = nL) (hown : s.vm.findClass own = some m.cls) (hts : ∀ w ∈ TB, w.before args s = true) (hKW : KW D (TY cI cZ cQ) s) (hlk : Cond.methodLink own index yX3_lose ∈ TB) {ws : va_W} {A : Nat → Prop} {H0 : Heap} (hP : va_P D vwCl ws H) (hD : va_D A ws) (hS : va_S A H0 H locs) (is : List Nat) (hC : is.map (fun i => ws[i]?) = ([(a_this, .inr (3, [.ref a_ring, .int z_known, .int z_top]))] : va_W).map some) (hnd : va_nd is = true) (hf : fX3_lose fu z_known = some (o_z_known)) (hn : ls.size = nL) (hW : (rest.map fun v => v.category).sum ≤ 8) (hR : 0 + 1 ≤ R.frames ∧ 8 + (1 + 11) + 0 ≤ R.locals) (hcs : cells ≤ R.cells ∧ slots ≤ R.slots) (hdg : decode cc pc = .ok (.invokevirtual index, 3)) (kk : ∀ (H1 : Heap) (locs1 : List Loc), va_P D vwCl (rpl ws is [(a_this, .inr (3, [.ref a_ring, .int o_z_known, .int z_top]))]) H1 → va_D A (rpl ws is [(a_this, .inr (3, [.ref a_ring, .int o_z_known, .int z_top]))]) → va_S A H0 H1 locs1 → W p l e R s m args below meth c H1 locs1 cells slots Q (F0 m (pc + 3) ls (rest))) : W p l e R s m args below meth c H locs cells slots Q (F0 m pc ls (.ref a_this :: rest)) :=
  x_rw (va_runV (As := []) (rest := rest) ⟨hx, hb, hml, hown, hts⟩ (tX3_lose hf) (cwV 0 hts (tb_V hlk q517 q518 q44 q519) rfl rfl rfl (by decide +kernel) hR) ⟨rwB, va_recv hKW.1 (subP hP hC) (ci := 3) (q0 := 0) rfl rfl, fun U hU hW => ⟨rfl, by rw [hU]; exact subP hP hC, hKW.warm hW, subD hD hC hnd⟩⟩ rfl rfl hn rfl (lv_room hW) hdg hcs) hP hD hS is hC rfl kk
