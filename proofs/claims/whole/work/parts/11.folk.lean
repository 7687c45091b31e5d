-- HalfPlanks$Folk.leave()V
set_option maxHeartbeats 4000000 in
set_option maxRecDepth 100000 in
theorem tX0_leave {l : Launch} {D : va_G} {cI cZ cQ : ClassId} {a_this a_bank a_kind a_word a_slow a_told : Nat} {z_planks z_size z_sworn : Int32} {z_told : Nat → Int32} {fu : Nat} {o_z_planks o_z_size o_z_sworn : Int32} {o_z_told : Nat → Int32} (hf : fX0_leave fu z_told z_planks z_size z_sworn = some (o_z_told, o_z_planks, o_z_size, o_z_sworn)) : Met l yX0_leave (.code yX0_leave cX0_leave 2 none :: TB) ({ frames := 0, cells := 0, slots := 0, locals := 0 } : Room) (rwP D (TY cI cZ cQ) [(a_this, .inr (0, [.int z_planks, .int z_size, .int z_sworn, .ref a_bank, .ref a_kind, .ref a_word, .ref a_slow, .ref a_told])), (a_told, .inl (cI, 8, .inl z_told))] [.ref a_this]) (rwQ D none [(a_this, .inr (0, [.int o_z_planks, .int o_z_size, .int o_z_sworn, .ref a_bank, .ref a_kind, .ref a_word, .ref a_slow, .ref a_told])), (a_told, .inl (cI, 8, .inl o_z_told))] (inW [(a_this, .inr (0, [.int z_planks, .int z_size, .int z_sworn, .ref a_bank, .ref a_kind, .ref a_word, .ref a_slow, .ref a_told])), (a_told, .inl (cI, 8, .inl z_told))])) 0 0 (inW [(a_this, .inr (0, [.int z_planks, .int z_size, .int z_sworn, .ref a_bank, .ref a_kind, .ref a_word, .ref a_slow, .ref a_told])), (a_told, .inl (cI, 8, .inl z_told))]) := by
  refine Met.ofW (cc := cX0_leave) (maxL := 2) (ret := none) (by decide) rfl ?_
  intro p e s m args below meth c s₁ B hml hv
  obtain ⟨rfl, hP, hKW, hD0⟩ := hv
  have hx := B.exec
  have hb := B.bytes
  have hr := B.returns
  have hts : ∀ w ∈ TB, w.before ([.ref a_this] : List Value).toArray s = true := fun w h => atoms_spec (ws := .code yX0_leave cX0_leave 2 none :: TB) B.pre w (List.mem_cons_of_mem _ h)
  have hown : s.vm.findClass RX0 = some m.cls := findClass_of_methodNamed B.named
  have hlocks := B.notSynchronized
  have hK := hKW.1
  have hD := inW_D hD0
  generalize hAe : inW [(a_this, .inr (0, [.int z_planks, .int z_size, .int z_sworn, .ref a_bank, .ref a_kind, .ref a_word, .ref a_slow, .ref a_told])), (a_told, .inl (cI, 8, .inl z_told))] = A at hD ⊢
  have hS : va_S A s.heap s.heap [] := va_S.rf
  have hl := lv_entry [.ref a_this] (n := 2) (Nat.le_of_ble_eq_true rfl)
  rw [lg_entry_eq]
  generalize (lg_sl [.ref a_this] ++ List.replicate (2 - (lg_sl [.ref a_this]).length) Slot.unset).toArray = ls at hl ⊢
  have hl : lv_has ls 2 [(0, .ref a_this)] := hl
  show W p l e ({ frames := 0, cells := 0, slots := 0, locals := 0 } : Room) s m ([.ref a_this] : List Value).toArray below meth c s.heap [] 0 0 (MQ below (rwQ D none [(a_this, .inr (0, [.int o_z_planks, .int o_z_size, .int o_z_sworn, .ref a_bank, .ref a_kind, .ref a_word, .ref a_slow, .ref a_told])), (a_told, .inl (cI, 8, .inl o_z_told))] A) ([.ref a_this] : List Value).toArray s 0 0 A) (F0 m 0 ls [])
  have hP : va_P D vwCl [(a_this, .inr (0, [.int z_planks, .int z_size, .int z_sworn, .ref a_bank, .ref a_kind, .ref a_word, .ref a_slow, .ref a_told])), (a_told, .inl (cI, 8, .inl z_told))] s.heap := hP
  have hD : va_D A [(a_this, .inr (0, [.int z_planks, .int z_size, .int z_sworn, .ref a_bank, .ref a_kind, .ref a_word, .ref a_slow, .ref a_told])), (a_told, .inl (cI, 8, .inl z_told))] := hD
  have hB17 : ∀ (n17 : Nat) (l1 : Int32) (z_told : Nat → Int32) (z_planks : Int32) (z_size : Int32) (z_sworn : Int32) (H : Heap) (locs : List Loc) (ls : Array Slot), va_P D vwCl [(a_this, .inr (0, [.int z_planks, .int z_size, .int z_sworn, .ref a_bank, .ref a_kind, .ref a_word, .ref a_slow, .ref a_told])), (a_told, .inl (cI, 8, .inl z_told))] H → va_D A [(a_this, .inr (0, [.int z_planks, .int z_size, .int z_sworn, .ref a_bank, .ref a_kind, .ref a_word, .ref a_slow, .ref a_told])), (a_told, .inl (cI, 8, .inl z_told))] → va_S A s.heap H locs → lv_has ls 2 [(0, .ref a_this), (1, .int l1)] → fX0_leave_b17 fu n17 l1 z_told z_planks z_size z_sworn = some (o_z_told, o_z_planks, o_z_size, o_z_sworn) → W p l e ({ frames := 0, cells := 0, slots := 0, locals := 0 } : Room) s m ([.ref a_this] : List Value).toArray below meth c H locs 0 0 (MQ below (rwQ D none [(a_this, .inr (0, [.int o_z_planks, .int o_z_size, .int o_z_sworn, .ref a_bank, .ref a_kind, .ref a_word, .ref a_slow, .ref a_told])), (a_told, .inl (cI, 8, .inl o_z_told))] A) ([.ref a_this] : List Value).toArray s 0 0 A) (F0 m 17 ls []) := by
    intro n17
    induction n17 with
    | zero => intro l1 z_told z_planks z_size z_sworn H locs ls hP hD hS hl hf; exact nn hf
    | succ n17 ih17 =>
      intro l1 z_told z_planks z_size z_sworn H locs ls hP hD hS hl hf
      replace hf : fX0_leave_b17_body fu (fX0_leave_b17 fu n17) l1 z_told z_planks z_size z_sworn = some (o_z_told, o_z_planks, o_z_size, o_z_sworn) := hf
      unfold fX0_leave_b17_body at hf
      refine lv_iload_n hx hb dX0_leave_17 rfl (lv_at hl 1 rfl) ?_
      refine lv_bipush (v := 8) hx hb dX0_leave_18 (by decide) ?_
      refine lv_icmp_ge (tgt := 36) hx hb dX0_leave_20 (by decide) (fun c1 => ?_) (fun c1 => ?_)
      · replace hf := it hf c1
        cases hf
        exact W.vret hx hb hr (fun t ht _ => ⟨rfl, by rw [ht]; exact hP, hS.F ht⟩) hS.2.2 dX0_leave_36
      · replace hf := ie hf c1
        refine lv_aload_n hx hb dX0_leave_23 rfl (lv_at hl 0 rfl) ?_
        refine va_get (D := D) (ci := 0) (v := .ref a_told) (C := RX0) (T := TX0) (N := 8) hx hb hts inTX0 hown hK hP 0 rfl rfl 7 (by decide) (hts _ q100) (fun _ h9 => h9) rfl dX0_leave_24 ?_
        refine lv_iload_n hx hb dX0_leave_27 rfl (lv_at hl 1 rfl) ?_
        refine lv_iconst (v := 0) hx hb dX0_leave_28 (by decide) ?_
        obtain ⟨g2, hg2, hf⟩ := ob hf
        refine x_iast hx hb hK hP hD hS 1 0 rfl rfl hg2 dX0_leave_29 (fun H locs hP hD hS => ?_)
        have hP : va_P D vwCl [(a_this, .inr (0, [.int z_planks, .int z_size, .int z_sworn, .ref a_bank, .ref a_kind, .ref a_word, .ref a_slow, .ref a_told])), (a_told, .inl (cI, 8, .inl g2))] H := hP
        have hD : va_D A [(a_this, .inr (0, [.int z_planks, .int z_size, .int z_sworn, .ref a_bank, .ref a_kind, .ref a_word, .ref a_slow, .ref a_told])), (a_told, .inl (cI, 8, .inl g2))] := hD
        refine lv_iinc (v := (l1 + 1)) (lv' := [(1, .int (l1 + 1)), (0, .ref a_this)]) hx hb dX0_leave_30 hl (k := 1) rfl rfl (by decide) rfl (fun ls hl => ?_)
        refine lv_goto (tgt := 17) hx hb dX0_leave_33 (by decide) ?_
        exact ih17 (l1 + 1) g2 z_planks z_size z_sworn H locs ls hP hD hS (lv_sub hl [1, 0] rfl) hf
  unfold fX0_leave at hf
  obtain ⟨H, hH⟩ : ∃ H, H = s.heap := ⟨_, rfl⟩
  obtain ⟨locs, hlo⟩ : ∃ q : List Loc, q = [] := ⟨_, rfl⟩
  have hS : va_S A s.heap H locs := by rw [hH, hlo]; exact hS
  rw [← hH] at hP
  suffices hgo : W p l e ({ frames := 0, cells := 0, slots := 0, locals := 0 } : Room) s m ([.ref a_this] : List Value).toArray below meth c H locs 0 0 (MQ below (rwQ D none [(a_this, .inr (0, [.int o_z_planks, .int o_z_size, .int o_z_sworn, .ref a_bank, .ref a_kind, .ref a_word, .ref a_slow, .ref a_told])), (a_told, .inl (cI, 8, .inl o_z_told))] A) ([.ref a_this] : List Value).toArray s 0 0 A) (F0 m 0 ls []) by rw [hH, hlo] at hgo; exact hgo
  clear hH hlo
  refine lv_aload_n hx hb dX0_leave_0 rfl (lv_at hl 0 rfl) ?_
  refine lv_iconst (v := 3) hx hb dX0_leave_1 (by decide) ?_
  refine va_put (D := D) (ci := 0) (v := .int 3) (ty := .int) (C := RX0) (T := TX0) (N := 8) hx hb hts inTX0 tyX0 tyX0_ok nmX0 hown hK hP hD hS 0 rfl rfl 0 (by decide) (hts _ q71) (fun _ h9 => h9) rfl (by decide +kernel) rfl rfl (Nat.le_of_ble_eq_true rfl) dX0_leave_2 (fun H locs hP hD hS => ?_)
  have hP : va_P D vwCl [(a_this, .inr (0, [.int 3, .int z_size, .int z_sworn, .ref a_bank, .ref a_kind, .ref a_word, .ref a_slow, .ref a_told])), (a_told, .inl (cI, 8, .inl z_told))] H := hP
  have hD : va_D A [(a_this, .inr (0, [.int 3, .int z_size, .int z_sworn, .ref a_bank, .ref a_kind, .ref a_word, .ref a_slow, .ref a_told])), (a_told, .inl (cI, 8, .inl z_told))] := hD
  refine lv_aload_n hx hb dX0_leave_5 rfl (lv_at hl 0 rfl) ?_
  refine lv_iconst (v := 0) hx hb dX0_leave_6 (by decide) ?_
  refine va_put (D := D) (ci := 0) (v := .int 0) (ty := .int) (C := RX0) (T := TX0) (N := 8) hx hb hts inTX0 tyX0 tyX0_ok nmX0 hown hK hP hD hS 0 rfl rfl 1 (by decide) (hts _ q78) (fun _ h9 => h9) rfl (by decide +kernel) rfl rfl (Nat.le_of_ble_eq_true rfl) dX0_leave_7 (fun H locs hP hD hS => ?_)
  have hP : va_P D vwCl [(a_this, .inr (0, [.int 3, .int 0, .int z_sworn, .ref a_bank, .ref a_kind, .ref a_word, .ref a_slow, .ref a_told])), (a_told, .inl (cI, 8, .inl z_told))] H := hP
  have hD : va_D A [(a_this, .inr (0, [.int 3, .int 0, .int z_sworn, .ref a_bank, .ref a_kind, .ref a_word, .ref a_slow, .ref a_told])), (a_told, .inl (cI, 8, .inl z_told))] := hD
  refine lv_aload_n hx hb dX0_leave_10 rfl (lv_at hl 0 rfl) ?_
  refine lv_iconst (v := 0) hx hb dX0_leave_11 (by decide) ?_
  refine va_put (D := D) (ci := 0) (v := .int 0) (ty := .int) (C := RX0) (T := TX0) (N := 8) hx hb hts inTX0 tyX0 tyX0_ok nmX0 hown hK hP hD hS 0 rfl rfl 2 (by decide) (hts _ q85) (fun _ h9 => h9) rfl (by decide +kernel) rfl rfl (Nat.le_of_ble_eq_true rfl) dX0_leave_12 (fun H locs hP hD hS => ?_)
  have hP : va_P D vwCl [(a_this, .inr (0, [.int 3, .int 0, .int 0, .ref a_bank, .ref a_kind, .ref a_word, .ref a_slow, .ref a_told])), (a_told, .inl (cI, 8, .inl z_told))] H := hP
  have hD : va_D A [(a_this, .inr (0, [.int 3, .int 0, .int 0, .ref a_bank, .ref a_kind, .ref a_word, .ref a_slow, .ref a_told])), (a_told, .inl (cI, 8, .inl z_told))] := hD
  refine lv_iconst (v := 0) hx hb dX0_leave_15 (by decide) ?_
  refine lv_istore_n (lv' := [(1, .int 0), (0, .ref a_this)]) hx hb dX0_leave_16 rfl hl (by decide) rfl (fun ls hl => ?_)
  exact hB17 fu 0 z_told 3 0 0 H locs ls hP hD hS (lv_sub hl [1, 0] rfl) hf
theorem kX0_leave {p : Program} {l : Launch} {e : Env} {R : Room} {s : State} {m : MethodId} {args : Array Value} {below : List Frame} {meth : Method} {c : Code} {H : Heap} {locs : List Loc} {cells slots : Nat} {Q : State → Prop} {cc : ByteArray} {nL pc index : Nat} {ls : Array Slot} {rest : List Value} {own : String} {D : va_G} {cI cZ cQ : ClassId} {a_this a_bank a_kind a_word a_slow a_told : Nat} {z_planks z_size z_sworn : Int32} {z_told : Nat → Int32} {fu : Nat} {o_z_planks o_z_size o_z_sworn : Int32} {o_z_told : Nat → Int32} (hx : p.tables.exec = Jvm.exec) (hb : c.code = cc) (hml : c.maxLocals = nL) (hown : s.vm.findClass own = some m.cls) (hts : ∀ w ∈ TB, w.before args s = true) (hKW : KW D (TY cI cZ cQ) s) (hlk : Cond.methodLink own index yX0_leave ∈ TB) {ws : va_W} {A : Nat → Prop} {H0 : Heap} (hP : va_P D vwCl ws H) (hD : va_D A ws) (hS : va_S A H0 H locs) (is : List Nat) (hC : is.map (fun i => ws[i]?) = ([(a_this, .inr (0, [.int z_planks, .int z_size, .int z_sworn, .ref a_bank, .ref a_kind, .ref a_word, .ref a_slow, .ref a_told])), (a_told, .inl (cI, 8, .inl z_told))] : va_W).map some) (hnd : va_nd is = true) (hf : fX0_leave fu z_told z_planks z_size z_sworn = some (o_z_told, o_z_planks, o_z_size, o_z_sworn)) (hn : ls.size = nL) (hW : (rest.map fun v => v.category).sum ≤ 8) (hR : 0 + 1 ≤ R.frames ∧ 8 + (2 + 11) + 0 ≤ R.locals) (hcs : cells ≤ R.cells ∧ slots ≤ R.slots) (hdg : decode cc pc = .ok (.invokevirtual index, 3)) (kk : ∀ (H1 : Heap) (locs1 : List Loc), va_P D vwCl (rpl ws is [(a_this, .inr (0, [.int o_z_planks, .int o_z_size, .int o_z_sworn, .ref a_bank, .ref a_kind, .ref a_word, .ref a_slow, .ref a_told])), (a_told, .inl (cI, 8, .inl o_z_told))]) H1 → va_D A (rpl ws is [(a_this, .inr (0, [.int o_z_planks, .int o_z_size, .int o_z_sworn, .ref a_bank, .ref a_kind, .ref a_word, .ref a_slow, .ref a_told])), (a_told, .inl (cI, 8, .inl o_z_told))]) → va_S A H0 H1 locs1 → W p l e R s m args below meth c H1 locs1 cells slots Q (F0 m (pc + 3) ls (rest))) : W p l e R s m args below meth c H locs cells slots Q (F0 m pc ls (.ref a_this :: rest)) :=
  x_rw (va_runV (As := []) (rest := rest) ⟨hx, hb, hml, hown, hts⟩ (tX0_leave hf) (cwV 0 hts (tb_V hlk q353 q354 q40 q355) rfl rfl rfl (by decide +kernel) hR) ⟨rwB, va_recv hKW.1 (subP hP hC) (ci := 0) (q0 := 0) rfl rfl, fun U hU hW => ⟨rfl, by rw [hU]; exact subP hP hC, hKW.warm hW, subD hD hC hnd⟩⟩ rfl rfl hn rfl (lv_room hW) hdg hcs) hP hD hS is hC rfl kk

-- HalfPlanks$Folk.join(IIII)V
set_option maxHeartbeats 4000000 in
set_option maxRecDepth 100000 in
theorem tX0_join {l : Launch} {D : va_G} {cI cZ cQ : ClassId} {a_this a_bank a_kind a_word a_slow a_told : Nat} {z_planks z_size z_sworn p1 p2 p3 p4 : Int32} {z_bank z_kind z_word z_slow : Nat → Int32} {fu : Nat} {o_z_size o_z_sworn : Int32} {o_z_bank o_z_kind o_z_word o_z_slow : Nat → Int32} (hf : fX0_join fu z_size z_bank z_kind z_word z_slow z_sworn p1 p2 p3 p4 = some (o_z_size, o_z_bank, o_z_kind, o_z_word, o_z_slow, o_z_sworn)) : Met l yX0_join (.code yX0_join cX0_join 5 none :: TB) ({ frames := 0, cells := 0, slots := 0, locals := 0 } : Room) (rwP D (TY cI cZ cQ) [(a_this, .inr (0, [.int z_planks, .int z_size, .int z_sworn, .ref a_bank, .ref a_kind, .ref a_word, .ref a_slow, .ref a_told])), (a_bank, .inl (cI, 8, .inl z_bank)), (a_kind, .inl (cI, 8, .inl z_kind)), (a_word, .inl (cI, 8, .inl z_word)), (a_slow, .inl (cI, 8, .inl z_slow))] [.ref a_this, .int p1, .int p2, .int p3, .int p4]) (rwQ D none [(a_this, .inr (0, [.int z_planks, .int o_z_size, .int o_z_sworn, .ref a_bank, .ref a_kind, .ref a_word, .ref a_slow, .ref a_told])), (a_bank, .inl (cI, 8, .inl o_z_bank)), (a_kind, .inl (cI, 8, .inl o_z_kind)), (a_word, .inl (cI, 8, .inl o_z_word)), (a_slow, .inl (cI, 8, .inl o_z_slow))] (inW [(a_this, .inr (0, [.int z_planks, .int z_size, .int z_sworn, .ref a_bank, .ref a_kind, .ref a_word, .ref a_slow, .ref a_told])), (a_bank, .inl (cI, 8, .inl z_bank)), (a_kind, .inl (cI, 8, .inl z_kind)), (a_word, .inl (cI, 8, .inl z_word)), (a_slow, .inl (cI, 8, .inl z_slow))])) 0 0 (inW [(a_this, .inr (0, [.int z_planks, .int z_size, .int z_sworn, .ref a_bank, .ref a_kind, .ref a_word, .ref a_slow, .ref a_told])), (a_bank, .inl (cI, 8, .inl z_bank)), (a_kind, .inl (cI, 8, .inl z_kind)), (a_word, .inl (cI, 8, .inl z_word)), (a_slow, .inl (cI, 8, .inl z_slow))]) := by
  refine Met.ofW (cc := cX0_join) (maxL := 5) (ret := none) (by decide) rfl ?_
  intro p e s m args below meth c s₁ B hml hv
  obtain ⟨rfl, hP, hKW, hD0⟩ := hv
  have hx := B.exec
  have hb := B.bytes
  have hr := B.returns
  have hts : ∀ w ∈ TB, w.before ([.ref a_this, .int p1, .int p2, .int p3, .int p4] : List Value).toArray s = true := fun w h => atoms_spec (ws := .code yX0_join cX0_join 5 none :: TB) B.pre w (List.mem_cons_of_mem _ h)
  have hown : s.vm.findClass RX0 = some m.cls := findClass_of_methodNamed B.named
  have hlocks := B.notSynchronized
  have hK := hKW.1
  have hD := inW_D hD0
  generalize hAe : inW [(a_this, .inr (0, [.int z_planks, .int z_size, .int z_sworn, .ref a_bank, .ref a_kind, .ref a_word, .ref a_slow, .ref a_told])), (a_bank, .inl (cI, 8, .inl z_bank)), (a_kind, .inl (cI, 8, .inl z_kind)), (a_word, .inl (cI, 8, .inl z_word)), (a_slow, .inl (cI, 8, .inl z_slow))] = A at hD ⊢
  have hS : va_S A s.heap s.heap [] := va_S.rf
  have hl := lv_entry [.ref a_this, .int p1, .int p2, .int p3, .int p4] (n := 5) (Nat.le_of_ble_eq_true rfl)
  rw [lg_entry_eq]
  generalize (lg_sl [.ref a_this, .int p1, .int p2, .int p3, .int p4] ++ List.replicate (5 - (lg_sl [.ref a_this, .int p1, .int p2, .int p3, .int p4]).length) Slot.unset).toArray = ls at hl ⊢
  have hl : lv_has ls 5 [(0, .ref a_this), (1, .int p1), (2, .int p2), (3, .int p3), (4, .int p4)] := hl
  show W p l e ({ frames := 0, cells := 0, slots := 0, locals := 0 } : Room) s m ([.ref a_this, .int p1, .int p2, .int p3, .int p4] : List Value).toArray below meth c s.heap [] 0 0 (MQ below (rwQ D none [(a_this, .inr (0, [.int z_planks, .int o_z_size, .int o_z_sworn, .ref a_bank, .ref a_kind, .ref a_word, .ref a_slow, .ref a_told])), (a_bank, .inl (cI, 8, .inl o_z_bank)), (a_kind, .inl (cI, 8, .inl o_z_kind)), (a_word, .inl (cI, 8, .inl o_z_word)), (a_slow, .inl (cI, 8, .inl o_z_slow))] A) ([.ref a_this, .int p1, .int p2, .int p3, .int p4] : List Value).toArray s 0 0 A) (F0 m 0 ls [])
  have hP : va_P D vwCl [(a_this, .inr (0, [.int z_planks, .int z_size, .int z_sworn, .ref a_bank, .ref a_kind, .ref a_word, .ref a_slow, .ref a_told])), (a_bank, .inl (cI, 8, .inl z_bank)), (a_kind, .inl (cI, 8, .inl z_kind)), (a_word, .inl (cI, 8, .inl z_word)), (a_slow, .inl (cI, 8, .inl z_slow))] s.heap := hP
  have hD : va_D A [(a_this, .inr (0, [.int z_planks, .int z_size, .int z_sworn, .ref a_bank, .ref a_kind, .ref a_word, .ref a_slow, .ref a_told])), (a_bank, .inl (cI, 8, .inl z_bank)), (a_kind, .inl (cI, 8, .inl z_kind)), (a_word, .inl (cI, 8, .inl z_word)), (a_slow, .inl (cI, 8, .inl z_slow))] := hD
  have hB71 : ∀ (z_size : Int32) (z_bank : Nat → Int32) (z_kind : Nat → Int32) (z_word : Nat → Int32) (z_slow : Nat → Int32) (z_sworn : Int32) (H : Heap) (locs : List Loc) (ls : Array Slot), va_P D vwCl [(a_this, .inr (0, [.int z_planks, .int z_size, .int z_sworn, .ref a_bank, .ref a_kind, .ref a_word, .ref a_slow, .ref a_told])), (a_bank, .inl (cI, 8, .inl z_bank)), (a_kind, .inl (cI, 8, .inl z_kind)), (a_word, .inl (cI, 8, .inl z_word)), (a_slow, .inl (cI, 8, .inl z_slow))] H → va_D A [(a_this, .inr (0, [.int z_planks, .int z_size, .int z_sworn, .ref a_bank, .ref a_kind, .ref a_word, .ref a_slow, .ref a_told])), (a_bank, .inl (cI, 8, .inl z_bank)), (a_kind, .inl (cI, 8, .inl z_kind)), (a_word, .inl (cI, 8, .inl z_word)), (a_slow, .inl (cI, 8, .inl z_slow))] → va_S A s.heap H locs → lv_has ls 5 [(0, .ref a_this)] → fX0_join_b71 fu z_size z_bank z_kind z_word z_slow z_sworn = some (o_z_size, o_z_bank, o_z_kind, o_z_word, o_z_slow, o_z_sworn) → W p l e ({ frames := 0, cells := 0, slots := 0, locals := 0 } : Room) s m ([.ref a_this, .int p1, .int p2, .int p3, .int p4] : List Value).toArray below meth c H locs 0 0 (MQ below (rwQ D none [(a_this, .inr (0, [.int z_planks, .int o_z_size, .int o_z_sworn, .ref a_bank, .ref a_kind, .ref a_word, .ref a_slow, .ref a_told])), (a_bank, .inl (cI, 8, .inl o_z_bank)), (a_kind, .inl (cI, 8, .inl o_z_kind)), (a_word, .inl (cI, 8, .inl o_z_word)), (a_slow, .inl (cI, 8, .inl o_z_slow))] A) ([.ref a_this, .int p1, .int p2, .int p3, .int p4] : List Value).toArray s 0 0 A) (F0 m 71 ls []) := by
    intro z_size z_bank z_kind z_word z_slow z_sworn H locs ls hP hD hS hl hf
    unfold fX0_join_b71 at hf
    refine lv_aload_n hx hb dX0_join_71 rfl (lv_at hl 0 rfl) ?_
    refine lv_dup hx hb dX0_join_72 rfl ?_
    refine va_get (D := D) (ci := 0) (v := .int z_size) (C := RX0) (T := TX0) (N := 8) hx hb hts inTX0 hown hK hP 0 rfl rfl 1 (by decide) (hts _ q78) (fun _ h9 => h9) rfl dX0_join_73 ?_
    refine lv_iconst (v := 1) hx hb dX0_join_76 (by decide) ?_
    refine lv_iadd hx hb dX0_join_77 ?_
    refine va_put (D := D) (ci := 0) (v := .int (z_size + 1)) (ty := .int) (C := RX0) (T := TX0) (N := 8) hx hb hts inTX0 tyX0 tyX0_ok nmX0 hown hK hP hD hS 0 rfl rfl 1 (by decide) (hts _ q78) (fun _ h9 => h9) rfl (by decide +kernel) rfl rfl (Nat.le_of_ble_eq_true rfl) dX0_join_78 (fun H locs hP hD hS => ?_)
    have hP : va_P D vwCl [(a_this, .inr (0, [.int z_planks, .int (z_size + 1), .int z_sworn, .ref a_bank, .ref a_kind, .ref a_word, .ref a_slow, .ref a_told])), (a_bank, .inl (cI, 8, .inl z_bank)), (a_kind, .inl (cI, 8, .inl z_kind)), (a_word, .inl (cI, 8, .inl z_word)), (a_slow, .inl (cI, 8, .inl z_slow))] H := hP
    have hD : va_D A [(a_this, .inr (0, [.int z_planks, .int (z_size + 1), .int z_sworn, .ref a_bank, .ref a_kind, .ref a_word, .ref a_slow, .ref a_told])), (a_bank, .inl (cI, 8, .inl z_bank)), (a_kind, .inl (cI, 8, .inl z_kind)), (a_word, .inl (cI, 8, .inl z_word)), (a_slow, .inl (cI, 8, .inl z_slow))] := hD
    cases hf
    exact W.vret hx hb hr (fun t ht _ => ⟨rfl, by rw [ht]; exact hP, hS.F ht⟩) hS.2.2 dX0_join_81
  unfold fX0_join at hf
  obtain ⟨H, hH⟩ : ∃ H, H = s.heap := ⟨_, rfl⟩
  obtain ⟨locs, hlo⟩ : ∃ q : List Loc, q = [] := ⟨_, rfl⟩
  have hS : va_S A s.heap H locs := by rw [hH, hlo]; exact hS
  rw [← hH] at hP
  suffices hgo : W p l e ({ frames := 0, cells := 0, slots := 0, locals := 0 } : Room) s m ([.ref a_this, .int p1, .int p2, .int p3, .int p4] : List Value).toArray below meth c H locs 0 0 (MQ below (rwQ D none [(a_this, .inr (0, [.int z_planks, .int o_z_size, .int o_z_sworn, .ref a_bank, .ref a_kind, .ref a_word, .ref a_slow, .ref a_told])), (a_bank, .inl (cI, 8, .inl o_z_bank)), (a_kind, .inl (cI, 8, .inl o_z_kind)), (a_word, .inl (cI, 8, .inl o_z_word)), (a_slow, .inl (cI, 8, .inl o_z_slow))] A) ([.ref a_this, .int p1, .int p2, .int p3, .int p4] : List Value).toArray s 0 0 A) (F0 m 0 ls []) by rw [hH, hlo] at hgo; exact hgo
  clear hH hlo
  refine lv_aload_n hx hb dX0_join_0 rfl (lv_at hl 0 rfl) ?_
  refine va_get (D := D) (ci := 0) (v := .int z_size) (C := RX0) (T := TX0) (N := 8) hx hb hts inTX0 hown hK hP 0 rfl rfl 1 (by decide) (hts _ q78) (fun _ h9 => h9) rfl dX0_join_1 ?_
  refine lv_bipush (v := 8) hx hb dX0_join_4 (by decide) ?_
  refine lv_icmp_lt (tgt := 10) hx hb dX0_join_6 (by decide) (fun c1 => ?_) (fun c1 => ?_)
  · replace hf := it hf c1
    refine lv_aload_n hx hb dX0_join_10 rfl (lv_at hl 0 rfl) ?_
    refine va_get (D := D) (ci := 0) (v := .ref a_bank) (C := RX0) (T := TX0) (N := 8) hx hb hts inTX0 hown hK hP 0 rfl rfl 3 (by decide) (hts _ q86) (fun _ h9 => h9) rfl dX0_join_11 ?_
    refine lv_aload_n hx hb dX0_join_14 rfl (lv_at hl 0 rfl) ?_
    refine va_get (D := D) (ci := 0) (v := .int z_size) (C := RX0) (T := TX0) (N := 8) hx hb hts inTX0 hown hK hP 0 rfl rfl 1 (by decide) (hts _ q78) (fun _ h9 => h9) rfl dX0_join_15 ?_
    refine lv_iload_n hx hb dX0_join_18 rfl (lv_at hl 1 rfl) ?_
    obtain ⟨g2, hg2, hf⟩ := ob hf
    refine x_iast hx hb hK hP hD hS 1 0 rfl rfl hg2 dX0_join_19 (fun H locs hP hD hS => ?_)
    have hP : va_P D vwCl [(a_this, .inr (0, [.int z_planks, .int z_size, .int z_sworn, .ref a_bank, .ref a_kind, .ref a_word, .ref a_slow, .ref a_told])), (a_bank, .inl (cI, 8, .inl g2)), (a_kind, .inl (cI, 8, .inl z_kind)), (a_word, .inl (cI, 8, .inl z_word)), (a_slow, .inl (cI, 8, .inl z_slow))] H := hP
    have hD : va_D A [(a_this, .inr (0, [.int z_planks, .int z_size, .int z_sworn, .ref a_bank, .ref a_kind, .ref a_word, .ref a_slow, .ref a_told])), (a_bank, .inl (cI, 8, .inl g2)), (a_kind, .inl (cI, 8, .inl z_kind)), (a_word, .inl (cI, 8, .inl z_word)), (a_slow, .inl (cI, 8, .inl z_slow))] := hD
    refine lv_aload_n hx hb dX0_join_20 rfl (lv_at hl 0 rfl) ?_
    refine va_get (D := D) (ci := 0) (v := .ref a_kind) (C := RX0) (T := TX0) (N := 8) hx hb hts inTX0 hown hK hP 0 rfl rfl 4 (by decide) (hts _ q90) (fun _ h9 => h9) rfl dX0_join_21 ?_
    refine lv_aload_n hx hb dX0_join_24 rfl (lv_at hl 0 rfl) ?_
    refine va_get (D := D) (ci := 0) (v := .int z_size) (C := RX0) (T := TX0) (N := 8) hx hb hts inTX0 hown hK hP 0 rfl rfl 1 (by decide) (hts _ q78) (fun _ h9 => h9) rfl dX0_join_25 ?_
    refine lv_iload_n hx hb dX0_join_28 rfl (lv_at hl 2 rfl) ?_
    obtain ⟨g3, hg3, hf⟩ := ob hf
    refine x_iast hx hb hK hP hD hS 2 0 rfl rfl hg3 dX0_join_29 (fun H locs hP hD hS => ?_)
    have hP : va_P D vwCl [(a_this, .inr (0, [.int z_planks, .int z_size, .int z_sworn, .ref a_bank, .ref a_kind, .ref a_word, .ref a_slow, .ref a_told])), (a_bank, .inl (cI, 8, .inl g2)), (a_kind, .inl (cI, 8, .inl g3)), (a_word, .inl (cI, 8, .inl z_word)), (a_slow, .inl (cI, 8, .inl z_slow))] H := hP
    have hD : va_D A [(a_this, .inr (0, [.int z_planks, .int z_size, .int z_sworn, .ref a_bank, .ref a_kind, .ref a_word, .ref a_slow, .ref a_told])), (a_bank, .inl (cI, 8, .inl g2)), (a_kind, .inl (cI, 8, .inl g3)), (a_word, .inl (cI, 8, .inl z_word)), (a_slow, .inl (cI, 8, .inl z_slow))] := hD
    refine lv_aload_n hx hb dX0_join_30 rfl (lv_at hl 0 rfl) ?_
    refine va_get (D := D) (ci := 0) (v := .ref a_word) (C := RX0) (T := TX0) (N := 8) hx hb hts inTX0 hown hK hP 0 rfl rfl 5 (by decide) (hts _ q93) (fun _ h9 => h9) rfl dX0_join_31 ?_
    refine lv_aload_n hx hb dX0_join_34 rfl (lv_at hl 0 rfl) ?_
    refine va_get (D := D) (ci := 0) (v := .int z_size) (C := RX0) (T := TX0) (N := 8) hx hb hts inTX0 hown hK hP 0 rfl rfl 1 (by decide) (hts _ q78) (fun _ h9 => h9) rfl dX0_join_35 ?_
    refine lv_iload_n hx hb dX0_join_38 rfl (lv_at hl 3 rfl) ?_
    obtain ⟨g4, hg4, hf⟩ := ob hf
    refine x_iast hx hb hK hP hD hS 3 0 rfl rfl hg4 dX0_join_39 (fun H locs hP hD hS => ?_)
    have hP : va_P D vwCl [(a_this, .inr (0, [.int z_planks, .int z_size, .int z_sworn, .ref a_bank, .ref a_kind, .ref a_word, .ref a_slow, .ref a_told])), (a_bank, .inl (cI, 8, .inl g2)), (a_kind, .inl (cI, 8, .inl g3)), (a_word, .inl (cI, 8, .inl g4)), (a_slow, .inl (cI, 8, .inl z_slow))] H := hP
    have hD : va_D A [(a_this, .inr (0, [.int z_planks, .int z_size, .int z_sworn, .ref a_bank, .ref a_kind, .ref a_word, .ref a_slow, .ref a_told])), (a_bank, .inl (cI, 8, .inl g2)), (a_kind, .inl (cI, 8, .inl g3)), (a_word, .inl (cI, 8, .inl g4)), (a_slow, .inl (cI, 8, .inl z_slow))] := hD
    refine lv_aload_n hx hb dX0_join_40 rfl (lv_at hl 0 rfl) ?_
    refine va_get (D := D) (ci := 0) (v := .ref a_slow) (C := RX0) (T := TX0) (N := 8) hx hb hts inTX0 hown hK hP 0 rfl rfl 6 (by decide) (hts _ q96) (fun _ h9 => h9) rfl dX0_join_41 ?_
    refine lv_aload_n hx hb dX0_join_44 rfl (lv_at hl 0 rfl) ?_
    refine va_get (D := D) (ci := 0) (v := .int z_size) (C := RX0) (T := TX0) (N := 8) hx hb hts inTX0 hown hK hP 0 rfl rfl 1 (by decide) (hts _ q78) (fun _ h9 => h9) rfl dX0_join_45 ?_
    refine lv_iload hx hb dX0_join_48 (lv_at hl 4 rfl) ?_
    obtain ⟨g5, hg5, hf⟩ := ob hf
    refine x_iast hx hb hK hP hD hS 4 0 rfl rfl hg5 dX0_join_50 (fun H locs hP hD hS => ?_)
    have hP : va_P D vwCl [(a_this, .inr (0, [.int z_planks, .int z_size, .int z_sworn, .ref a_bank, .ref a_kind, .ref a_word, .ref a_slow, .ref a_told])), (a_bank, .inl (cI, 8, .inl g2)), (a_kind, .inl (cI, 8, .inl g3)), (a_word, .inl (cI, 8, .inl g4)), (a_slow, .inl (cI, 8, .inl g5))] H := hP
    have hD : va_D A [(a_this, .inr (0, [.int z_planks, .int z_size, .int z_sworn, .ref a_bank, .ref a_kind, .ref a_word, .ref a_slow, .ref a_told])), (a_bank, .inl (cI, 8, .inl g2)), (a_kind, .inl (cI, 8, .inl g3)), (a_word, .inl (cI, 8, .inl g4)), (a_slow, .inl (cI, 8, .inl g5))] := hD
    refine lv_iload_n hx hb dX0_join_51 rfl (lv_at hl 2 rfl) ?_
    refine lv_iconst (v := 3) hx hb dX0_join_52 (by decide) ?_
    refine lv_icmp_ne (tgt := 71) hx hb dX0_join_53 (by decide) (fun c6 => ?_) (fun c6 => ?_)
    · replace hf := ie hf c6
      exact hB71 z_size g2 g3 g4 g5 z_sworn H locs ls hP hD hS (lv_sub hl [0] rfl) hf
    · replace hf := it hf c6
      refine lv_aload_n hx hb dX0_join_56 rfl (lv_at hl 0 rfl) ?_
      refine lv_dup hx hb dX0_join_57 rfl ?_
      refine va_get (D := D) (ci := 0) (v := .int z_sworn) (C := RX0) (T := TX0) (N := 8) hx hb hts inTX0 hown hK hP 0 rfl rfl 2 (by decide) (hts _ q85) (fun _ h9 => h9) rfl dX0_join_58 ?_
      refine lv_iconst (v := 1) hx hb dX0_join_61 (by decide) ?_
      refine lv_aload_n hx hb dX0_join_62 rfl (lv_at hl 0 rfl) ?_
      refine va_get (D := D) (ci := 0) (v := .int z_size) (C := RX0) (T := TX0) (N := 8) hx hb hts inTX0 hown hK hP 0 rfl rfl 1 (by decide) (hts _ q78) (fun _ h9 => h9) rfl dX0_join_63 ?_
      refine lv_ishl hx hb dX0_join_66 ?_
      refine lv_ior hx hb dX0_join_67 ?_
      refine va_put (D := D) (ci := 0) (v := .int (z_sworn ||| ((1 : Int32) <<< (z_size &&& 31)))) (ty := .int) (C := RX0) (T := TX0) (N := 8) hx hb hts inTX0 tyX0 tyX0_ok nmX0 hown hK hP hD hS 0 rfl rfl 2 (by decide) (hts _ q85) (fun _ h9 => h9) rfl (by decide +kernel) rfl rfl (Nat.le_of_ble_eq_true rfl) dX0_join_68 (fun H locs hP hD hS => ?_)
      have hP : va_P D vwCl [(a_this, .inr (0, [.int z_planks, .int z_size, .int (z_sworn ||| ((1 : Int32) <<< (z_size &&& 31))), .ref a_bank, .ref a_kind, .ref a_word, .ref a_slow, .ref a_told])), (a_bank, .inl (cI, 8, .inl g2)), (a_kind, .inl (cI, 8, .inl g3)), (a_word, .inl (cI, 8, .inl g4)), (a_slow, .inl (cI, 8, .inl g5))] H := hP
      have hD : va_D A [(a_this, .inr (0, [.int z_planks, .int z_size, .int (z_sworn ||| ((1 : Int32) <<< (z_size &&& 31))), .ref a_bank, .ref a_kind, .ref a_word, .ref a_slow, .ref a_told])), (a_bank, .inl (cI, 8, .inl g2)), (a_kind, .inl (cI, 8, .inl g3)), (a_word, .inl (cI, 8, .inl g4)), (a_slow, .inl (cI, 8, .inl g5))] := hD
      exact hB71 z_size g2 g3 g4 g5 (z_sworn ||| ((1 : Int32) <<< (z_size &&& 31))) H locs ls hP hD hS (lv_sub hl [0] rfl) hf
  · replace hf := ie hf c1
    cases hf
    exact W.vret hx hb hr (fun t ht _ => ⟨rfl, by rw [ht]; exact hP, hS.F ht⟩) hS.2.2 dX0_join_9
theorem kX0_join {p : Program} {l : Launch} {e : Env} {R : Room} {s : State} {m : MethodId} {args : Array Value} {below : List Frame} {meth : Method} {c : Code} {H : Heap} {locs : List Loc} {cells slots : Nat} {Q : State → Prop} {cc : ByteArray} {nL pc index : Nat} {ls : Array Slot} {rest : List Value} {own : String} {D : va_G} {cI cZ cQ : ClassId} {a_this a_bank a_kind a_word a_slow a_told : Nat} {z_planks z_size z_sworn p1 p2 p3 p4 : Int32} {z_bank z_kind z_word z_slow : Nat → Int32} {fu : Nat} {o_z_size o_z_sworn : Int32} {o_z_bank o_z_kind o_z_word o_z_slow : Nat → Int32} (hx : p.tables.exec = Jvm.exec) (hb : c.code = cc) (hml : c.maxLocals = nL) (hown : s.vm.findClass own = some m.cls) (hts : ∀ w ∈ TB, w.before args s = true) (hKW : KW D (TY cI cZ cQ) s) (hlk : Cond.methodLink own index yX0_join ∈ TB) {ws : va_W} {A : Nat → Prop} {H0 : Heap} (hP : va_P D vwCl ws H) (hD : va_D A ws) (hS : va_S A H0 H locs) (is : List Nat) (hC : is.map (fun i => ws[i]?) = ([(a_this, .inr (0, [.int z_planks, .int z_size, .int z_sworn, .ref a_bank, .ref a_kind, .ref a_word, .ref a_slow, .ref a_told])), (a_bank, .inl (cI, 8, .inl z_bank)), (a_kind, .inl (cI, 8, .inl z_kind)), (a_word, .inl (cI, 8, .inl z_word)), (a_slow, .inl (cI, 8, .inl z_slow))] : va_W).map some) (hnd : va_nd is = true) (hf : fX0_join fu z_size z_bank z_kind z_word z_slow z_sworn p1 p2 p3 p4 = some (o_z_size, o_z_bank, o_z_kind, o_z_word, o_z_slow, o_z_sworn)) (hn : ls.size = nL) (hW : (rest.map fun v => v.category).sum ≤ 8) (hR : 0 + 1 ≤ R.frames ∧ 8 + (5 + 11) + 0 ≤ R.locals) (hcs : cells ≤ R.cells ∧ slots ≤ R.slots) (hdg : decode cc pc = .ok (.invokevirtual index, 3)) (kk : ∀ (H1 : Heap) (locs1 : List Loc), va_P D vwCl (rpl ws is [(a_this, .inr (0, [.int z_planks, .int o_z_size, .int o_z_sworn, .ref a_bank, .ref a_kind, .ref a_word, .ref a_slow, .ref a_told])), (a_bank, .inl (cI, 8, .inl o_z_bank)), (a_kind, .inl (cI, 8, .inl o_z_kind)), (a_word, .inl (cI, 8, .inl o_z_word)), (a_slow, .inl (cI, 8, .inl o_z_slow))]) H1 → va_D A (rpl ws is [(a_this, .inr (0, [.int z_planks, .int o_z_size, .int o_z_sworn, .ref a_bank, .ref a_kind, .ref a_word, .ref a_slow, .ref a_told])), (a_bank, .inl (cI, 8, .inl o_z_bank)), (a_kind, .inl (cI, 8, .inl o_z_kind)), (a_word, .inl (cI, 8, .inl o_z_word)), (a_slow, .inl (cI, 8, .inl o_z_slow))]) → va_S A H0 H1 locs1 → W p l e R s m args below meth c H1 locs1 cells slots Q (F0 m (pc + 3) ls (rest))) : W p l e R s m args below meth c H locs cells slots Q (F0 m pc ls (.int p4 :: .int p3 :: .int p2 :: .int p1 :: .ref a_this :: rest)) :=
  x_rw (va_runV (As := [.int p1, .int p2, .int p3, .int p4]) (rest := rest) ⟨hx, hb, hml, hown, hts⟩ (tX0_join hf) (cwV 4 hts (tb_V hlk q472 q473 q40 q474) rfl rfl rfl (by decide +kernel) hR) ⟨rwB, va_recv hKW.1 (subP hP hC) (ci := 0) (q0 := 0) rfl rfl, fun U hU hW => ⟨rfl, by rw [hU]; exact subP hP hC, hKW.warm hW, subD hD hC hnd⟩⟩ rfl rfl hn rfl (lv_room hW) hdg hcs) hP hD hS is hC rfl kk

-- HalfPlanks$Folk.become(LHalfPlanks$Folk;)V
set_option maxHeartbeats 4000000 in
set_option maxRecDepth 100000 in
theorem tX0_become {l : Launch} {D : va_G} {cI cZ cQ : ClassId} {a_this a_bank a_kind a_word a_slow a_told a_p1 a_p1_bank a_p1_kind a_p1_word a_p1_slow a_p1_told : Nat} {z_planks z_size z_sworn z_p1_planks z_p1_size z_p1_sworn : Int32} {z_p1_bank z_bank z_p1_kind z_kind z_p1_word z_word z_p1_slow z_slow z_p1_told z_told : Nat → Int32} {fu : Nat} {o_z_planks o_z_size o_z_sworn : Int32} {o_z_bank o_z_kind o_z_word o_z_slow o_z_told : Nat → Int32} (hf : fX0_become fu z_p1_planks z_p1_size z_p1_sworn z_p1_bank z_p1_kind z_p1_word z_p1_slow z_p1_told z_bank z_kind z_word z_slow z_told z_planks z_size z_sworn = some (o_z_bank, o_z_kind, o_z_word, o_z_slow, o_z_told, o_z_planks, o_z_size, o_z_sworn)) : Met l yX0_become (.code yX0_become cX0_become 2 none :: TB) ({ frames := 1, cells := 0, slots := 0, locals := 64 } : Room) (rwP D (TY cI cZ cQ) [(a_this, .inr (0, [.int z_planks, .int z_size, .int z_sworn, .ref a_bank, .ref a_kind, .ref a_word, .ref a_slow, .ref a_told])), (a_p1, .inr (0, [.int z_p1_planks, .int z_p1_size, .int z_p1_sworn, .ref a_p1_bank, .ref a_p1_kind, .ref a_p1_word, .ref a_p1_slow, .ref a_p1_told])), (a_p1_bank, .inl (cI, 8, .inl z_p1_bank)), (a_bank, .inl (cI, 8, .inl z_bank)), (a_p1_kind, .inl (cI, 8, .inl z_p1_kind)), (a_kind, .inl (cI, 8, .inl z_kind)), (a_p1_word, .inl (cI, 8, .inl z_p1_word)), (a_word, .inl (cI, 8, .inl z_word)), (a_p1_slow, .inl (cI, 8, .inl z_p1_slow)), (a_slow, .inl (cI, 8, .inl z_slow)), (a_p1_told, .inl (cI, 8, .inl z_p1_told)), (a_told, .inl (cI, 8, .inl z_told))] [.ref a_this, .ref a_p1]) (rwQ D none [(a_this, .inr (0, [.int o_z_planks, .int o_z_size, .int o_z_sworn, .ref a_bank, .ref a_kind, .ref a_word, .ref a_slow, .ref a_told])), (a_p1, .inr (0, [.int z_p1_planks, .int z_p1_size, .int z_p1_sworn, .ref a_p1_bank, .ref a_p1_kind, .ref a_p1_word, .ref a_p1_slow, .ref a_p1_told])), (a_p1_bank, .inl (cI, 8, .inl z_p1_bank)), (a_bank, .inl (cI, 8, .inl o_z_bank)), (a_p1_kind, .inl (cI, 8, .inl z_p1_kind)), (a_kind, .inl (cI, 8, .inl o_z_kind)), (a_p1_word, .inl (cI, 8, .inl z_p1_word)), (a_word, .inl (cI, 8, .inl o_z_word)), (a_p1_slow, .inl (cI, 8, .inl z_p1_slow)), (a_slow, .inl (cI, 8, .inl o_z_slow)), (a_p1_told, .inl (cI, 8, .inl z_p1_told)), (a_told, .inl (cI, 8, .inl o_z_told))] (inW [(a_this, .inr (0, [.int z_planks, .int z_size, .int z_sworn, .ref a_bank, .ref a_kind, .ref a_word, .ref a_slow, .ref a_told])), (a_p1, .inr (0, [.int z_p1_planks, .int z_p1_size, .int z_p1_sworn, .ref a_p1_bank, .ref a_p1_kind, .ref a_p1_word, .ref a_p1_slow, .ref a_p1_told])), (a_p1_bank, .inl (cI, 8, .inl z_p1_bank)), (a_bank, .inl (cI, 8, .inl z_bank)), (a_p1_kind, .inl (cI, 8, .inl z_p1_kind)), (a_kind, .inl (cI, 8, .inl z_kind)), (a_p1_word, .inl (cI, 8, .inl z_p1_word)), (a_word, .inl (cI, 8, .inl z_word)), (a_p1_slow, .inl (cI, 8, .inl z_p1_slow)), (a_slow, .inl (cI, 8, .inl z_slow)), (a_p1_told, .inl (cI, 8, .inl z_p1_told)), (a_told, .inl (cI, 8, .inl z_told))])) 0 0 (inW [(a_this, .inr (0, [.int z_planks, .int z_size, .int z_sworn, .ref a_bank, .ref a_kind, .ref a_word, .ref a_slow, .ref a_told])), (a_p1, .inr (0, [.int z_p1_planks, .int z_p1_size, .int z_p1_sworn, .ref a_p1_bank, .ref a_p1_kind, .ref a_p1_word, .ref a_p1_slow, .ref a_p1_told])), (a_p1_bank, .inl (cI, 8, .inl z_p1_bank)), (a_bank, .inl (cI, 8, .inl z_bank)), (a_p1_kind, .inl (cI, 8, .inl z_p1_kind)), (a_kind, .inl (cI, 8, .inl z_kind)), (a_p1_word, .inl (cI, 8, .inl z_p1_word)), (a_word, .inl (cI, 8, .inl z_word)), (a_p1_slow, .inl (cI, 8, .inl z_p1_slow)), (a_slow, .inl (cI, 8, .inl z_slow)), (a_p1_told, .inl (cI, 8, .inl z_p1_told)), (a_told, .inl (cI, 8, .inl z_told))]) := by
  refine Met.ofW (cc := cX0_become) (maxL := 2) (ret := none) (by decide) rfl ?_
  intro p e s m args below meth c s₁ B hml hv
  obtain ⟨rfl, hP, hKW, hD0⟩ := hv
  have hx := B.exec
  have hb := B.bytes
  have hr := B.returns
  have hts : ∀ w ∈ TB, w.before ([.ref a_this, .ref a_p1] : List Value).toArray s = true := fun w h => atoms_spec (ws := .code yX0_become cX0_become 2 none :: TB) B.pre w (List.mem_cons_of_mem _ h)
  have hown : s.vm.findClass RX0 = some m.cls := findClass_of_methodNamed B.named
  have hlocks := B.notSynchronized
  have hK := hKW.1
  have hD := inW_D hD0
  generalize hAe : inW [(a_this, .inr (0, [.int z_planks, .int z_size, .int z_sworn, .ref a_bank, .ref a_kind, .ref a_word, .ref a_slow, .ref a_told])), (a_p1, .inr (0, [.int z_p1_planks, .int z_p1_size, .int z_p1_sworn, .ref a_p1_bank, .ref a_p1_kind, .ref a_p1_word, .ref a_p1_slow, .ref a_p1_told])), (a_p1_bank, .inl (cI, 8, .inl z_p1_bank)), (a_bank, .inl (cI, 8, .inl z_bank)), (a_p1_kind, .inl (cI, 8, .inl z_p1_kind)), (a_kind, .inl (cI, 8, .inl z_kind)), (a_p1_word, .inl (cI, 8, .inl z_p1_word)), (a_word, .inl (cI, 8, .inl z_word)), (a_p1_slow, .inl (cI, 8, .inl z_p1_slow)), (a_slow, .inl (cI, 8, .inl z_slow)), (a_p1_told, .inl (cI, 8, .inl z_p1_told)), (a_told, .inl (cI, 8, .inl z_told))] = A at hD ⊢
  have hS : va_S A s.heap s.heap [] := va_S.rf
  have hl := lv_entry [.ref a_this, .ref a_p1] (n := 2) (Nat.le_of_ble_eq_true rfl)
  rw [lg_entry_eq]
  generalize (lg_sl [.ref a_this, .ref a_p1] ++ List.replicate (2 - (lg_sl [.ref a_this, .ref a_p1]).length) Slot.unset).toArray = ls at hl ⊢
  have hl : lv_has ls 2 [(0, .ref a_this), (1, .ref a_p1)] := hl
  show W p l e ({ frames := 1, cells := 0, slots := 0, locals := 64 } : Room) s m ([.ref a_this, .ref a_p1] : List Value).toArray below meth c s.heap [] 0 0 (MQ below (rwQ D none [(a_this, .inr (0, [.int o_z_planks, .int o_z_size, .int o_z_sworn, .ref a_bank, .ref a_kind, .ref a_word, .ref a_slow, .ref a_told])), (a_p1, .inr (0, [.int z_p1_planks, .int z_p1_size, .int z_p1_sworn, .ref a_p1_bank, .ref a_p1_kind, .ref a_p1_word, .ref a_p1_slow, .ref a_p1_told])), (a_p1_bank, .inl (cI, 8, .inl z_p1_bank)), (a_bank, .inl (cI, 8, .inl o_z_bank)), (a_p1_kind, .inl (cI, 8, .inl z_p1_kind)), (a_kind, .inl (cI, 8, .inl o_z_kind)), (a_p1_word, .inl (cI, 8, .inl z_p1_word)), (a_word, .inl (cI, 8, .inl o_z_word)), (a_p1_slow, .inl (cI, 8, .inl z_p1_slow)), (a_slow, .inl (cI, 8, .inl o_z_slow)), (a_p1_told, .inl (cI, 8, .inl z_p1_told)), (a_told, .inl (cI, 8, .inl o_z_told))] A) ([.ref a_this, .ref a_p1] : List Value).toArray s 0 0 A) (F0 m 0 ls [])
  have hP : va_P D vwCl [(a_this, .inr (0, [.int z_planks, .int z_size, .int z_sworn, .ref a_bank, .ref a_kind, .ref a_word, .ref a_slow, .ref a_told])), (a_p1, .inr (0, [.int z_p1_planks, .int z_p1_size, .int z_p1_sworn, .ref a_p1_bank, .ref a_p1_kind, .ref a_p1_word, .ref a_p1_slow, .ref a_p1_told])), (a_p1_bank, .inl (cI, 8, .inl z_p1_bank)), (a_bank, .inl (cI, 8, .inl z_bank)), (a_p1_kind, .inl (cI, 8, .inl z_p1_kind)), (a_kind, .inl (cI, 8, .inl z_kind)), (a_p1_word, .inl (cI, 8, .inl z_p1_word)), (a_word, .inl (cI, 8, .inl z_word)), (a_p1_slow, .inl (cI, 8, .inl z_p1_slow)), (a_slow, .inl (cI, 8, .inl z_slow)), (a_p1_told, .inl (cI, 8, .inl z_p1_told)), (a_told, .inl (cI, 8, .inl z_told))] s.heap := hP
  have hD : va_D A [(a_this, .inr (0, [.int z_planks, .int z_size, .int z_sworn, .ref a_bank, .ref a_kind, .ref a_word, .ref a_slow, .ref a_told])), (a_p1, .inr (0, [.int z_p1_planks, .int z_p1_size, .int z_p1_sworn, .ref a_p1_bank, .ref a_p1_kind, .ref a_p1_word, .ref a_p1_slow, .ref a_p1_told])), (a_p1_bank, .inl (cI, 8, .inl z_p1_bank)), (a_bank, .inl (cI, 8, .inl z_bank)), (a_p1_kind, .inl (cI, 8, .inl z_p1_kind)), (a_kind, .inl (cI, 8, .inl z_kind)), (a_p1_word, .inl (cI, 8, .inl z_p1_word)), (a_word, .inl (cI, 8, .inl z_word)), (a_p1_slow, .inl (cI, 8, .inl z_p1_slow)), (a_slow, .inl (cI, 8, .inl z_slow)), (a_p1_told, .inl (cI, 8, .inl z_p1_told)), (a_told, .inl (cI, 8, .inl z_told))] := hD
  unfold fX0_become at hf
  obtain ⟨H, hH⟩ : ∃ H, H = s.heap := ⟨_, rfl⟩
  obtain ⟨locs, hlo⟩ : ∃ q : List Loc, q = [] := ⟨_, rfl⟩
  have hS : va_S A s.heap H locs := by rw [hH, hlo]; exact hS
  rw [← hH] at hP
  suffices hgo : W p l e ({ frames := 1, cells := 0, slots := 0, locals := 64 } : Room) s m ([.ref a_this, .ref a_p1] : List Value).toArray below meth c H locs 0 0 (MQ below (rwQ D none [(a_this, .inr (0, [.int o_z_planks, .int o_z_size, .int o_z_sworn, .ref a_bank, .ref a_kind, .ref a_word, .ref a_slow, .ref a_told])), (a_p1, .inr (0, [.int z_p1_planks, .int z_p1_size, .int z_p1_sworn, .ref a_p1_bank, .ref a_p1_kind, .ref a_p1_word, .ref a_p1_slow, .ref a_p1_told])), (a_p1_bank, .inl (cI, 8, .inl z_p1_bank)), (a_bank, .inl (cI, 8, .inl o_z_bank)), (a_p1_kind, .inl (cI, 8, .inl z_p1_kind)), (a_kind, .inl (cI, 8, .inl o_z_kind)), (a_p1_word, .inl (cI, 8, .inl z_p1_word)), (a_word, .inl (cI, 8, .inl o_z_word)), (a_p1_slow, .inl (cI, 8, .inl z_p1_slow)), (a_slow, .inl (cI, 8, .inl o_z_slow)), (a_p1_told, .inl (cI, 8, .inl z_p1_told)), (a_told, .inl (cI, 8, .inl o_z_told))] A) ([.ref a_this, .ref a_p1] : List Value).toArray s 0 0 A) (F0 m 0 ls []) by rw [hH, hlo] at hgo; exact hgo
  clear hH hlo
  refine lv_aload_n hx hb dX0_become_0 rfl (lv_at hl 0 rfl) ?_
  refine lv_aload_n hx hb dX0_become_1 rfl (lv_at hl 1 rfl) ?_
  refine va_get (D := D) (ci := 0) (v := .int z_p1_planks) (C := RX0) (T := TX0) (N := 8) hx hb hts inTX0 hown hK hP 1 rfl rfl 0 (by decide) (hts _ q71) (fun _ h9 => h9) rfl dX0_become_2 ?_
  refine va_put (D := D) (ci := 0) (v := .int z_p1_planks) (ty := .int) (C := RX0) (T := TX0) (N := 8) hx hb hts inTX0 tyX0 tyX0_ok nmX0 hown hK hP hD hS 0 rfl rfl 0 (by decide) (hts _ q71) (fun _ h9 => h9) rfl (by decide +kernel) rfl rfl (Nat.le_of_ble_eq_true rfl) dX0_become_5 (fun H locs hP hD hS => ?_)
  have hP : va_P D vwCl [(a_this, .inr (0, [.int z_p1_planks, .int z_size, .int z_sworn, .ref a_bank, .ref a_kind, .ref a_word, .ref a_slow, .ref a_told])), (a_p1, .inr (0, [.int z_p1_planks, .int z_p1_size, .int z_p1_sworn, .ref a_p1_bank, .ref a_p1_kind, .ref a_p1_word, .ref a_p1_slow, .ref a_p1_told])), (a_p1_bank, .inl (cI, 8, .inl z_p1_bank)), (a_bank, .inl (cI, 8, .inl z_bank)), (a_p1_kind, .inl (cI, 8, .inl z_p1_kind)), (a_kind, .inl (cI, 8, .inl z_kind)), (a_p1_word, .inl (cI, 8, .inl z_p1_word)), (a_word, .inl (cI, 8, .inl z_word)), (a_p1_slow, .inl (cI, 8, .inl z_p1_slow)), (a_slow, .inl (cI, 8, .inl z_slow)), (a_p1_told, .inl (cI, 8, .inl z_p1_told)), (a_told, .inl (cI, 8, .inl z_told))] H := hP
  have hD : va_D A [(a_this, .inr (0, [.int z_p1_planks, .int z_size, .int z_sworn, .ref a_bank, .ref a_kind, .ref a_word, .ref a_slow, .ref a_told])), (a_p1, .inr (0, [.int z_p1_planks, .int z_p1_size, .int z_p1_sworn, .ref a_p1_bank, .ref a_p1_kind, .ref a_p1_word, .ref a_p1_slow, .ref a_p1_told])), (a_p1_bank, .inl (cI, 8, .inl z_p1_bank)), (a_bank, .inl (cI, 8, .inl z_bank)), (a_p1_kind, .inl (cI, 8, .inl z_p1_kind)), (a_kind, .inl (cI, 8, .inl z_kind)), (a_p1_word, .inl (cI, 8, .inl z_p1_word)), (a_word, .inl (cI, 8, .inl z_word)), (a_p1_slow, .inl (cI, 8, .inl z_p1_slow)), (a_slow, .inl (cI, 8, .inl z_slow)), (a_p1_told, .inl (cI, 8, .inl z_p1_told)), (a_told, .inl (cI, 8, .inl z_told))] := hD
  refine lv_aload_n hx hb dX0_become_8 rfl (lv_at hl 0 rfl) ?_
  refine lv_aload_n hx hb dX0_become_9 rfl (lv_at hl 1 rfl) ?_
  refine va_get (D := D) (ci := 0) (v := .int z_p1_size) (C := RX0) (T := TX0) (N := 8) hx hb hts inTX0 hown hK hP 1 rfl rfl 1 (by decide) (hts _ q78) (fun _ h9 => h9) rfl dX0_become_10 ?_
  refine va_put (D := D) (ci := 0) (v := .int z_p1_size) (ty := .int) (C := RX0) (T := TX0) (N := 8) hx hb hts inTX0 tyX0 tyX0_ok nmX0 hown hK hP hD hS 0 rfl rfl 1 (by decide) (hts _ q78) (fun _ h9 => h9) rfl (by decide +kernel) rfl rfl (Nat.le_of_ble_eq_true rfl) dX0_become_13 (fun H locs hP hD hS => ?_)
  have hP : va_P D vwCl [(a_this, .inr (0, [.int z_p1_planks, .int z_p1_size, .int z_sworn, .ref a_bank, .ref a_kind, .ref a_word, .ref a_slow, .ref a_told])), (a_p1, .inr (0, [.int z_p1_planks, .int z_p1_size, .int z_p1_sworn, .ref a_p1_bank, .ref a_p1_kind, .ref a_p1_word, .ref a_p1_slow, .ref a_p1_told])), (a_p1_bank, .inl (cI, 8, .inl z_p1_bank)), (a_bank, .inl (cI, 8, .inl z_bank)), (a_p1_kind, .inl (cI, 8, .inl z_p1_kind)), (a_kind, .inl (cI, 8, .inl z_kind)), (a_p1_word, .inl (cI, 8, .inl z_p1_word)), (a_word, .inl (cI, 8, .inl z_word)), (a_p1_slow, .inl (cI, 8, .inl z_p1_slow)), (a_slow, .inl (cI, 8, .inl z_slow)), (a_p1_told, .inl (cI, 8, .inl z_p1_told)), (a_told, .inl (cI, 8, .inl z_told))] H := hP
  have hD : va_D A [(a_this, .inr (0, [.int z_p1_planks, .int z_p1_size, .int z_sworn, .ref a_bank, .ref a_kind, .ref a_word, .ref a_slow, .ref a_told])), (a_p1, .inr (0, [.int z_p1_planks, .int z_p1_size, .int z_p1_sworn, .ref a_p1_bank, .ref a_p1_kind, .ref a_p1_word, .ref a_p1_slow, .ref a_p1_told])), (a_p1_bank, .inl (cI, 8, .inl z_p1_bank)), (a_bank, .inl (cI, 8, .inl z_bank)), (a_p1_kind, .inl (cI, 8, .inl z_p1_kind)), (a_kind, .inl (cI, 8, .inl z_kind)), (a_p1_word, .inl (cI, 8, .inl z_p1_word)), (a_word, .inl (cI, 8, .inl z_word)), (a_p1_slow, .inl (cI, 8, .inl z_p1_slow)), (a_slow, .inl (cI, 8, .inl z_slow)), (a_p1_told, .inl (cI, 8, .inl z_p1_told)), (a_told, .inl (cI, 8, .inl z_told))] := hD
  refine lv_aload_n hx hb dX0_become_16 rfl (lv_at hl 0 rfl) ?_
  refine lv_aload_n hx hb dX0_become_17 rfl (lv_at hl 1 rfl) ?_
  refine va_get (D := D) (ci := 0) (v := .int z_p1_sworn) (C := RX0) (T := TX0) (N := 8) hx hb hts inTX0 hown hK hP 1 rfl rfl 2 (by decide) (hts _ q85) (fun _ h9 => h9) rfl dX0_become_18 ?_
  refine va_put (D := D) (ci := 0) (v := .int z_p1_sworn) (ty := .int) (C := RX0) (T := TX0) (N := 8) hx hb hts inTX0 tyX0 tyX0_ok nmX0 hown hK hP hD hS 0 rfl rfl 2 (by decide) (hts _ q85) (fun _ h9 => h9) rfl (by decide +kernel) rfl rfl (Nat.le_of_ble_eq_true rfl) dX0_become_21 (fun H locs hP hD hS => ?_)
  have hP : va_P D vwCl [(a_this, .inr (0, [.int z_p1_planks, .int z_p1_size, .int z_p1_sworn, .ref a_bank, .ref a_kind, .ref a_word, .ref a_slow, .ref a_told])), (a_p1, .inr (0, [.int z_p1_planks, .int z_p1_size, .int z_p1_sworn, .ref a_p1_bank, .ref a_p1_kind, .ref a_p1_word, .ref a_p1_slow, .ref a_p1_told])), (a_p1_bank, .inl (cI, 8, .inl z_p1_bank)), (a_bank, .inl (cI, 8, .inl z_bank)), (a_p1_kind, .inl (cI, 8, .inl z_p1_kind)), (a_kind, .inl (cI, 8, .inl z_kind)), (a_p1_word, .inl (cI, 8, .inl z_p1_word)), (a_word, .inl (cI, 8, .inl z_word)), (a_p1_slow, .inl (cI, 8, .inl z_p1_slow)), (a_slow, .inl (cI, 8, .inl z_slow)), (a_p1_told, .inl (cI, 8, .inl z_p1_told)), (a_told, .inl (cI, 8, .inl z_told))] H := hP
  have hD : va_D A [(a_this, .inr (0, [.int z_p1_planks, .int z_p1_size, .int z_p1_sworn, .ref a_bank, .ref a_kind, .ref a_word, .ref a_slow, .ref a_told])), (a_p1, .inr (0, [.int z_p1_planks, .int z_p1_size, .int z_p1_sworn, .ref a_p1_bank, .ref a_p1_kind, .ref a_p1_word, .ref a_p1_slow, .ref a_p1_told])), (a_p1_bank, .inl (cI, 8, .inl z_p1_bank)), (a_bank, .inl (cI, 8, .inl z_bank)), (a_p1_kind, .inl (cI, 8, .inl z_p1_kind)), (a_kind, .inl (cI, 8, .inl z_kind)), (a_p1_word, .inl (cI, 8, .inl z_p1_word)), (a_word, .inl (cI, 8, .inl z_word)), (a_p1_slow, .inl (cI, 8, .inl z_p1_slow)), (a_slow, .inl (cI, 8, .inl z_slow)), (a_p1_told, .inl (cI, 8, .inl z_p1_told)), (a_told, .inl (cI, 8, .inl z_told))] := hD
  refine lv_aload_n hx hb dX0_become_24 rfl (lv_at hl 1 rfl) ?_
  refine va_get (D := D) (ci := 0) (v := .ref a_p1_bank) (C := RX0) (T := TX0) (N := 8) hx hb hts inTX0 hown hK hP 1 rfl rfl 3 (by decide) (hts _ q86) (fun _ h9 => h9) rfl dX0_become_25 ?_
  refine lv_iconst (v := 0) hx hb dX0_become_28 (by decide) ?_
  refine lv_aload_n hx hb dX0_become_29 rfl (lv_at hl 0 rfl) ?_
  refine va_get (D := D) (ci := 0) (v := .ref a_bank) (C := RX0) (T := TX0) (N := 8) hx hb hts inTX0 hown hK hP 0 rfl rfl 3 (by decide) (hts _ q86) (fun _ h9 => h9) rfl dX0_become_30 ?_
  refine lv_iconst (v := 0) hx hb dX0_become_33 (by decide) ?_
  refine lv_bipush (v := 8) hx hb dX0_become_34 (by decide) ?_
  refine x_copy hx hb hml hl.1 hown hts q486 hK hP hD hS 2 3 0 0 rfl rfl rfl rfl (sp := 0) (dp := 0) (n := 8) (by decide) (by decide) (by decide) (by decide) (by decide) rfl rfl rfl (Nat.le_of_ble_eq_true rfl) (Nat.le_of_ble_eq_true rfl) dX0_become_36 (fun H locs hP hD hS => ?_)
  have hP : va_P D vwCl [(a_this, .inr (0, [.int z_p1_planks, .int z_p1_size, .int z_p1_sworn, .ref a_bank, .ref a_kind, .ref a_word, .ref a_slow, .ref a_told])), (a_p1, .inr (0, [.int z_p1_planks, .int z_p1_size, .int z_p1_sworn, .ref a_p1_bank, .ref a_p1_kind, .ref a_p1_word, .ref a_p1_slow, .ref a_p1_told])), (a_p1_bank, .inl (cI, 8, .inl z_p1_bank)), (a_bank, .inl (cI, 8, .inl (va_cpy z_p1_bank z_bank 0 0 8))), (a_p1_kind, .inl (cI, 8, .inl z_p1_kind)), (a_kind, .inl (cI, 8, .inl z_kind)), (a_p1_word, .inl (cI, 8, .inl z_p1_word)), (a_word, .inl (cI, 8, .inl z_word)), (a_p1_slow, .inl (cI, 8, .inl z_p1_slow)), (a_slow, .inl (cI, 8, .inl z_slow)), (a_p1_told, .inl (cI, 8, .inl z_p1_told)), (a_told, .inl (cI, 8, .inl z_told))] H := hP
  have hD : va_D A [(a_this, .inr (0, [.int z_p1_planks, .int z_p1_size, .int z_p1_sworn, .ref a_bank, .ref a_kind, .ref a_word, .ref a_slow, .ref a_told])), (a_p1, .inr (0, [.int z_p1_planks, .int z_p1_size, .int z_p1_sworn, .ref a_p1_bank, .ref a_p1_kind, .ref a_p1_word, .ref a_p1_slow, .ref a_p1_told])), (a_p1_bank, .inl (cI, 8, .inl z_p1_bank)), (a_bank, .inl (cI, 8, .inl (va_cpy z_p1_bank z_bank 0 0 8))), (a_p1_kind, .inl (cI, 8, .inl z_p1_kind)), (a_kind, .inl (cI, 8, .inl z_kind)), (a_p1_word, .inl (cI, 8, .inl z_p1_word)), (a_word, .inl (cI, 8, .inl z_word)), (a_p1_slow, .inl (cI, 8, .inl z_p1_slow)), (a_slow, .inl (cI, 8, .inl z_slow)), (a_p1_told, .inl (cI, 8, .inl z_p1_told)), (a_told, .inl (cI, 8, .inl z_told))] := hD
  refine lv_aload_n hx hb dX0_become_39 rfl (lv_at hl 1 rfl) ?_
  refine va_get (D := D) (ci := 0) (v := .ref a_p1_kind) (C := RX0) (T := TX0) (N := 8) hx hb hts inTX0 hown hK hP 1 rfl rfl 4 (by decide) (hts _ q90) (fun _ h9 => h9) rfl dX0_become_40 ?_
  refine lv_iconst (v := 0) hx hb dX0_become_43 (by decide) ?_
  refine lv_aload_n hx hb dX0_become_44 rfl (lv_at hl 0 rfl) ?_
  refine va_get (D := D) (ci := 0) (v := .ref a_kind) (C := RX0) (T := TX0) (N := 8) hx hb hts inTX0 hown hK hP 0 rfl rfl 4 (by decide) (hts _ q90) (fun _ h9 => h9) rfl dX0_become_45 ?_
  refine lv_iconst (v := 0) hx hb dX0_become_48 (by decide) ?_
  refine lv_bipush (v := 8) hx hb dX0_become_49 (by decide) ?_
  refine x_copy hx hb hml hl.1 hown hts q486 hK hP hD hS 4 5 0 0 rfl rfl rfl rfl (sp := 0) (dp := 0) (n := 8) (by decide) (by decide) (by decide) (by decide) (by decide) rfl rfl rfl (Nat.le_of_ble_eq_true rfl) (Nat.le_of_ble_eq_true rfl) dX0_become_51 (fun H locs hP hD hS => ?_)
  have hP : va_P D vwCl [(a_this, .inr (0, [.int z_p1_planks, .int z_p1_size, .int z_p1_sworn, .ref a_bank, .ref a_kind, .ref a_word, .ref a_slow, .ref a_told])), (a_p1, .inr (0, [.int z_p1_planks, .int z_p1_size, .int z_p1_sworn, .ref a_p1_bank, .ref a_p1_kind, .ref a_p1_word, .ref a_p1_slow, .ref a_p1_told])), (a_p1_bank, .inl (cI, 8, .inl z_p1_bank)), (a_bank, .inl (cI, 8, .inl (va_cpy z_p1_bank z_bank 0 0 8))), (a_p1_kind, .inl (cI, 8, .inl z_p1_kind)), (a_kind, .inl (cI, 8, .inl (va_cpy z_p1_kind z_kind 0 0 8))), (a_p1_word, .inl (cI, 8, .inl z_p1_word)), (a_word, .inl (cI, 8, .inl z_word)), (a_p1_slow, .inl (cI, 8, .inl z_p1_slow)), (a_slow, .inl (cI, 8, .inl z_slow)), (a_p1_told, .inl (cI, 8, .inl z_p1_told)), (a_told, .inl (cI, 8, .inl z_told))] H := hP
  have hD : va_D A [(a_this, .inr (0, [.int z_p1_planks, .int z_p1_size, .int z_p1_sworn, .ref a_bank, .ref a_kind, .ref a_word, .ref a_slow, .ref a_told])), (a_p1, .inr (0, [.int z_p1_planks, .int z_p1_size, .int z_p1_sworn, .ref a_p1_bank, .ref a_p1_kind, .ref a_p1_word, .ref a_p1_slow, .ref a_p1_told])), (a_p1_bank, .inl (cI, 8, .inl z_p1_bank)), (a_bank, .inl (cI, 8, .inl (va_cpy z_p1_bank z_bank 0 0 8))), (a_p1_kind, .inl (cI, 8, .inl z_p1_kind)), (a_kind, .inl (cI, 8, .inl (va_cpy z_p1_kind z_kind 0 0 8))), (a_p1_word, .inl (cI, 8, .inl z_p1_word)), (a_word, .inl (cI, 8, .inl z_word)), (a_p1_slow, .inl (cI, 8, .inl z_p1_slow)), (a_slow, .inl (cI, 8, .inl z_slow)), (a_p1_told, .inl (cI, 8, .inl z_p1_told)), (a_told, .inl (cI, 8, .inl z_told))] := hD
  refine lv_aload_n hx hb dX0_become_54 rfl (lv_at hl 1 rfl) ?_
  refine va_get (D := D) (ci := 0) (v := .ref a_p1_word) (C := RX0) (T := TX0) (N := 8) hx hb hts inTX0 hown hK hP 1 rfl rfl 5 (by decide) (hts _ q93) (fun _ h9 => h9) rfl dX0_become_55 ?_
  refine lv_iconst (v := 0) hx hb dX0_become_58 (by decide) ?_
  refine lv_aload_n hx hb dX0_become_59 rfl (lv_at hl 0 rfl) ?_
  refine va_get (D := D) (ci := 0) (v := .ref a_word) (C := RX0) (T := TX0) (N := 8) hx hb hts inTX0 hown hK hP 0 rfl rfl 5 (by decide) (hts _ q93) (fun _ h9 => h9) rfl dX0_become_60 ?_
  refine lv_iconst (v := 0) hx hb dX0_become_63 (by decide) ?_
  refine lv_bipush (v := 8) hx hb dX0_become_64 (by decide) ?_
  refine x_copy hx hb hml hl.1 hown hts q486 hK hP hD hS 6 7 0 0 rfl rfl rfl rfl (sp := 0) (dp := 0) (n := 8) (by decide) (by decide) (by decide) (by decide) (by decide) rfl rfl rfl (Nat.le_of_ble_eq_true rfl) (Nat.le_of_ble_eq_true rfl) dX0_become_66 (fun H locs hP hD hS => ?_)
  have hP : va_P D vwCl [(a_this, .inr (0, [.int z_p1_planks, .int z_p1_size, .int z_p1_sworn, .ref a_bank, .ref a_kind, .ref a_word, .ref a_slow, .ref a_told])), (a_p1, .inr (0, [.int z_p1_planks, .int z_p1_size, .int z_p1_sworn, .ref a_p1_bank, .ref a_p1_kind, .ref a_p1_word, .ref a_p1_slow, .ref a_p1_told])), (a_p1_bank, .inl (cI, 8, .inl z_p1_bank)), (a_bank, .inl (cI, 8, .inl (va_cpy z_p1_bank z_bank 0 0 8))), (a_p1_kind, .inl (cI, 8, .inl z_p1_kind)), (a_kind, .inl (cI, 8, .inl (va_cpy z_p1_kind z_kind 0 0 8))), (a_p1_word, .inl (cI, 8, .inl z_p1_word)), (a_word, .inl (cI, 8, .inl (va_cpy z_p1_word z_word 0 0 8))), (a_p1_slow, .inl (cI, 8, .inl z_p1_slow)), (a_slow, .inl (cI, 8, .inl z_slow)), (a_p1_told, .inl (cI, 8, .inl z_p1_told)), (a_told, .inl (cI, 8, .inl z_told))] H := hP
  have hD : va_D A [(a_this, .inr (0, [.int z_p1_planks, .int z_p1_size, .int z_p1_sworn, .ref a_bank, .ref a_kind, .ref a_word, .ref a_slow, .ref a_told])), (a_p1, .inr (0, [.int z_p1_planks, .int z_p1_size, .int z_p1_sworn, .ref a_p1_bank, .ref a_p1_kind, .ref a_p1_word, .ref a_p1_slow, .ref a_p1_told])), (a_p1_bank, .inl (cI, 8, .inl z_p1_bank)), (a_bank, .inl (cI, 8, .inl (va_cpy z_p1_bank z_bank 0 0 8))), (a_p1_kind, .inl (cI, 8, .inl z_p1_kind)), (a_kind, .inl (cI, 8, .inl (va_cpy z_p1_kind z_kind 0 0 8))), (a_p1_word, .inl (cI, 8, .inl z_p1_word)), (a_word, .inl (cI, 8, .inl (va_cpy z_p1_word z_word 0 0 8))), (a_p1_slow, .inl (cI, 8, .inl z_p1_slow)), (a_slow, .inl (cI, 8, .inl z_slow)), (a_p1_told, .inl (cI, 8, .inl z_p1_told)), (a_told, .inl (cI, 8, .inl z_told))] := hD
  refine lv_aload_n hx hb dX0_become_69 rfl (lv_at hl 1 rfl) ?_
  refine va_get (D := D) (ci := 0) (v := .ref a_p1_slow) (C := RX0) (T := TX0) (N := 8) hx hb hts inTX0 hown hK hP 1 rfl rfl 6 (by decide) (hts _ q96) (fun _ h9 => h9) rfl dX0_become_70 ?_
  refine lv_iconst (v := 0) hx hb dX0_become_73 (by decide) ?_
  refine lv_aload_n hx hb dX0_become_74 rfl (lv_at hl 0 rfl) ?_
  refine va_get (D := D) (ci := 0) (v := .ref a_slow) (C := RX0) (T := TX0) (N := 8) hx hb hts inTX0 hown hK hP 0 rfl rfl 6 (by decide) (hts _ q96) (fun _ h9 => h9) rfl dX0_become_75 ?_
  refine lv_iconst (v := 0) hx hb dX0_become_78 (by decide) ?_
  refine lv_bipush (v := 8) hx hb dX0_become_79 (by decide) ?_
  refine x_copy hx hb hml hl.1 hown hts q486 hK hP hD hS 8 9 0 0 rfl rfl rfl rfl (sp := 0) (dp := 0) (n := 8) (by decide) (by decide) (by decide) (by decide) (by decide) rfl rfl rfl (Nat.le_of_ble_eq_true rfl) (Nat.le_of_ble_eq_true rfl) dX0_become_81 (fun H locs hP hD hS => ?_)
  have hP : va_P D vwCl [(a_this, .inr (0, [.int z_p1_planks, .int z_p1_size, .int z_p1_sworn, .ref a_bank, .ref a_kind, .ref a_word, .ref a_slow, .ref a_told])), (a_p1, .inr (0, [.int z_p1_planks, .int z_p1_size, .int z_p1_sworn, .ref a_p1_bank, .ref a_p1_kind, .ref a_p1_word, .ref a_p1_slow, .ref a_p1_told])), (a_p1_bank, .inl (cI, 8, .inl z_p1_bank)), (a_bank, .inl (cI, 8, .inl (va_cpy z_p1_bank z_bank 0 0 8))), (a_p1_kind, .inl (cI, 8, .inl z_p1_kind)), (a_kind, .inl (cI, 8, .inl (va_cpy z_p1_kind z_kind 0 0 8))), (a_p1_word, .inl (cI, 8, .inl z_p1_word)), (a_word, .inl (cI, 8, .inl (va_cpy z_p1_word z_word 0 0 8))), (a_p1_slow, .inl (cI, 8, .inl z_p1_slow)), (a_slow, .inl (cI, 8, .inl (va_cpy z_p1_slow z_slow 0 0 8))), (a_p1_told, .inl (cI, 8, .inl z_p1_told)), (a_told, .inl (cI, 8, .inl z_told))] H := hP
  have hD : va_D A [(a_this, .inr (0, [.int z_p1_planks, .int z_p1_size, .int z_p1_sworn, .ref a_bank, .ref a_kind, .ref a_word, .ref a_slow, .ref a_told])), (a_p1, .inr (0, [.int z_p1_planks, .int z_p1_size, .int z_p1_sworn, .ref a_p1_bank, .ref a_p1_kind, .ref a_p1_word, .ref a_p1_slow, .ref a_p1_told])), (a_p1_bank, .inl (cI, 8, .inl z_p1_bank)), (a_bank, .inl (cI, 8, .inl (va_cpy z_p1_bank z_bank 0 0 8))), (a_p1_kind, .inl (cI, 8, .inl z_p1_kind)), (a_kind, .inl (cI, 8, .inl (va_cpy z_p1_kind z_kind 0 0 8))), (a_p1_word, .inl (cI, 8, .inl z_p1_word)), (a_word, .inl (cI, 8, .inl (va_cpy z_p1_word z_word 0 0 8))), (a_p1_slow, .inl (cI, 8, .inl z_p1_slow)), (a_slow, .inl (cI, 8, .inl (va_cpy z_p1_slow z_slow 0 0 8))), (a_p1_told, .inl (cI, 8, .inl z_p1_told)), (a_told, .inl (cI, 8, .inl z_told))] := hD
  refine lv_aload_n hx hb dX0_become_84 rfl (lv_at hl 1 rfl) ?_
  refine va_get (D := D) (ci := 0) (v := .ref a_p1_told) (C := RX0) (T := TX0) (N := 8) hx hb hts inTX0 hown hK hP 1 rfl rfl 7 (by decide) (hts _ q100) (fun _ h9 => h9) rfl dX0_become_85 ?_
  refine lv_iconst (v := 0) hx hb dX0_become_88 (by decide) ?_
  refine lv_aload_n hx hb dX0_become_89 rfl (lv_at hl 0 rfl) ?_
  refine va_get (D := D) (ci := 0) (v := .ref a_told) (C := RX0) (T := TX0) (N := 8) hx hb hts inTX0 hown hK hP 0 rfl rfl 7 (by decide) (hts _ q100) (fun _ h9 => h9) rfl dX0_become_90 ?_
  refine lv_iconst (v := 0) hx hb dX0_become_93 (by decide) ?_
  refine lv_bipush (v := 8) hx hb dX0_become_94 (by decide) ?_
  refine x_copy hx hb hml hl.1 hown hts q486 hK hP hD hS 10 11 0 0 rfl rfl rfl rfl (sp := 0) (dp := 0) (n := 8) (by decide) (by decide) (by decide) (by decide) (by decide) rfl rfl rfl (Nat.le_of_ble_eq_true rfl) (Nat.le_of_ble_eq_true rfl) dX0_become_96 (fun H locs hP hD hS => ?_)
  have hP : va_P D vwCl [(a_this, .inr (0, [.int z_p1_planks, .int z_p1_size, .int z_p1_sworn, .ref a_bank, .ref a_kind, .ref a_word, .ref a_slow, .ref a_told])), (a_p1, .inr (0, [.int z_p1_planks, .int z_p1_size, .int z_p1_sworn, .ref a_p1_bank, .ref a_p1_kind, .ref a_p1_word, .ref a_p1_slow, .ref a_p1_told])), (a_p1_bank, .inl (cI, 8, .inl z_p1_bank)), (a_bank, .inl (cI, 8, .inl (va_cpy z_p1_bank z_bank 0 0 8))), (a_p1_kind, .inl (cI, 8, .inl z_p1_kind)), (a_kind, .inl (cI, 8, .inl (va_cpy z_p1_kind z_kind 0 0 8))), (a_p1_word, .inl (cI, 8, .inl z_p1_word)), (a_word, .inl (cI, 8, .inl (va_cpy z_p1_word z_word 0 0 8))), (a_p1_slow, .inl (cI, 8, .inl z_p1_slow)), (a_slow, .inl (cI, 8, .inl (va_cpy z_p1_slow z_slow 0 0 8))), (a_p1_told, .inl (cI, 8, .inl z_p1_told)), (a_told, .inl (cI, 8, .inl (va_cpy z_p1_told z_told 0 0 8)))] H := hP
  have hD : va_D A [(a_this, .inr (0, [.int z_p1_planks, .int z_p1_size, .int z_p1_sworn, .ref a_bank, .ref a_kind, .ref a_word, .ref a_slow, .ref a_told])), (a_p1, .inr (0, [.int z_p1_planks, .int z_p1_size, .int z_p1_sworn, .ref a_p1_bank, .ref a_p1_kind, .ref a_p1_word, .ref a_p1_slow, .ref a_p1_told])), (a_p1_bank, .inl (cI, 8, .inl z_p1_bank)), (a_bank, .inl (cI, 8, .inl (va_cpy z_p1_bank z_bank 0 0 8))), (a_p1_kind, .inl (cI, 8, .inl z_p1_kind)), (a_kind, .inl (cI, 8, .inl (va_cpy z_p1_kind z_kind 0 0 8))), (a_p1_word, .inl (cI, 8, .inl z_p1_word)), (a_word, .inl (cI, 8, .inl (va_cpy z_p1_word z_word 0 0 8))), (a_p1_slow, .inl (cI, 8, .inl z_p1_slow)), (a_slow, .inl (cI, 8, .inl (va_cpy z_p1_slow z_slow 0 0 8))), (a_p1_told, .inl (cI, 8, .inl z_p1_told)), (a_told, .inl (cI, 8, .inl (va_cpy z_p1_told z_told 0 0 8)))] := hD
  cases hf
  exact W.vret hx hb hr (fun t ht _ => ⟨rfl, by rw [ht]; exact hP, hS.F ht⟩) hS.2.2 dX0_become_99
theorem kX0_become {p : Program} {l : Launch} {e : Env} {R : Room} {s : State} {m : MethodId} {args : Array Value} {below : List Frame} {meth : Method} {c : Code} {H : Heap} {locs : List Loc} {cells slots : Nat} {Q : State → Prop} {cc : ByteArray} {nL pc index : Nat} {ls : Array Slot} {rest : List Value} {own : String} {D : va_G} {cI cZ cQ : ClassId} {a_this a_bank a_kind a_word a_slow a_told a_p1 a_p1_bank a_p1_kind a_p1_word a_p1_slow a_p1_told : Nat} {z_planks z_size z_sworn z_p1_planks z_p1_size z_p1_sworn : Int32} {z_p1_bank z_bank z_p1_kind z_kind z_p1_word z_word z_p1_slow z_slow z_p1_told z_told : Nat → Int32} {fu : Nat} {o_z_planks o_z_size o_z_sworn : Int32} {o_z_bank o_z_kind o_z_word o_z_slow o_z_told : Nat → Int32} (hx : p.tables.exec = Jvm.exec) (hb : c.code = cc) (hml : c.maxLocals = nL) (hown : s.vm.findClass own = some m.cls) (hts : ∀ w ∈ TB, w.before args s = true) (hKW : KW D (TY cI cZ cQ) s) (hlk : Cond.methodLink own index yX0_become ∈ TB) {ws : va_W} {A : Nat → Prop} {H0 : Heap} (hP : va_P D vwCl ws H) (hD : va_D A ws) (hS : va_S A H0 H locs) (is : List Nat) (hC : is.map (fun i => ws[i]?) = ([(a_this, .inr (0, [.int z_planks, .int z_size, .int z_sworn, .ref a_bank, .ref a_kind, .ref a_word, .ref a_slow, .ref a_told])), (a_p1, .inr (0, [.int z_p1_planks, .int z_p1_size, .int z_p1_sworn, .ref a_p1_bank, .ref a_p1_kind, .ref a_p1_word, .ref a_p1_slow, .ref a_p1_told])), (a_p1_bank, .inl (cI, 8, .inl z_p1_bank)), (a_bank, .inl (cI, 8, .inl z_bank)), (a_p1_kind, .inl (cI, 8, .inl z_p1_kind)), (a_kind, .inl (cI, 8, .inl z_kind)), (a_p1_word, .inl (cI, 8, .inl z_p1_word)), (a_word, .inl (cI, 8, .inl z_word)), (a_p1_slow, .inl (cI, 8, .inl z_p1_slow)), (a_slow, .inl (cI, 8, .inl z_slow)), (a_p1_told, .inl (cI, 8, .inl z_p1_told)), (a_told, .inl (cI, 8, .inl z_told))] : va_W).map some) (hnd : va_nd is = true) (hf : fX0_become fu z_p1_planks z_p1_size z_p1_sworn z_p1_bank z_p1_kind z_p1_word z_p1_slow z_p1_told z_bank z_kind z_word z_slow z_told z_planks z_size z_sworn = some (o_z_bank, o_z_kind, o_z_word, o_z_slow, o_z_told, o_z_planks, o_z_size, o_z_sworn)) (hn : ls.size = nL) (hW : (rest.map fun v => v.category).sum ≤ 8) (hR : 1 + 1 ≤ R.frames ∧ 8 + (2 + 11) + 64 ≤ R.locals) (hcs : cells ≤ R.cells ∧ slots ≤ R.slots) (hdg : decode cc pc = .ok (.invokevirtual index, 3)) (kk : ∀ (H1 : Heap) (locs1 : List Loc), va_P D vwCl (rpl ws is [(a_this, .inr (0, [.int o_z_planks, .int o_z_size, .int o_z_sworn, .ref a_bank, .ref a_kind, .ref a_word, .ref a_slow, .ref a_told])), (a_p1, .inr (0, [.int z_p1_planks, .int z_p1_size, .int z_p1_sworn, .ref a_p1_bank, .ref a_p1_kind, .ref a_p1_word, .ref a_p1_slow, .ref a_p1_told])), (a_p1_bank, .inl (cI, 8, .inl z_p1_bank)), (a_bank, .inl (cI, 8, .inl o_z_bank)), (a_p1_kind, .inl (cI, 8, .inl z_p1_kind)), (a_kind, .inl (cI, 8, .inl o_z_kind)), (a_p1_word, .inl (cI, 8, .inl z_p1_word)), (a_word, .inl (cI, 8, .inl o_z_word)), (a_p1_slow, .inl (cI, 8, .inl z_p1_slow)), (a_slow, .inl (cI, 8, .inl o_z_slow)), (a_p1_told, .inl (cI, 8, .inl z_p1_told)), (a_told, .inl (cI, 8, .inl o_z_told))]) H1 → va_D A (rpl ws is [(a_this, .inr (0, [.int o_z_planks, .int o_z_size, .int o_z_sworn, .ref a_bank, .ref a_kind, .ref a_word, .ref a_slow, .ref a_told])), (a_p1, .inr (0, [.int z_p1_planks, .int z_p1_size, .int z_p1_sworn, .ref a_p1_bank, .ref a_p1_kind, .ref a_p1_word, .ref a_p1_slow, .ref a_p1_told])), (a_p1_bank, .inl (cI, 8, .inl z_p1_bank)), (a_bank, .inl (cI, 8, .inl o_z_bank)), (a_p1_kind, .inl (cI, 8, .inl z_p1_kind)), (a_kind, .inl (cI, 8, .inl o_z_kind)), (a_p1_word, .inl (cI, 8, .inl z_p1_word)), (a_word, .inl (cI, 8, .inl o_z_word)), (a_p1_slow, .inl (cI, 8, .inl z_p1_slow)), (a_slow, .inl (cI, 8, .inl o_z_slow)), (a_p1_told, .inl (cI, 8, .inl z_p1_told)), (a_told, .inl (cI, 8, .inl o_z_told))]) → va_S A H0 H1 locs1 → W p l e R s m args below meth c H1 locs1 cells slots Q (F0 m (pc + 3) ls (rest))) : W p l e R s m args below meth c H locs cells slots Q (F0 m pc ls (.ref a_p1 :: .ref a_this :: rest)) :=
  x_rw (va_runV (As := [.ref a_p1]) (rest := rest) ⟨hx, hb, hml, hown, hts⟩ (tX0_become hf) (cwV 1 hts (tb_V hlk q483 q484 q40 q485) rfl rfl rfl (by decide +kernel) hR) ⟨rwB, va_recv hKW.1 (subP hP hC) (ci := 0) (q0 := 0) rfl rfl, fun U hU hW => ⟨rfl, by rw [hU]; exact subP hP hC, hKW.warm hW, subD hD hC hnd⟩⟩ rfl rfl hn rfl (lv_room hW) hdg hcs) hP hD hS is hC rfl kk

-- HalfPlanks$Folk.everyone()I
set_option maxHeartbeats 4000000 in
set_option maxRecDepth 100000 in
theorem tX0_everyone {l : Launch} {D : va_G} {cI cZ cQ : ClassId} {a_this a_bank a_kind a_word a_slow a_told : Nat} {z_planks z_size z_sworn : Int32} {fu : Nat} {r : Int32} (hf : fX0_everyone fu z_size = some (r)) : Met l yX0_everyone (.code yX0_everyone cX0_everyone 1 (some .int) :: TB) ({ frames := 0, cells := 0, slots := 0, locals := 0 } : Room) (roP D (TY cI cZ cQ) [(a_this, .inr (0, [.int z_planks, .int z_size, .int z_sworn, .ref a_bank, .ref a_kind, .ref a_word, .ref a_slow, .ref a_told]))] [.ref a_this]) (roQ (some (.int r))) 0 0 (fun _ => False) := by
  refine Met.ofW (cc := cX0_everyone) (maxL := 1) (ret := (some .int)) (by decide) rfl ?_
  intro p e s m args below meth c s₁ B hml hv
  obtain ⟨rfl, hP, hKW⟩ := hv
  have hx := B.exec
  have hb := B.bytes
  have hr := B.returns
  have hts : ∀ w ∈ TB, w.before ([.ref a_this] : List Value).toArray s = true := fun w h => atoms_spec (ws := .code yX0_everyone cX0_everyone 1 (some .int) :: TB) B.pre w (List.mem_cons_of_mem _ h)
  have hown : s.vm.findClass RX0 = some m.cls := findClass_of_methodNamed B.named
  have hlocks := B.notSynchronized
  have hK := hKW.1
  have hl := lv_entry [.ref a_this] (n := 1) (Nat.le_of_ble_eq_true rfl)
  rw [lg_entry_eq]
  generalize (lg_sl [.ref a_this] ++ List.replicate (1 - (lg_sl [.ref a_this]).length) Slot.unset).toArray = ls at hl ⊢
  have hl : lv_has ls 1 [(0, .ref a_this)] := hl
  show W p l e ({ frames := 0, cells := 0, slots := 0, locals := 0 } : Room) s m ([.ref a_this] : List Value).toArray below meth c s.heap [] 0 0 (MQ below (roQ (some (.int r))) ([.ref a_this] : List Value).toArray s 0 0 (fun _ => False)) (F0 m 0 ls [])
  unfold fX0_everyone at hf
  refine lv_iconst (v := 1) hx hb dX0_everyone_0 (by decide) ?_
  refine lv_aload_n hx hb dX0_everyone_1 rfl (lv_at hl 0 rfl) ?_
  refine va_get (D := D) (ci := 0) (v := .int z_size) (C := RX0) (T := TX0) (N := 8) hx hb hts inTX0 hown hK hP 0 rfl rfl 1 (by decide) (hts _ q78) (fun _ h9 => h9) rfl dX0_everyone_2 ?_
  refine lv_ishl hx hb dX0_everyone_5 ?_
  refine lv_iconst (v := 1) hx hb dX0_everyone_6 (by decide) ?_
  refine lv_isub hx hb dX0_everyone_7 ?_
  cases hf
  exact W.iret hx hb hr (fun t ht _ => ⟨rfl, ht⟩) (fun q h => by cases h) dX0_everyone_8
theorem kX0_everyone {p : Program} {l : Launch} {e : Env} {R : Room} {s : State} {m : MethodId} {args : Array Value} {below : List Frame} {meth : Method} {c : Code} {H : Heap} {locs : List Loc} {cells slots : Nat} {Q : State → Prop} {cc : ByteArray} {nL pc index : Nat} {ls : Array Slot} {rest : List Value} {own : String} {D : va_G} {cI cZ cQ : ClassId} {a_this a_bank a_kind a_word a_slow a_told : Nat} {z_planks z_size z_sworn : Int32} {fu : Nat} {r : Int32} (hx : p.tables.exec = Jvm.exec) (hb : c.code = cc) (hml : c.maxLocals = nL) (hown : s.vm.findClass own = some m.cls) (hts : ∀ w ∈ TB, w.before args s = true) (hKW : KW D (TY cI cZ cQ) s) (hlk : Cond.methodLink own index yX0_everyone ∈ TB) (hP : va_P D vwCl [(a_this, .inr (0, [.int z_planks, .int z_size, .int z_sworn, .ref a_bank, .ref a_kind, .ref a_word, .ref a_slow, .ref a_told]))] H) (hf : fX0_everyone fu z_size = some (r)) (hn : ls.size = nL) (hW : (rest.map fun v => v.category).sum ≤ 8) (hR : 0 + 1 ≤ R.frames ∧ 8 + (1 + 11) + 0 ≤ R.locals) (hcs : cells ≤ R.cells ∧ slots ≤ R.slots) (hdg : decode cc pc = .ok (.invokevirtual index, 3)) (kk : W p l e R s m args below meth c H locs cells slots Q (F0 m (pc + 3) ls (.int r :: rest))) : W p l e R s m args below meth c H locs cells slots Q (F0 m pc ls (.ref a_this :: rest)) :=
  x_ret (va_runV (As := []) (rest := rest) ⟨hx, hb, hml, hown, hts⟩ (tX0_everyone hf) (cwV 0 hts (tb_V hlk q494 q495 q40 q496) rfl rfl rfl (by decide +kernel) hR) ⟨roB, va_recv hKW.1 hP (ci := 0) (q0 := 0) rfl rfl, fun U hU hW => ⟨rfl, by rw [hU]; exact hP, hKW.warm hW⟩⟩ rfl rfl hn rfl (lv_room hW) hdg hcs) kk

-- HalfPlanks$Folk.holdBy(IIII)I
set_option maxHeartbeats 4000000 in
set_option maxRecDepth 100000 in
theorem tX0_holdBy {l : Launch} {D : va_G} {cI cZ cQ : ClassId} {a_this a_bank a_kind a_word a_slow a_told : Nat} {z_planks z_size z_sworn p1 p2 p3 p4 : Int32} {z_kind : Nat → Int32} {fu : Nat} {r : Int32} (hf : fX0_holdBy fu z_kind z_sworn p1 p2 p3 p4 = some (r)) : Met l yX0_holdBy (.code yX0_holdBy cX0_holdBy 5 (some .int) :: TB) ({ frames := 1, cells := 0, slots := 0, locals := 21 } : Room) (roP D (TY cI cZ cQ) [(a_this, .inr (0, [.int z_planks, .int z_size, .int z_sworn, .ref a_bank, .ref a_kind, .ref a_word, .ref a_slow, .ref a_told])), (a_kind, .inl (cI, 8, .inl z_kind))] [.ref a_this, .int p1, .int p2, .int p3, .int p4]) (roQ (some (.int r))) 0 0 (fun _ => False) := by
  refine Met.ofW (cc := cX0_holdBy) (maxL := 5) (ret := (some .int)) (by decide) rfl ?_
  intro p e s m args below meth c s₁ B hml hv
  obtain ⟨rfl, hP, hKW⟩ := hv
  have hx := B.exec
  have hb := B.bytes
  have hr := B.returns
  have hts : ∀ w ∈ TB, w.before ([.ref a_this, .int p1, .int p2, .int p3, .int p4] : List Value).toArray s = true := fun w h => atoms_spec (ws := .code yX0_holdBy cX0_holdBy 5 (some .int) :: TB) B.pre w (List.mem_cons_of_mem _ h)
  have hown : s.vm.findClass RX0 = some m.cls := findClass_of_methodNamed B.named
  have hlocks := B.notSynchronized
  have hK := hKW.1
  have hl := lv_entry [.ref a_this, .int p1, .int p2, .int p3, .int p4] (n := 5) (Nat.le_of_ble_eq_true rfl)
  rw [lg_entry_eq]
  generalize (lg_sl [.ref a_this, .int p1, .int p2, .int p3, .int p4] ++ List.replicate (5 - (lg_sl [.ref a_this, .int p1, .int p2, .int p3, .int p4]).length) Slot.unset).toArray = ls at hl ⊢
  have hl : lv_has ls 5 [(0, .ref a_this), (1, .int p1), (2, .int p2), (3, .int p3), (4, .int p4)] := hl
  show W p l e ({ frames := 1, cells := 0, slots := 0, locals := 21 } : Room) s m ([.ref a_this, .int p1, .int p2, .int p3, .int p4] : List Value).toArray below meth c s.heap [] 0 0 (MQ below (roQ (some (.int r))) ([.ref a_this, .int p1, .int p2, .int p3, .int p4] : List Value).toArray s 0 0 (fun _ => False)) (F0 m 0 ls [])
  unfold fX0_holdBy at hf
  refine lv_aload_n hx hb dX0_holdBy_0 rfl (lv_at hl 0 rfl) ?_
  refine va_get (D := D) (ci := 0) (v := .ref a_kind) (C := RX0) (T := TX0) (N := 8) hx hb hts inTX0 hown hK hP 0 rfl rfl 4 (by decide) (hts _ q90) (fun _ h9 => h9) rfl dX0_holdBy_1 ?_
  refine lv_iload_n hx hb dX0_holdBy_4 rfl (lv_at hl 1 rfl) ?_
  obtain ⟨v1, hv1, hf⟩ := ob hf
  refine x_iald hx hb hK hP 1 0 rfl rfl hv1 dX0_holdBy_5 ?_
  by_cases c2 : v1 = 2
  · replace hf := it hf c2
    refine lv_tableIn (off := 30) (tgt := 36) hx hb dX0_holdBy_6 (by rw [c2]; decide) (by rw [c2]; decide) (by rw [c2]; decide +kernel) (by decide) ?_
    refine lv_iload_n hx hb dX0_holdBy_36 rfl (lv_at hl 2 rfl) ?_
    refine lv_iconst (v := 3) hx hb dX0_holdBy_37 (by decide) ?_
    refine x_min hx hb hml hl.1 hown hts q506 ⟨Nat.le_of_ble_eq_true rfl, Nat.le_of_ble_eq_true rfl⟩ ⟨Nat.zero_le _, Nat.zero_le _⟩ dX0_holdBy_38 ?_
    cases hf
    exact W.iret hx hb hr (fun t ht _ => ⟨rfl, ht⟩) (fun q h => by cases h) dX0_holdBy_41
  replace hf := ie hf c2
  by_cases c3 : v1 = 3
  · replace hf := it hf c3
    refine lv_tableIn (off := 69) (tgt := 75) hx hb dX0_holdBy_6 (by rw [c3]; decide) (by rw [c3]; decide) (by rw [c3]; decide +kernel) (by decide) ?_
    refine lv_iload_n hx hb dX0_holdBy_75 rfl (lv_at hl 2 rfl) ?_
    cases hf
    exact W.iret hx hb hr (fun t ht _ => ⟨rfl, ht⟩) (fun q h => by cases h) dX0_holdBy_76
  replace hf := ie hf c3
  by_cases c5 : v1 = 4
  · replace hf := it hf c5
    refine lv_tableIn (off := 36) (tgt := 42) hx hb dX0_holdBy_6 (by rw [c5]; decide) (by rw [c5]; decide) (by rw [c5]; decide +kernel) (by decide) ?_
    refine lv_iload_n hx hb dX0_holdBy_42 rfl (lv_at hl 3 rfl) ?_
    refine lv_iconst (v := 1) hx hb dX0_holdBy_43 (by decide) ?_
    refine lv_iand hx hb dX0_holdBy_44 ?_
    refine lv_iconst (v := 1) hx hb dX0_holdBy_45 (by decide) ?_
    refine lv_icmp_ne (tgt := 55) hx hb dX0_holdBy_46 (by decide) (fun c4 => ?_) (fun c4 => ?_)
    · replace hf := ie hf c4
      refine lv_iload_n hx hb dX0_holdBy_55 rfl (lv_at hl 2 rfl) ?_
      cases hf
      exact W.iret hx hb hr (fun t ht _ => ⟨rfl, ht⟩) (fun q h => by cases h) dX0_holdBy_56
    · replace hf := it hf c4
      refine lv_iconst (v := 2) hx hb dX0_holdBy_49 (by decide) ?_
      refine lv_iload_n hx hb dX0_holdBy_50 rfl (lv_at hl 2 rfl) ?_
      refine lv_imul hx hb dX0_holdBy_51 ?_
      refine lv_goto (tgt := 56) hx hb dX0_holdBy_52 (by decide) ?_
      cases hf
      exact W.iret hx hb hr (fun t ht _ => ⟨rfl, ht⟩) (fun q h => by cases h) dX0_holdBy_56
  replace hf := ie hf c5
  by_cases c7 : v1 = 5
  · replace hf := it hf c7
    refine lv_tableIn (off := 51) (tgt := 57) hx hb dX0_holdBy_6 (by rw [c7]; decide) (by rw [c7]; decide) (by rw [c7]; decide +kernel) (by decide) ?_
    refine lv_iload hx hb dX0_holdBy_57 (lv_at hl 4 rfl) ?_
    refine lv_aload_n hx hb dX0_holdBy_59 rfl (lv_at hl 0 rfl) ?_
    refine va_get (D := D) (ci := 0) (v := .int z_sworn) (C := RX0) (T := TX0) (N := 8) hx hb hts inTX0 hown hK hP 0 rfl rfl 2 (by decide) (hts _ q85) (fun _ h9 => h9) rfl dX0_holdBy_60 ?_
    refine lv_iand hx hb dX0_holdBy_63 ?_
    refine lv_if_eq (tgt := 71) hx hb dX0_holdBy_64 (by decide) (fun c6 => ?_) (fun c6 => ?_)
    · replace hf := it hf c6
      refine lv_iconst (v := 2) hx hb dX0_holdBy_71 (by decide) ?_
      refine lv_iload_n hx hb dX0_holdBy_72 rfl (lv_at hl 2 rfl) ?_
      refine lv_imul hx hb dX0_holdBy_73 ?_
      cases hf
      exact W.iret hx hb hr (fun t ht _ => ⟨rfl, ht⟩) (fun q h => by cases h) dX0_holdBy_74
    · replace hf := ie hf c6
      refine lv_iconst (v := 0) hx hb dX0_holdBy_67 (by decide) ?_
      refine lv_goto (tgt := 74) hx hb dX0_holdBy_68 (by decide) ?_
      cases hf
      exact W.iret hx hb hr (fun t ht _ => ⟨rfl, ht⟩) (fun q h => by cases h) dX0_holdBy_74
  replace hf := ie hf c7
  refine lv_tableOut (tgt := 75) hx hb dX0_holdBy_6 (by have := lv_neT (a := 2) c2 (by decide); have := lv_neT (a := 3) c3 (by decide); have := lv_neT (a := 4) c5 (by decide); have := lv_neT (a := 5) c7 (by decide); omega) (by decide) ?_
  refine lv_iload_n hx hb dX0_holdBy_75 rfl (lv_at hl 2 rfl) ?_
  cases hf
  exact W.iret hx hb hr (fun t ht _ => ⟨rfl, ht⟩) (fun q h => by cases h) dX0_holdBy_76
theorem kX0_holdBy {p : Program} {l : Launch} {e : Env} {R : Room} {s : State} {m : MethodId} {args : Array Value} {below : List Frame} {meth : Method} {c : Code} {H : Heap} {locs : List Loc} {cells slots : Nat} {Q : State → Prop} {cc : ByteArray} {nL pc index : Nat} {ls : Array Slot} {rest : List Value} {own : String} {D : va_G} {cI cZ cQ : ClassId} {a_this a_bank a_kind a_word a_slow a_told : Nat} {z_planks z_size z_sworn p1 p2 p3 p4 : Int32} {z_kind : Nat → Int32} {fu : Nat} {r : Int32} (hx : p.tables.exec = Jvm.exec) (hb : c.code = cc) (hml : c.maxLocals = nL) (hown : s.vm.findClass own = some m.cls) (hts : ∀ w ∈ TB, w.before args s = true) (hKW : KW D (TY cI cZ cQ) s) (hlk : Cond.methodLink own index yX0_holdBy ∈ TB) (hP : va_P D vwCl [(a_this, .inr (0, [.int z_planks, .int z_size, .int z_sworn, .ref a_bank, .ref a_kind, .ref a_word, .ref a_slow, .ref a_told])), (a_kind, .inl (cI, 8, .inl z_kind))] H) (hf : fX0_holdBy fu z_kind z_sworn p1 p2 p3 p4 = some (r)) (hn : ls.size = nL) (hW : (rest.map fun v => v.category).sum ≤ 8) (hR : 1 + 1 ≤ R.frames ∧ 8 + (5 + 11) + 21 ≤ R.locals) (hcs : cells ≤ R.cells ∧ slots ≤ R.slots) (hdg : decode cc pc = .ok (.invokevirtual index, 3)) (kk : W p l e R s m args below meth c H locs cells slots Q (F0 m (pc + 3) ls (.int r :: rest))) : W p l e R s m args below meth c H locs cells slots Q (F0 m pc ls (.int p4 :: .int p3 :: .int p2 :: .int p1 :: .ref a_this :: rest)) :=
  x_ret (va_runV (As := [.int p1, .int p2, .int p3, .int p4]) (rest := rest) ⟨hx, hb, hml, hown, hts⟩ (tX0_holdBy hf) (cwV 4 hts (tb_V hlk q503 q504 q40 q505) rfl rfl rfl (by decide +kernel) hR) ⟨roB, va_recv hKW.1 hP (ci := 0) (q0 := 0) rfl rfl, fun U hU hW => ⟨rfl, by rw [hU]; exact hP, hKW.warm hW⟩⟩ rfl rfl hn rfl (lv_room hW) hdg hcs) kk

-- HalfPlanks$Folk.hasPerson(I)Z
set_option maxHeartbeats 4000000 in
set_option maxRecDepth 100000 in
theorem tX0_hasPerson {l : Launch} {D : va_G} {cI cZ cQ : ClassId} {a_this a_bank a_kind a_word a_slow a_told : Nat} {z_planks z_size z_sworn p1 : Int32} {fu : Nat} {r : Int32} (hf : fX0_hasPerson fu z_size p1 = some (r)) : Met l yX0_hasPerson (.code yX0_hasPerson cX0_hasPerson 2 (some .boolean) :: TB) ({ frames := 0, cells := 0, slots := 0, locals := 0 } : Room) (roP D (TY cI cZ cQ) [(a_this, .inr (0, [.int z_planks, .int z_size, .int z_sworn, .ref a_bank, .ref a_kind, .ref a_word, .ref a_slow, .ref a_told]))] [.ref a_this, .int p1]) (roQ (some (.int r))) 0 0 (fun _ => False) := by
  refine Met.ofW (cc := cX0_hasPerson) (maxL := 2) (ret := (some .boolean)) (by decide) rfl ?_
  intro p e s m args below meth c s₁ B hml hv
  obtain ⟨rfl, hP, hKW⟩ := hv
  have hx := B.exec
  have hb := B.bytes
  have hr := B.returns
  have hts : ∀ w ∈ TB, w.before ([.ref a_this, .int p1] : List Value).toArray s = true := fun w h => atoms_spec (ws := .code yX0_hasPerson cX0_hasPerson 2 (some .boolean) :: TB) B.pre w (List.mem_cons_of_mem _ h)
  have hown : s.vm.findClass RX0 = some m.cls := findClass_of_methodNamed B.named
  have hlocks := B.notSynchronized
  have hK := hKW.1
  have hl := lv_entry [.ref a_this, .int p1] (n := 2) (Nat.le_of_ble_eq_true rfl)
  rw [lg_entry_eq]
  generalize (lg_sl [.ref a_this, .int p1] ++ List.replicate (2 - (lg_sl [.ref a_this, .int p1]).length) Slot.unset).toArray = ls at hl ⊢
  have hl : lv_has ls 2 [(0, .ref a_this), (1, .int p1)] := hl
  show W p l e ({ frames := 0, cells := 0, slots := 0, locals := 0 } : Room) s m ([.ref a_this, .int p1] : List Value).toArray below meth c s.heap [] 0 0 (MQ below (roQ (some (.int r))) ([.ref a_this, .int p1] : List Value).toArray s 0 0 (fun _ => False)) (F0 m 0 ls [])
  unfold fX0_hasPerson at hf
  refine lv_iload_n hx hb dX0_hasPerson_0 rfl (lv_at hl 1 rfl) ?_
  refine lv_if_lt (tgt := 16) hx hb dX0_hasPerson_1 (by decide) (fun c1 => ?_) (fun c1 => ?_)
  · replace hf := it hf c1
    refine lv_iconst (v := 0) hx hb dX0_hasPerson_16 (by decide) ?_
    cases hf
    exact W.zret hx hb hr rfl (fun t ht _ => ⟨rfl, ht⟩) (fun q h => by cases h) dX0_hasPerson_17
  · replace hf := ie hf c1
    refine lv_iload_n hx hb dX0_hasPerson_4 rfl (lv_at hl 1 rfl) ?_
    refine lv_aload_n hx hb dX0_hasPerson_5 rfl (lv_at hl 0 rfl) ?_
    refine va_get (D := D) (ci := 0) (v := .int z_size) (C := RX0) (T := TX0) (N := 8) hx hb hts inTX0 hown hK hP 0 rfl rfl 1 (by decide) (hts _ q78) (fun _ h9 => h9) rfl dX0_hasPerson_6 ?_
    refine lv_icmp_ge (tgt := 16) hx hb dX0_hasPerson_9 (by decide) (fun c2 => ?_) (fun c2 => ?_)
    · replace hf := it hf c2
      refine lv_iconst (v := 0) hx hb dX0_hasPerson_16 (by decide) ?_
      cases hf
      exact W.zret hx hb hr rfl (fun t ht _ => ⟨rfl, ht⟩) (fun q h => by cases h) dX0_hasPerson_17
    · replace hf := ie hf c2
      refine lv_iconst (v := 1) hx hb dX0_hasPerson_12 (by decide) ?_
      refine lv_goto (tgt := 17) hx hb dX0_hasPerson_13 (by decide) ?_
      cases hf
      exact W.zret hx hb hr rfl (fun t ht _ => ⟨rfl, ht⟩) (fun q h => by cases h) dX0_hasPerson_17
theorem kX0_hasPerson {p : Program} {l : Launch} {e : Env} {R : Room} {s : State} {m : MethodId} {args : Array Value} {below : List Frame} {meth : Method} {c : Code} {H : Heap} {locs : List Loc} {cells slots : Nat} {Q : State → Prop} {cc : ByteArray} {nL pc index : Nat} {ls : Array Slot} {rest : List Value} {own : String} {D : va_G} {cI cZ cQ : ClassId} {a_this a_bank a_kind a_word a_slow a_told : Nat} {z_planks z_size z_sworn p1 : Int32} {fu : Nat} {r : Int32} (hx : p.tables.exec = Jvm.exec) (hb : c.code = cc) (hml : c.maxLocals = nL) (hown : s.vm.findClass own = some m.cls) (hts : ∀ w ∈ TB, w.before args s = true) (hKW : KW D (TY cI cZ cQ) s) (hlk : Cond.methodLink own index yX0_hasPerson ∈ TB) (hP : va_P D vwCl [(a_this, .inr (0, [.int z_planks, .int z_size, .int z_sworn, .ref a_bank, .ref a_kind, .ref a_word, .ref a_slow, .ref a_told]))] H) (hf : fX0_hasPerson fu z_size p1 = some (r)) (hn : ls.size = nL) (hW : (rest.map fun v => v.category).sum ≤ 8) (hR : 0 + 1 ≤ R.frames ∧ 8 + (2 + 11) + 0 ≤ R.locals) (hcs : cells ≤ R.cells ∧ slots ≤ R.slots) (hdg : decode cc pc = .ok (.invokevirtual index, 3)) (kk : W p l e R s m args below meth c H locs cells slots Q (F0 m (pc + 3) ls (.int r :: rest))) : W p l e R s m args below meth c H locs cells slots Q (F0 m pc ls (.int p1 :: .ref a_this :: rest)) :=
  x_ret (va_runV (As := [.int p1]) (rest := rest) ⟨hx, hb, hml, hown, hts⟩ (tX0_hasPerson hf) (cwV 1 hts (tb_V hlk q526 q527 q40 q528) rfl rfl rfl (by decide +kernel) hR) ⟨roB, va_recv hKW.1 hP (ci := 0) (q0 := 0) rfl rfl, fun U hU hW => ⟨rfl, by rw [hU]; exact hP, hKW.warm hW⟩⟩ rfl rfl hn rfl (lv_room hW) hdg hcs) kk

-- HalfPlanks$Folk.hasPlank(I)Z
set_option maxHeartbeats 4000000 in
set_option maxRecDepth 100000 in
theorem tX0_hasPlank {l : Launch} {D : va_G} {cI cZ cQ : ClassId} {a_this a_bank a_kind a_word a_slow a_told : Nat} {z_planks z_size z_sworn p1 : Int32} {fu : Nat} {r : Int32} (hf : fX0_hasPlank fu z_planks p1 = some (r)) : Met l yX0_hasPlank (.code yX0_hasPlank cX0_hasPlank 2 (some .boolean) :: TB) ({ frames := 0, cells := 0, slots := 0, locals := 0 } : Room) (roP D (TY cI cZ cQ) [(a_this, .inr (0, [.int z_planks, .int z_size, .int z_sworn, .ref a_bank, .ref a_kind, .ref a_word, .ref a_slow, .ref a_told]))] [.ref a_this, .int p1]) (roQ (some (.int r))) 0 0 (fun _ => False) := by
  refine Met.ofW (cc := cX0_hasPlank) (maxL := 2) (ret := (some .boolean)) (by decide) rfl ?_
  intro p e s m args below meth c s₁ B hml hv
  obtain ⟨rfl, hP, hKW⟩ := hv
  have hx := B.exec
  have hb := B.bytes
  have hr := B.returns
  have hts : ∀ w ∈ TB, w.before ([.ref a_this, .int p1] : List Value).toArray s = true := fun w h => atoms_spec (ws := .code yX0_hasPlank cX0_hasPlank 2 (some .boolean) :: TB) B.pre w (List.mem_cons_of_mem _ h)
  have hown : s.vm.findClass RX0 = some m.cls := findClass_of_methodNamed B.named
  have hlocks := B.notSynchronized
  have hK := hKW.1
  have hl := lv_entry [.ref a_this, .int p1] (n := 2) (Nat.le_of_ble_eq_true rfl)
  rw [lg_entry_eq]
  generalize (lg_sl [.ref a_this, .int p1] ++ List.replicate (2 - (lg_sl [.ref a_this, .int p1]).length) Slot.unset).toArray = ls at hl ⊢
  have hl : lv_has ls 2 [(0, .ref a_this), (1, .int p1)] := hl
  show W p l e ({ frames := 0, cells := 0, slots := 0, locals := 0 } : Room) s m ([.ref a_this, .int p1] : List Value).toArray below meth c s.heap [] 0 0 (MQ below (roQ (some (.int r))) ([.ref a_this, .int p1] : List Value).toArray s 0 0 (fun _ => False)) (F0 m 0 ls [])
  unfold fX0_hasPlank at hf
  refine lv_iload_n hx hb dX0_hasPlank_0 rfl (lv_at hl 1 rfl) ?_
  refine lv_if_lt (tgt := 16) hx hb dX0_hasPlank_1 (by decide) (fun c1 => ?_) (fun c1 => ?_)
  · replace hf := it hf c1
    refine lv_iconst (v := 0) hx hb dX0_hasPlank_16 (by decide) ?_
    cases hf
    exact W.zret hx hb hr rfl (fun t ht _ => ⟨rfl, ht⟩) (fun q h => by cases h) dX0_hasPlank_17
  · replace hf := ie hf c1
    refine lv_iload_n hx hb dX0_hasPlank_4 rfl (lv_at hl 1 rfl) ?_
    refine lv_aload_n hx hb dX0_hasPlank_5 rfl (lv_at hl 0 rfl) ?_
    refine va_get (D := D) (ci := 0) (v := .int z_planks) (C := RX0) (T := TX0) (N := 8) hx hb hts inTX0 hown hK hP 0 rfl rfl 0 (by decide) (hts _ q71) (fun _ h9 => h9) rfl dX0_hasPlank_6 ?_
    refine lv_icmp_ge (tgt := 16) hx hb dX0_hasPlank_9 (by decide) (fun c2 => ?_) (fun c2 => ?_)
    · replace hf := it hf c2
      refine lv_iconst (v := 0) hx hb dX0_hasPlank_16 (by decide) ?_
      cases hf
      exact W.zret hx hb hr rfl (fun t ht _ => ⟨rfl, ht⟩) (fun q h => by cases h) dX0_hasPlank_17
    · replace hf := ie hf c2
      refine lv_iconst (v := 1) hx hb dX0_hasPlank_12 (by decide) ?_
      refine lv_goto (tgt := 17) hx hb dX0_hasPlank_13 (by decide) ?_
      cases hf
      exact W.zret hx hb hr rfl (fun t ht _ => ⟨rfl, ht⟩) (fun q h => by cases h) dX0_hasPlank_17
theorem kX0_hasPlank {p : Program} {l : Launch} {e : Env} {R : Room} {s : State} {m : MethodId} {args : Array Value} {below : List Frame} {meth : Method} {c : Code} {H : Heap} {locs : List Loc} {cells slots : Nat} {Q : State → Prop} {cc : ByteArray} {nL pc index : Nat} {ls : Array Slot} {rest : List Value} {own : String} {D : va_G} {cI cZ cQ : ClassId} {a_this a_bank a_kind a_word a_slow a_told : Nat} {z_planks z_size z_sworn p1 : Int32} {fu : Nat} {r : Int32} (hx : p.tables.exec = Jvm.exec) (hb : c.code = cc) (hml : c.maxLocals = nL) (hown : s.vm.findClass own = some m.cls) (hts : ∀ w ∈ TB, w.before args s = true) (hKW : KW D (TY cI cZ cQ) s) (hlk : Cond.methodLink own index yX0_hasPlank ∈ TB) (hP : va_P D vwCl [(a_this, .inr (0, [.int z_planks, .int z_size, .int z_sworn, .ref a_bank, .ref a_kind, .ref a_word, .ref a_slow, .ref a_told]))] H) (hf : fX0_hasPlank fu z_planks p1 = some (r)) (hn : ls.size = nL) (hW : (rest.map fun v => v.category).sum ≤ 8) (hR : 0 + 1 ≤ R.frames ∧ 8 + (2 + 11) + 0 ≤ R.locals) (hcs : cells ≤ R.cells ∧ slots ≤ R.slots) (hdg : decode cc pc = .ok (.invokevirtual index, 3)) (kk : W p l e R s m args below meth c H locs cells slots Q (F0 m (pc + 3) ls (.int r :: rest))) : W p l e R s m args below meth c H locs cells slots Q (F0 m pc ls (.int p1 :: .ref a_this :: rest)) :=
  x_ret (va_runV (As := [.int p1]) (rest := rest) ⟨hx, hb, hml, hown, hts⟩ (tX0_hasPlank hf) (cwV 1 hts (tb_V hlk q552 q553 q40 q554) rfl rfl rfl (by decide +kernel) hR) ⟨roB, va_recv hKW.1 hP (ci := 0) (q0 := 0) rfl rfl, fun U hU hW => ⟨rfl, by rw [hU]; exact hP, hKW.warm hW⟩⟩ rfl rfl hn rfl (lv_room hW) hdg hcs) kk
