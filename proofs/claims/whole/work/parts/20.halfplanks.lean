-- HalfPlanks.type(I)I
def fX8_type (fu : Nat) (z_typed : Int32) (z_letters : Nat → Int32) (p1 : Int32) : Option (Int32 × Int32 × (Nat → Int32)) :=
  (fX8_within fu p1 0 255).bind fun v1 =>
  (if v1 = 0 then
  some ((-1), z_typed, z_letters)
  else
  (if z_typed < 120 then
  (wr 120 z_letters z_typed p1).bind fun g4 =>
  some ((z_typed + 1), (z_typed + 1), g4)
  else
  some ((-3), z_typed, z_letters)))
set_option maxHeartbeats 4000000 in
set_option maxRecDepth 100000 in
theorem tX8_type {l : Launch} {D : va_G} {cI cZ cQ : ClassId} {a_this a_letters a_draft a_folk a_reader a_strength a_present a_history a_images a_kept a_planner a_gambler a_guesser : Nat} {z_typed p1 : Int32} {z_traced : Int64} {z_letters : Nat → Int32} {fu : Nat} {r : Int32} {o_z_typed : Int32} {o_z_letters : Nat → Int32} (hf : fX8_type fu z_typed z_letters p1 = some (r, o_z_typed, o_z_letters)) : Met l yX8_type (.code yX8_type cX8_type 2 (some .int) :: TB) ({ frames := 1, cells := 0, slots := 0, locals := 22 } : Room) (rwP D (TY cI cZ cQ) [(a_this, .inr (8, [.ref a_letters, .int z_typed, .ref a_draft, .ref a_folk, .ref a_reader, .ref a_strength, .ref a_present, .ref a_history, .ref a_images, .ref a_kept, .ref a_planner, .ref a_gambler, .ref a_guesser, .long z_traced])), (a_letters, .inl (cI, 120, .inl z_letters))] [.ref a_this, .int p1]) (rwQ D (some (.int r)) [(a_this, .inr (8, [.ref a_letters, .int o_z_typed, .ref a_draft, .ref a_folk, .ref a_reader, .ref a_strength, .ref a_present, .ref a_history, .ref a_images, .ref a_kept, .ref a_planner, .ref a_gambler, .ref a_guesser, .long z_traced])), (a_letters, .inl (cI, 120, .inl o_z_letters))] (inW [(a_this, .inr (8, [.ref a_letters, .int z_typed, .ref a_draft, .ref a_folk, .ref a_reader, .ref a_strength, .ref a_present, .ref a_history, .ref a_images, .ref a_kept, .ref a_planner, .ref a_gambler, .ref a_guesser, .long z_traced])), (a_letters, .inl (cI, 120, .inl z_letters))])) 0 0 (inW [(a_this, .inr (8, [.ref a_letters, .int z_typed, .ref a_draft, .ref a_folk, .ref a_reader, .ref a_strength, .ref a_present, .ref a_history, .ref a_images, .ref a_kept, .ref a_planner, .ref a_gambler, .ref a_guesser, .long z_traced])), (a_letters, .inl (cI, 120, .inl z_letters))]) := by
  refine Met.ofW (cc := cX8_type) (maxL := 2) (ret := (some .int)) (by decide) rfl ?_
  intro p e s m args below meth c s₁ B hml hv
  obtain ⟨rfl, hP, hKW, hD0⟩ := hv
  have hx := B.exec
  have hb := B.bytes
  have hr := B.returns
  have hts : ∀ w ∈ TB, w.before ([.ref a_this, .int p1] : List Value).toArray s = true := fun w h => atoms_spec (ws := .code yX8_type cX8_type 2 (some .int) :: TB) B.pre w (List.mem_cons_of_mem _ h)
  have hown : s.vm.findClass RX8 = some m.cls := findClass_of_methodNamed B.named
  have hlocks := B.notSynchronized
  have hK := hKW.1
  have hD := inW_D hD0
  generalize hAe : inW [(a_this, .inr (8, [.ref a_letters, .int z_typed, .ref a_draft, .ref a_folk, .ref a_reader, .ref a_strength, .ref a_present, .ref a_history, .ref a_images, .ref a_kept, .ref a_planner, .ref a_gambler, .ref a_guesser, .long z_traced])), (a_letters, .inl (cI, 120, .inl z_letters))] = A at hD ⊢
  have hS : va_S A s.heap s.heap [] := va_S.rf
  have hl := lv_entry [.ref a_this, .int p1] (n := 2) (Nat.le_of_ble_eq_true rfl)
  rw [lg_entry_eq]
  generalize (lg_sl [.ref a_this, .int p1] ++ List.replicate (2 - (lg_sl [.ref a_this, .int p1]).length) Slot.unset).toArray = ls at hl ⊢
  have hl : lv_has ls 2 [(0, .ref a_this), (1, .int p1)] := hl
  show W p l e ({ frames := 1, cells := 0, slots := 0, locals := 22 } : Room) s m ([.ref a_this, .int p1] : List Value).toArray below meth c s.heap [] 0 0 (MQ below (rwQ D (some (.int r)) [(a_this, .inr (8, [.ref a_letters, .int o_z_typed, .ref a_draft, .ref a_folk, .ref a_reader, .ref a_strength, .ref a_present, .ref a_history, .ref a_images, .ref a_kept, .ref a_planner, .ref a_gambler, .ref a_guesser, .long z_traced])), (a_letters, .inl (cI, 120, .inl o_z_letters))] A) ([.ref a_this, .int p1] : List Value).toArray s 0 0 A) (F0 m 0 ls [])
  have hP : va_P D vwCl [(a_this, .inr (8, [.ref a_letters, .int z_typed, .ref a_draft, .ref a_folk, .ref a_reader, .ref a_strength, .ref a_present, .ref a_history, .ref a_images, .ref a_kept, .ref a_planner, .ref a_gambler, .ref a_guesser, .long z_traced])), (a_letters, .inl (cI, 120, .inl z_letters))] s.heap := hP
  have hD : va_D A [(a_this, .inr (8, [.ref a_letters, .int z_typed, .ref a_draft, .ref a_folk, .ref a_reader, .ref a_strength, .ref a_present, .ref a_history, .ref a_images, .ref a_kept, .ref a_planner, .ref a_gambler, .ref a_guesser, .long z_traced])), (a_letters, .inl (cI, 120, .inl z_letters))] := hD
  unfold fX8_type at hf
  obtain ⟨H, hH⟩ : ∃ H, H = s.heap := ⟨_, rfl⟩
  obtain ⟨locs, hlo⟩ : ∃ q : List Loc, q = [] := ⟨_, rfl⟩
  have hS : va_S A s.heap H locs := by rw [hH, hlo]; exact hS
  rw [← hH] at hP
  suffices hgo : W p l e ({ frames := 1, cells := 0, slots := 0, locals := 22 } : Room) s m ([.ref a_this, .int p1] : List Value).toArray below meth c H locs 0 0 (MQ below (rwQ D (some (.int r)) [(a_this, .inr (8, [.ref a_letters, .int o_z_typed, .ref a_draft, .ref a_folk, .ref a_reader, .ref a_strength, .ref a_present, .ref a_history, .ref a_images, .ref a_kept, .ref a_planner, .ref a_gambler, .ref a_guesser, .long z_traced])), (a_letters, .inl (cI, 120, .inl o_z_letters))] A) ([.ref a_this, .int p1] : List Value).toArray s 0 0 A) (F0 m 0 ls []) by rw [hH, hlo] at hgo; exact hgo
  clear hH hlo
  refine lv_iload_n hx hb dX8_type_0 rfl (lv_at hl 1 rfl) ?_
  refine lv_iconst (v := 0) hx hb dX8_type_1 (by decide) ?_
  refine lv_sipush (v := 255) hx hb dX8_type_2 (by decide) ?_
  obtain ⟨v1, hv1, hf⟩ := ob hf
  refine kX8_within hx hb hml hown hts hKW q334  hv1 hl.1 (Nat.le_of_ble_eq_true rfl) ⟨Nat.le_of_ble_eq_true rfl, Nat.le_of_ble_eq_true rfl⟩ ⟨Nat.zero_le _, Nat.zero_le _⟩ dX8_type_5 ?_
  refine lv_if_ne (tgt := 13) hx hb dX8_type_8 (by decide) (fun c2 => ?_) (fun c2 => ?_)
  · replace hf := ie hf c2
    refine lv_aload_n hx hb dX8_type_13 rfl (lv_at hl 0 rfl) ?_
    refine va_get (D := D) (ci := 8) (v := .int z_typed) (C := RX8) (T := TX8) (N := 14) hx hb hts inTX8 hown hK hP 0 rfl rfl 1 (by decide) (hts _ q288) (fun _ h9 => h9) rfl dX8_type_14 ?_
    refine lv_bipush (v := 120) hx hb dX8_type_17 (by decide) ?_
    refine lv_icmp_lt (tgt := 25) hx hb dX8_type_19 (by decide) (fun c3 => ?_) (fun c3 => ?_)
    · replace hf := it hf c3
      refine lv_aload_n hx hb dX8_type_25 rfl (lv_at hl 0 rfl) ?_
      refine va_get (D := D) (ci := 8) (v := .ref a_letters) (C := RX8) (T := TX8) (N := 14) hx hb hts inTX8 hown hK hP 0 rfl rfl 0 (by decide) (hts _ q287) (fun _ h9 => h9) rfl dX8_type_26 ?_
      refine lv_aload_n hx hb dX8_type_29 rfl (lv_at hl 0 rfl) ?_
      refine va_get (D := D) (ci := 8) (v := .int z_typed) (C := RX8) (T := TX8) (N := 14) hx hb hts inTX8 hown hK hP 0 rfl rfl 1 (by decide) (hts _ q288) (fun _ h9 => h9) rfl dX8_type_30 ?_
      refine lv_iload_n hx hb dX8_type_33 rfl (lv_at hl 1 rfl) ?_
      obtain ⟨g4, hg4, hf⟩ := ob hf
      refine x_iast hx hb hK hP hD hS 1 0 rfl rfl hg4 dX8_type_34 (fun H locs hP hD hS => ?_)
      have hP : va_P D vwCl [(a_this, .inr (8, [.ref a_letters, .int z_typed, .ref a_draft, .ref a_folk, .ref a_reader, .ref a_strength, .ref a_present, .ref a_history, .ref a_images, .ref a_kept, .ref a_planner, .ref a_gambler, .ref a_guesser, .long z_traced])), (a_letters, .inl (cI, 120, .inl g4))] H := hP
      have hD : va_D A [(a_this, .inr (8, [.ref a_letters, .int z_typed, .ref a_draft, .ref a_folk, .ref a_reader, .ref a_strength, .ref a_present, .ref a_history, .ref a_images, .ref a_kept, .ref a_planner, .ref a_gambler, .ref a_guesser, .long z_traced])), (a_letters, .inl (cI, 120, .inl g4))] := hD
      refine lv_aload_n hx hb dX8_type_35 rfl (lv_at hl 0 rfl) ?_
      refine lv_dup hx hb dX8_type_36 rfl ?_
      refine va_get (D := D) (ci := 8) (v := .int z_typed) (C := RX8) (T := TX8) (N := 14) hx hb hts inTX8 hown hK hP 0 rfl rfl 1 (by decide) (hts _ q288) (fun _ h9 => h9) rfl dX8_type_37 ?_
      refine lv_iconst (v := 1) hx hb dX8_type_40 (by decide) ?_
      refine lv_iadd hx hb dX8_type_41 ?_
      refine va_put (D := D) (ci := 8) (v := .int (z_typed + 1)) (ty := .int) (C := RX8) (T := TX8) (N := 14) hx hb hts inTX8 tyX8 tyX8_ok nmX8 hown hK hP hD hS 0 rfl rfl 1 (by decide) (hts _ q288) (fun _ h9 => h9) rfl (by decide +kernel) rfl rfl (Nat.le_of_ble_eq_true rfl) dX8_type_42 (fun H locs hP hD hS => ?_)
      have hP : va_P D vwCl [(a_this, .inr (8, [.ref a_letters, .int (z_typed + 1), .ref a_draft, .ref a_folk, .ref a_reader, .ref a_strength, .ref a_present, .ref a_history, .ref a_images, .ref a_kept, .ref a_planner, .ref a_gambler, .ref a_guesser, .long z_traced])), (a_letters, .inl (cI, 120, .inl g4))] H := hP
      have hD : va_D A [(a_this, .inr (8, [.ref a_letters, .int (z_typed + 1), .ref a_draft, .ref a_folk, .ref a_reader, .ref a_strength, .ref a_present, .ref a_history, .ref a_images, .ref a_kept, .ref a_planner, .ref a_gambler, .ref a_guesser, .long z_traced])), (a_letters, .inl (cI, 120, .inl g4))] := hD
      refine lv_aload_n hx hb dX8_type_45 rfl (lv_at hl 0 rfl) ?_
      refine va_get (D := D) (ci := 8) (v := .int (z_typed + 1)) (C := RX8) (T := TX8) (N := 14) hx hb hts inTX8 hown hK hP 0 rfl rfl 1 (by decide) (hts _ q288) (fun _ h9 => h9) rfl dX8_type_46 ?_
      cases hf
      exact W.iret hx hb hr (fun t ht _ => ⟨rfl, by rw [ht]; exact hP, hS.F ht⟩) hS.2.2 dX8_type_49
    · replace hf := ie hf c3
      refine lv_bipush (v := -3) hx hb dX8_type_22 (by decide) ?_
      cases hf
      exact W.iret hx hb hr (fun t ht _ => ⟨rfl, by rw [ht]; exact hP, hS.F ht⟩) hS.2.2 dX8_type_24
  · replace hf := it hf c2
    refine lv_iconst (v := -1) hx hb dX8_type_11 (by decide) ?_
    cases hf
    exact W.iret hx hb hr (fun t ht _ => ⟨rfl, by rw [ht]; exact hP, hS.F ht⟩) hS.2.2 dX8_type_12
theorem kX8_type {p : Program} {l : Launch} {e : Env} {R : Room} {s : State} {m : MethodId} {args : Array Value} {below : List Frame} {meth : Method} {c : Code} {H : Heap} {locs : List Loc} {cells slots : Nat} {Q : State → Prop} {cc : ByteArray} {nL pc index : Nat} {ls : Array Slot} {rest : List Value} {own : String} {D : va_G} {cI cZ cQ : ClassId} {a_this a_letters a_draft a_folk a_reader a_strength a_present a_history a_images a_kept a_planner a_gambler a_guesser : Nat} {z_typed p1 : Int32} {z_traced : Int64} {z_letters : Nat → Int32} {fu : Nat} {r : Int32} {o_z_typed : Int32} {o_z_letters : Nat → Int32} (hx : p.tables.exec = Jvm.exec) (hb : c.code = cc) (hml : c.maxLocals = nL) (hown : s.vm.findClass own = some m.cls) (hts : ∀ w ∈ TB, w.before args s = true) (hKW : KW D (TY cI cZ cQ) s) (hlk : Cond.methodLink own index yX8_type ∈ TB) {ws : va_W} {A : Nat → Prop} {H0 : Heap} (hP : va_P D vwCl ws H) (hD : va_D A ws) (hS : va_S A H0 H locs) (is : List Nat) (hC : is.map (fun i => ws[i]?) = ([(a_this, .inr (8, [.ref a_letters, .int z_typed, .ref a_draft, .ref a_folk, .ref a_reader, .ref a_strength, .ref a_present, .ref a_history, .ref a_images, .ref a_kept, .ref a_planner, .ref a_gambler, .ref a_guesser, .long z_traced])), (a_letters, .inl (cI, 120, .inl z_letters))] : va_W).map some) (hnd : va_nd is = true) (hf : fX8_type fu z_typed z_letters p1 = some (r, o_z_typed, o_z_letters)) (hn : ls.size = nL) (hW : (rest.map fun v => v.category).sum ≤ 8) (hR : 1 + 1 ≤ R.frames ∧ 8 + (2 + 11) + 22 ≤ R.locals) (hcs : cells ≤ R.cells ∧ slots ≤ R.slots) (hdg : decode cc pc = .ok (.invokevirtual index, 3)) (kk : ∀ (H1 : Heap) (locs1 : List Loc), va_P D vwCl (rpl ws is [(a_this, .inr (8, [.ref a_letters, .int o_z_typed, .ref a_draft, .ref a_folk, .ref a_reader, .ref a_strength, .ref a_present, .ref a_history, .ref a_images, .ref a_kept, .ref a_planner, .ref a_gambler, .ref a_guesser, .long z_traced])), (a_letters, .inl (cI, 120, .inl o_z_letters))]) H1 → va_D A (rpl ws is [(a_this, .inr (8, [.ref a_letters, .int o_z_typed, .ref a_draft, .ref a_folk, .ref a_reader, .ref a_strength, .ref a_present, .ref a_history, .ref a_images, .ref a_kept, .ref a_planner, .ref a_gambler, .ref a_guesser, .long z_traced])), (a_letters, .inl (cI, 120, .inl o_z_letters))]) → va_S A H0 H1 locs1 → W p l e R s m args below meth c H1 locs1 cells slots Q (F0 m (pc + 3) ls (.int r :: rest))) : W p l e R s m args below meth c H locs cells slots Q (F0 m pc ls (.int p1 :: .ref a_this :: rest)) :=
  x_rw (va_runV (As := [.int p1]) (rest := rest) ⟨hx, hb, hml, hown, hts⟩ (tX8_type hf) (cwV 1 hts (tb_V hlk q331 q332 q39 q333) rfl rfl rfl (by decide +kernel) hR) ⟨rwB, va_recv hKW.1 (subP hP hC) (ci := 8) (q0 := 0) rfl rfl, fun U hU hW => ⟨rfl, by rw [hU]; exact subP hP hC, hKW.warm hW, subD hD hC hnd⟩⟩ rfl rfl hn rfl (lv_room hW) hdg hcs) hP hD hS is hC rfl kk

-- HalfPlanks.clear()I
def fX8_clear (fu : Nat) (z_typed : Int32) : Option (Int32 × Int32) :=
  some (z_typed, 0)
set_option maxHeartbeats 4000000 in
set_option maxRecDepth 100000 in
theorem tX8_clear {l : Launch} {D : va_G} {cI cZ cQ : ClassId} {a_this a_letters a_draft a_folk a_reader a_strength a_present a_history a_images a_kept a_planner a_gambler a_guesser : Nat} {z_typed : Int32} {z_traced : Int64} {fu : Nat} {r : Int32} {o_z_typed : Int32} (hf : fX8_clear fu z_typed = some (r, o_z_typed)) : Met l yX8_clear (.code yX8_clear cX8_clear 2 (some .int) :: TB) ({ frames := 0, cells := 0, slots := 0, locals := 0 } : Room) (rwP D (TY cI cZ cQ) [(a_this, .inr (8, [.ref a_letters, .int z_typed, .ref a_draft, .ref a_folk, .ref a_reader, .ref a_strength, .ref a_present, .ref a_history, .ref a_images, .ref a_kept, .ref a_planner, .ref a_gambler, .ref a_guesser, .long z_traced]))] [.ref a_this]) (rwQ D (some (.int r)) [(a_this, .inr (8, [.ref a_letters, .int o_z_typed, .ref a_draft, .ref a_folk, .ref a_reader, .ref a_strength, .ref a_present, .ref a_history, .ref a_images, .ref a_kept, .ref a_planner, .ref a_gambler, .ref a_guesser, .long z_traced]))] (inW [(a_this, .inr (8, [.ref a_letters, .int z_typed, .ref a_draft, .ref a_folk, .ref a_reader, .ref a_strength, .ref a_present, .ref a_history, .ref a_images, .ref a_kept, .ref a_planner, .ref a_gambler, .ref a_guesser, .long z_traced]))])) 0 0 (inW [(a_this, .inr (8, [.ref a_letters, .int z_typed, .ref a_draft, .ref a_folk, .ref a_reader, .ref a_strength, .ref a_present, .ref a_history, .ref a_images, .ref a_kept, .ref a_planner, .ref a_gambler, .ref a_guesser, .long z_traced]))]) := by
  refine Met.ofW (cc := cX8_clear) (maxL := 2) (ret := (some .int)) (by decide) rfl ?_
  intro p e s m args below meth c s₁ B hml hv
  obtain ⟨rfl, hP, hKW, hD0⟩ := hv
  have hx := B.exec
  have hb := B.bytes
  have hr := B.returns
  have hts : ∀ w ∈ TB, w.before ([.ref a_this] : List Value).toArray s = true := fun w h => atoms_spec (ws := .code yX8_clear cX8_clear 2 (some .int) :: TB) B.pre w (List.mem_cons_of_mem _ h)
  have hown : s.vm.findClass RX8 = some m.cls := findClass_of_methodNamed B.named
  have hlocks := B.notSynchronized
  have hK := hKW.1
  have hD := inW_D hD0
  generalize hAe : inW [(a_this, .inr (8, [.ref a_letters, .int z_typed, .ref a_draft, .ref a_folk, .ref a_reader, .ref a_strength, .ref a_present, .ref a_history, .ref a_images, .ref a_kept, .ref a_planner, .ref a_gambler, .ref a_guesser, .long z_traced]))] = A at hD ⊢
  have hS : va_S A s.heap s.heap [] := va_S.rf
  have hl := lv_entry [.ref a_this] (n := 2) (Nat.le_of_ble_eq_true rfl)
  rw [lg_entry_eq]
  generalize (lg_sl [.ref a_this] ++ List.replicate (2 - (lg_sl [.ref a_this]).length) Slot.unset).toArray = ls at hl ⊢
  have hl : lv_has ls 2 [(0, .ref a_this)] := hl
  show W p l e ({ frames := 0, cells := 0, slots := 0, locals := 0 } : Room) s m ([.ref a_this] : List Value).toArray below meth c s.heap [] 0 0 (MQ below (rwQ D (some (.int r)) [(a_this, .inr (8, [.ref a_letters, .int o_z_typed, .ref a_draft, .ref a_folk, .ref a_reader, .ref a_strength, .ref a_present, .ref a_history, .ref a_images, .ref a_kept, .ref a_planner, .ref a_gambler, .ref a_guesser, .long z_traced]))] A) ([.ref a_this] : List Value).toArray s 0 0 A) (F0 m 0 ls [])
  have hP : va_P D vwCl [(a_this, .inr (8, [.ref a_letters, .int z_typed, .ref a_draft, .ref a_folk, .ref a_reader, .ref a_strength, .ref a_present, .ref a_history, .ref a_images, .ref a_kept, .ref a_planner, .ref a_gambler, .ref a_guesser, .long z_traced]))] s.heap := hP
  have hD : va_D A [(a_this, .inr (8, [.ref a_letters, .int z_typed, .ref a_draft, .ref a_folk, .ref a_reader, .ref a_strength, .ref a_present, .ref a_history, .ref a_images, .ref a_kept, .ref a_planner, .ref a_gambler, .ref a_guesser, .long z_traced]))] := hD
  unfold fX8_clear at hf
  obtain ⟨H, hH⟩ : ∃ H, H = s.heap := ⟨_, rfl⟩
  obtain ⟨locs, hlo⟩ : ∃ q : List Loc, q = [] := ⟨_, rfl⟩
  have hS : va_S A s.heap H locs := by rw [hH, hlo]; exact hS
  rw [← hH] at hP
  suffices hgo : W p l e ({ frames := 0, cells := 0, slots := 0, locals := 0 } : Room) s m ([.ref a_this] : List Value).toArray below meth c H locs 0 0 (MQ below (rwQ D (some (.int r)) [(a_this, .inr (8, [.ref a_letters, .int o_z_typed, .ref a_draft, .ref a_folk, .ref a_reader, .ref a_strength, .ref a_present, .ref a_history, .ref a_images, .ref a_kept, .ref a_planner, .ref a_gambler, .ref a_guesser, .long z_traced]))] A) ([.ref a_this] : List Value).toArray s 0 0 A) (F0 m 0 ls []) by rw [hH, hlo] at hgo; exact hgo
  clear hH hlo
  refine lv_aload_n hx hb dX8_clear_0 rfl (lv_at hl 0 rfl) ?_
  refine va_get (D := D) (ci := 8) (v := .int z_typed) (C := RX8) (T := TX8) (N := 14) hx hb hts inTX8 hown hK hP 0 rfl rfl 1 (by decide) (hts _ q288) (fun _ h9 => h9) rfl dX8_clear_1 ?_
  refine lv_istore_n (lv' := [(1, .int z_typed), (0, .ref a_this)]) hx hb dX8_clear_4 rfl hl (by decide) rfl (fun ls hl => ?_)
  refine lv_aload_n hx hb dX8_clear_5 rfl (lv_at hl 1 rfl) ?_
  refine lv_iconst (v := 0) hx hb dX8_clear_6 (by decide) ?_
  refine va_put (D := D) (ci := 8) (v := .int 0) (ty := .int) (C := RX8) (T := TX8) (N := 14) hx hb hts inTX8 tyX8 tyX8_ok nmX8 hown hK hP hD hS 0 rfl rfl 1 (by decide) (hts _ q288) (fun _ h9 => h9) rfl (by decide +kernel) rfl rfl (Nat.le_of_ble_eq_true rfl) dX8_clear_7 (fun H locs hP hD hS => ?_)
  have hP : va_P D vwCl [(a_this, .inr (8, [.ref a_letters, .int 0, .ref a_draft, .ref a_folk, .ref a_reader, .ref a_strength, .ref a_present, .ref a_history, .ref a_images, .ref a_kept, .ref a_planner, .ref a_gambler, .ref a_guesser, .long z_traced]))] H := hP
  have hD : va_D A [(a_this, .inr (8, [.ref a_letters, .int 0, .ref a_draft, .ref a_folk, .ref a_reader, .ref a_strength, .ref a_present, .ref a_history, .ref a_images, .ref a_kept, .ref a_planner, .ref a_gambler, .ref a_guesser, .long z_traced]))] := hD
  refine lv_iload_n hx hb dX8_clear_10 rfl (lv_at hl 0 rfl) ?_
  cases hf
  exact W.iret hx hb hr (fun t ht _ => ⟨rfl, by rw [ht]; exact hP, hS.F ht⟩) hS.2.2 dX8_clear_11
theorem kX8_clear {p : Program} {l : Launch} {e : Env} {R : Room} {s : State} {m : MethodId} {args : Array Value} {below : List Frame} {meth : Method} {c : Code} {H : Heap} {locs : List Loc} {cells slots : Nat} {Q : State → Prop} {cc : ByteArray} {nL pc index : Nat} {ls : Array Slot} {rest : List Value} {own : String} {D : va_G} {cI cZ cQ : ClassId} {a_this a_letters a_draft a_folk a_reader a_strength a_present a_history a_images a_kept a_planner a_gambler a_guesser : Nat} {z_typed : Int32} {z_traced : Int64} {fu : Nat} {r : Int32} {o_z_typed : Int32} (hx : p.tables.exec = Jvm.exec) (hb : c.code = cc) (hml : c.maxLocals = nL) (hown : s.vm.findClass own = some m.cls) (hts : ∀ w ∈ TB, w.before args s = true) (hKW : KW D (TY cI cZ cQ) s) (hlk : Cond.methodLink own index yX8_clear ∈ TB) {ws : va_W} {A : Nat → Prop} {H0 : Heap} (hP : va_P D vwCl ws H) (hD : va_D A ws) (hS : va_S A H0 H locs) (is : List Nat) (hC : is.map (fun i => ws[i]?) = ([(a_this, .inr (8, [.ref a_letters, .int z_typed, .ref a_draft, .ref a_folk, .ref a_reader, .ref a_strength, .ref a_present, .ref a_history, .ref a_images, .ref a_kept, .ref a_planner, .ref a_gambler, .ref a_guesser, .long z_traced]))] : va_W).map some) (hnd : va_nd is = true) (hf : fX8_clear fu z_typed = some (r, o_z_typed)) (hn : ls.size = nL) (hW : (rest.map fun v => v.category).sum ≤ 8) (hR : 0 + 1 ≤ R.frames ∧ 8 + (2 + 11) + 0 ≤ R.locals) (hcs : cells ≤ R.cells ∧ slots ≤ R.slots) (hdg : decode cc pc = .ok (.invokevirtual index, 3)) (kk : ∀ (H1 : Heap) (locs1 : List Loc), va_P D vwCl (rpl ws is [(a_this, .inr (8, [.ref a_letters, .int o_z_typed, .ref a_draft, .ref a_folk, .ref a_reader, .ref a_strength, .ref a_present, .ref a_history, .ref a_images, .ref a_kept, .ref a_planner, .ref a_gambler, .ref a_guesser, .long z_traced]))]) H1 → va_D A (rpl ws is [(a_this, .inr (8, [.ref a_letters, .int o_z_typed, .ref a_draft, .ref a_folk, .ref a_reader, .ref a_strength, .ref a_present, .ref a_history, .ref a_images, .ref a_kept, .ref a_planner, .ref a_gambler, .ref a_guesser, .long z_traced]))]) → va_S A H0 H1 locs1 → W p l e R s m args below meth c H1 locs1 cells slots Q (F0 m (pc + 3) ls (.int r :: rest))) : W p l e R s m args below meth c H locs cells slots Q (F0 m pc ls (.ref a_this :: rest)) :=
  x_rw (va_runV (As := []) (rest := rest) ⟨hx, hb, hml, hown, hts⟩ (tX8_clear hf) (cwV 0 hts (tb_V hlk q338 q339 q39 q340) rfl rfl rfl (by decide +kernel) hR) ⟨rwB, va_recv hKW.1 (subP hP hC) (ci := 8) (q0 := 0) rfl rfl, fun U hU hW => ⟨rfl, by rw [hU]; exact subP hP hC, hKW.warm hW, subD hD hC hnd⟩⟩ rfl rfl hn rfl (lv_room hW) hdg hcs) hP hD hS is hC rfl kk

-- HalfPlanks.planksOf([II)I
def fX8_planksOf_b5_body (fu : Nat) (z_folk_planks : Int32) (z_p1 : Nat → Int32) (r5 : Int32 → Int32 → Int32 → Option (Int32)) (l2 : Int32) (l3 : Int32) (l4 : Int32) : Option (Int32) :=
  (if z_folk_planks ≤ l4 then
  some (l3)
  else
  (rd 8 z_p1 l4).bind fun v2 =>
  (fX8_has fu v2 l2).bind fun v3 =>
  (if v3 = 0 then
  r5 l2 l3 (l4 + 1)
  else
  r5 l2 (l3 ||| ((1 : Int32) <<< (l4 &&& 31))) (l4 + 1)))
def fX8_planksOf_b5 (fu : Nat) (z_folk_planks : Int32) (z_p1 : Nat → Int32) : Nat → Int32 → Int32 → Int32 → Option (Int32)
  | 0, _, _, _ => none
  | n + 1, l2, l3, l4 => fX8_planksOf_b5_body fu z_folk_planks z_p1 (fX8_planksOf_b5 fu z_folk_planks z_p1 n) l2 l3 l4
def fX8_planksOf (fu : Nat) (z_folk_planks : Int32) (z_p1 : Nat → Int32) (p2 : Int32) : Option (Int32) :=
  fX8_planksOf_b5 fu z_folk_planks z_p1 fu p2 0 0
set_option maxHeartbeats 4000000 in
set_option maxRecDepth 100000 in
theorem tX8_planksOf {l : Launch} {D : va_G} {cI cZ cQ : ClassId} {a_this a_letters a_draft a_folk a_reader a_strength a_present a_history a_images a_kept a_planner a_gambler a_guesser a_folk_bank a_folk_kind a_folk_word a_folk_slow a_folk_told a_p1 : Nat} {z_typed z_folk_planks z_folk_size z_folk_sworn p2 : Int32} {z_traced : Int64} {z_p1 : Nat → Int32} {fu : Nat} {r : Int32} (hf : fX8_planksOf fu z_folk_planks z_p1 p2 = some (r)) : Met l yX8_planksOf (.code yX8_planksOf cX8_planksOf 5 (some .int) :: TB) ({ frames := 1, cells := 0, slots := 0, locals := 21 } : Room) (roP D (TY cI cZ cQ) [(a_this, .inr (8, [.ref a_letters, .int z_typed, .ref a_draft, .ref a_folk, .ref a_reader, .ref a_strength, .ref a_present, .ref a_history, .ref a_images, .ref a_kept, .ref a_planner, .ref a_gambler, .ref a_guesser, .long z_traced])), (a_folk, .inr (0, [.int z_folk_planks, .int z_folk_size, .int z_folk_sworn, .ref a_folk_bank, .ref a_folk_kind, .ref a_folk_word, .ref a_folk_slow, .ref a_folk_told])), (a_p1, .inl (cI, 8, .inl z_p1))] [.ref a_this, .ref a_p1, .int p2]) (roQ (some (.int r))) 0 0 (fun _ => False) := by
  refine Met.ofW (cc := cX8_planksOf) (maxL := 5) (ret := (some .int)) (by decide) rfl ?_
  intro p e s m args below meth c s₁ B hml hv
  obtain ⟨rfl, hP, hKW⟩ := hv
  have hx := B.exec
  have hb := B.bytes
  have hr := B.returns
  have hts : ∀ w ∈ TB, w.before ([.ref a_this, .ref a_p1, .int p2] : List Value).toArray s = true := fun w h => atoms_spec (ws := .code yX8_planksOf cX8_planksOf 5 (some .int) :: TB) B.pre w (List.mem_cons_of_mem _ h)
  have hown : s.vm.findClass RX8 = some m.cls := findClass_of_methodNamed B.named
  have hlocks := B.notSynchronized
  have hK := hKW.1
  have hl := lv_entry [.ref a_this, .ref a_p1, .int p2] (n := 5) (Nat.le_of_ble_eq_true rfl)
  rw [lg_entry_eq]
  generalize (lg_sl [.ref a_this, .ref a_p1, .int p2] ++ List.replicate (5 - (lg_sl [.ref a_this, .ref a_p1, .int p2]).length) Slot.unset).toArray = ls at hl ⊢
  have hl : lv_has ls 5 [(0, .ref a_this), (1, .ref a_p1), (2, .int p2)] := hl
  show W p l e ({ frames := 1, cells := 0, slots := 0, locals := 21 } : Room) s m ([.ref a_this, .ref a_p1, .int p2] : List Value).toArray below meth c s.heap [] 0 0 (MQ below (roQ (some (.int r))) ([.ref a_this, .ref a_p1, .int p2] : List Value).toArray s 0 0 (fun _ => False)) (F0 m 0 ls [])
  have hB5 : ∀ (n5 : Nat) (l2 : Int32) (l3 : Int32) (l4 : Int32) (ls : Array Slot), lv_has ls 5 [(0, .ref a_this), (1, .ref a_p1), (2, .int l2), (3, .int l3), (4, .int l4)] → fX8_planksOf_b5 fu z_folk_planks z_p1 n5 l2 l3 l4 = some (r) → W p l e ({ frames := 1, cells := 0, slots := 0, locals := 21 } : Room) s m ([.ref a_this, .ref a_p1, .int p2] : List Value).toArray below meth c s.heap [] 0 0 (MQ below (roQ (some (.int r))) ([.ref a_this, .ref a_p1, .int p2] : List Value).toArray s 0 0 (fun _ => False)) (F0 m 5 ls []) := by
    intro n5
    induction n5 with
    | zero => intro l2 l3 l4 ls hl hf; exact nn hf
    | succ n5 ih5 =>
      intro l2 l3 l4 ls hl hf
      replace hf : fX8_planksOf_b5_body fu z_folk_planks z_p1 (fX8_planksOf_b5 fu z_folk_planks z_p1 n5) l2 l3 l4 = some (r) := hf
      unfold fX8_planksOf_b5_body at hf
      refine lv_iload hx hb dX8_planksOf_5 (lv_at hl 4 rfl) ?_
      refine lv_aload_n hx hb dX8_planksOf_7 rfl (lv_at hl 0 rfl) ?_
      refine va_get (D := D) (ci := 8) (v := .ref a_folk) (C := RX8) (T := TX8) (N := 14) hx hb hts inTX8 hown hK hP 0 rfl rfl 3 (by decide) (hts _ q290) (fun _ h9 => h9) rfl dX8_planksOf_8 ?_
      refine va_get (D := D) (ci := 0) (v := .int z_folk_planks) (C := RX0) (T := TX0) (N := 8) hx hb hts inTX0 hown hK hP 1 rfl rfl 0 (by decide) (hts _ q77) (fun _ h9 => h9) rfl dX8_planksOf_11 ?_
      refine lv_icmp_ge (tgt := 41) hx hb dX8_planksOf_14 (by decide) (fun c1 => ?_) (fun c1 => ?_)
      · replace hf := it hf c1
        refine lv_iload_n hx hb dX8_planksOf_41 rfl (lv_at hl 3 rfl) ?_
        cases hf
        exact W.iret hx hb hr (fun t ht _ => ⟨rfl, ht⟩) (fun q h => by cases h) dX8_planksOf_42
      · replace hf := ie hf c1
        refine lv_aload_n hx hb dX8_planksOf_17 rfl (lv_at hl 1 rfl) ?_
        refine lv_iload hx hb dX8_planksOf_18 (lv_at hl 4 rfl) ?_
        obtain ⟨v2, hv2, hf⟩ := ob hf
        refine x_iald hx hb hK hP 2 0 rfl rfl hv2 dX8_planksOf_20 ?_
        refine lv_iload_n hx hb dX8_planksOf_21 rfl (lv_at hl 2 rfl) ?_
        obtain ⟨v3, hv3, hf⟩ := ob hf
        refine kX8_has hx hb hml hown hts hKW q533  hv3 hl.1 (Nat.le_of_ble_eq_true rfl) ⟨Nat.le_of_ble_eq_true rfl, Nat.le_of_ble_eq_true rfl⟩ ⟨Nat.zero_le _, Nat.zero_le _⟩ dX8_planksOf_22 ?_
        refine lv_if_eq (tgt := 35) hx hb dX8_planksOf_25 (by decide) (fun c4 => ?_) (fun c4 => ?_)
        · replace hf := it hf c4
          refine lv_iinc (v := (l4 + 1)) (lv' := [(4, .int (l4 + 1)), (0, .ref a_this), (1, .ref a_p1), (2, .int l2), (3, .int l3)]) hx hb dX8_planksOf_35 hl (k := 4) rfl rfl (by decide) rfl (fun ls hl => ?_)
          refine lv_goto (tgt := 5) hx hb dX8_planksOf_38 (by decide) ?_
          exact ih5 l2 l3 (l4 + 1) ls (lv_sub hl [1, 2, 3, 4, 0] rfl) hf
        · replace hf := ie hf c4
          refine lv_iload_n hx hb dX8_planksOf_28 rfl (lv_at hl 3 rfl) ?_
          refine lv_iconst (v := 1) hx hb dX8_planksOf_29 (by decide) ?_
          refine lv_iload hx hb dX8_planksOf_30 (lv_at hl 4 rfl) ?_
          refine lv_ishl hx hb dX8_planksOf_32 ?_
          refine lv_ior hx hb dX8_planksOf_33 ?_
          refine lv_istore_n (lv' := [(3, .int (l3 ||| ((1 : Int32) <<< (l4 &&& 31)))), (0, .ref a_this), (1, .ref a_p1), (2, .int l2), (4, .int l4)]) hx hb dX8_planksOf_34 rfl hl (by decide) rfl (fun ls hl => ?_)
          refine lv_iinc (v := (l4 + 1)) (lv' := [(4, .int (l4 + 1)), (3, .int (l3 ||| ((1 : Int32) <<< (l4 &&& 31)))), (0, .ref a_this), (1, .ref a_p1), (2, .int l2)]) hx hb dX8_planksOf_35 hl (k := 4) rfl rfl (by decide) rfl (fun ls hl => ?_)
          refine lv_goto (tgt := 5) hx hb dX8_planksOf_38 (by decide) ?_
          exact ih5 l2 (l3 ||| ((1 : Int32) <<< (l4 &&& 31))) (l4 + 1) ls (lv_sub hl [2, 3, 4, 1, 0] rfl) hf
  unfold fX8_planksOf at hf
  refine lv_iconst (v := 0) hx hb dX8_planksOf_0 (by decide) ?_
  refine lv_istore_n (lv' := [(3, .int 0), (0, .ref a_this), (1, .ref a_p1), (2, .int p2)]) hx hb dX8_planksOf_1 rfl hl (by decide) rfl (fun ls hl => ?_)
  refine lv_iconst (v := 0) hx hb dX8_planksOf_2 (by decide) ?_
  refine lv_istore (lv' := [(4, .int 0), (3, .int 0), (0, .ref a_this), (1, .ref a_p1), (2, .int p2)]) hx hb dX8_planksOf_3 hl (by decide) rfl (fun ls hl => ?_)
  exact hB5 fu p2 0 0 ls (lv_sub hl [2, 3, 4, 1, 0] rfl) hf
theorem kX8_planksOf {p : Program} {l : Launch} {e : Env} {R : Room} {s : State} {m : MethodId} {args : Array Value} {below : List Frame} {meth : Method} {c : Code} {H : Heap} {locs : List Loc} {cells slots : Nat} {Q : State → Prop} {cc : ByteArray} {nL pc index : Nat} {ls : Array Slot} {rest : List Value} {own : String} {D : va_G} {cI cZ cQ : ClassId} {a_this a_letters a_draft a_folk a_reader a_strength a_present a_history a_images a_kept a_planner a_gambler a_guesser a_folk_bank a_folk_kind a_folk_word a_folk_slow a_folk_told a_p1 : Nat} {z_typed z_folk_planks z_folk_size z_folk_sworn p2 : Int32} {z_traced : Int64} {z_p1 : Nat → Int32} {fu : Nat} {r : Int32} (hx : p.tables.exec = Jvm.exec) (hb : c.code = cc) (hml : c.maxLocals = nL) (hown : s.vm.findClass own = some m.cls) (hts : ∀ w ∈ TB, w.before args s = true) (hKW : KW D (TY cI cZ cQ) s) (hlk : Cond.methodLink own index yX8_planksOf ∈ TB) (hP : va_P D vwCl [(a_this, .inr (8, [.ref a_letters, .int z_typed, .ref a_draft, .ref a_folk, .ref a_reader, .ref a_strength, .ref a_present, .ref a_history, .ref a_images, .ref a_kept, .ref a_planner, .ref a_gambler, .ref a_guesser, .long z_traced])), (a_folk, .inr (0, [.int z_folk_planks, .int z_folk_size, .int z_folk_sworn, .ref a_folk_bank, .ref a_folk_kind, .ref a_folk_word, .ref a_folk_slow, .ref a_folk_told])), (a_p1, .inl (cI, 8, .inl z_p1))] H) (hf : fX8_planksOf fu z_folk_planks z_p1 p2 = some (r)) (hn : ls.size = nL) (hW : (rest.map fun v => v.category).sum ≤ 8) (hR : 1 + 1 ≤ R.frames ∧ 8 + (5 + 11) + 21 ≤ R.locals) (hcs : cells ≤ R.cells ∧ slots ≤ R.slots) (hdg : decode cc pc = .ok (.invokevirtual index, 3)) (kk : W p l e R s m args below meth c H locs cells slots Q (F0 m (pc + 3) ls (.int r :: rest))) : W p l e R s m args below meth c H locs cells slots Q (F0 m pc ls (.int p2 :: .ref a_p1 :: .ref a_this :: rest)) :=
  x_ret (va_runV (As := [.ref a_p1, .int p2]) (rest := rest) ⟨hx, hb, hml, hown, hts⟩ (tX8_planksOf hf) (cwV 2 hts (tb_V hlk q531 q0 q39 q532) rfl rfl rfl (by decide +kernel) hR) ⟨roB, va_recv hKW.1 hP (ci := 8) (q0 := 0) rfl rfl, fun U hU hW => ⟨rfl, by rw [hU]; exact hP, hKW.warm hW⟩⟩ rfl rfl hn rfl (lv_room hW) hdg hcs) kk

-- HalfPlanks.person(II)I
def fX8_person (fu : Nat) (z_folk_size : Int32) (z_present_came : Nat → Int32) (z_strength_borne : Nat → Int32) (z_folk_planks : Int32) (z_present_under : Nat → Int32) (z_folk_slow : Nat → Int32) (z_folk_word : Nat → Int32) (z_folk_kind : Nat → Int32) (z_folk_bank : Nat → Int32) (p1 : Int32) (p2 : Int32) : Option (Int32) :=
  (fX0_hasPerson fu z_folk_size p1).bind fun v1 =>
  (if v1 = 0 then
  some ((-1))
  else
  (if p2 = 0 then
  (rd 8 z_folk_bank p1).bind fun v3 =>
  some (v3)
  else if p2 = 1 then
  (rd 8 z_folk_kind p1).bind fun v5 =>
  some (v5)
  else if p2 = 2 then
  (rd 8 z_folk_word p1).bind fun v7 =>
  some (v7)
  else if p2 = 3 then
  (rd 8 z_folk_slow p1).bind fun v9 =>
  some (v9)
  else if p2 = 4 then
  (fX8_planksOf fu z_folk_planks z_present_came p1).bind fun v11 =>
  some (v11)
  else if p2 = 5 then
  (fX8_planksOf fu z_folk_planks z_present_under p1).bind fun v13 =>
  some (v13)
  else if p2 = 6 then
  (fX7_falling fu z_folk_planks z_present_came z_strength_borne p1).bind fun v15 =>
  some (v15)
  else if p2 = 7 then
  (fX7_bridge fu z_present_came z_strength_borne z_folk_planks 0).bind fun v17 =>
  (fX7_bridge fu z_present_came z_strength_borne z_folk_planks ((1 : Int32) <<< (p1 &&& 31))).bind fun v18 =>
  some ((mx 0 (v17 - v18)))
  else some ((-1))))
set_option maxHeartbeats 4000000 in
set_option maxRecDepth 100000 in
theorem tX8_person {l : Launch} {D : va_G} {cI cZ cQ : ClassId} {a_this a_letters a_draft a_folk a_reader a_strength a_present a_history a_images a_kept a_planner a_gambler a_guesser a_folk_bank a_folk_kind a_folk_word a_folk_slow a_folk_told a_strength_borne a_present_came a_present_under a_present_due : Nat} {z_typed z_folk_planks z_folk_size z_folk_sworn z_present_day z_present_crossed p1 p2 : Int32} {z_traced : Int64} {z_present_came z_strength_borne z_present_under z_folk_slow z_folk_word z_folk_kind z_folk_bank : Nat → Int32} {fu : Nat} {r : Int32} (hf : fX8_person fu z_folk_size z_present_came z_strength_borne z_folk_planks z_present_under z_folk_slow z_folk_word z_folk_kind z_folk_bank p1 p2 = some (r)) : Met l yX8_person (.code yX8_person cX8_person 3 (some .int) :: TB) ({ frames := 2, cells := 0, slots := 0, locals := 46 } : Room) (roP D (TY cI cZ cQ) [(a_this, .inr (8, [.ref a_letters, .int z_typed, .ref a_draft, .ref a_folk, .ref a_reader, .ref a_strength, .ref a_present, .ref a_history, .ref a_images, .ref a_kept, .ref a_planner, .ref a_gambler, .ref a_guesser, .long z_traced])), (a_folk, .inr (0, [.int z_folk_planks, .int z_folk_size, .int z_folk_sworn, .ref a_folk_bank, .ref a_folk_kind, .ref a_folk_word, .ref a_folk_slow, .ref a_folk_told])), (a_strength, .inr (7, [.ref a_folk, .ref a_strength_borne])), (a_present, .inr (5, [.int z_present_day, .int z_present_crossed, .ref a_present_came, .ref a_present_under, .ref a_present_due])), (a_present_came, .inl (cI, 8, .inl z_present_came)), (a_strength_borne, .inl (cI, 512, .inl z_strength_borne)), (a_present_under, .inl (cI, 8, .inl z_present_under)), (a_folk_slow, .inl (cI, 8, .inl z_folk_slow)), (a_folk_word, .inl (cI, 8, .inl z_folk_word)), (a_folk_kind, .inl (cI, 8, .inl z_folk_kind)), (a_folk_bank, .inl (cI, 8, .inl z_folk_bank))] [.ref a_this, .int p1, .int p2]) (roQ (some (.int r))) 0 0 (fun _ => False) := by
  refine Met.ofW (cc := cX8_person) (maxL := 3) (ret := (some .int)) (by decide) rfl ?_
  intro p e s m args below meth c s₁ B hml hv
  obtain ⟨rfl, hP, hKW⟩ := hv
  have hx := B.exec
  have hb := B.bytes
  have hr := B.returns
  have hts : ∀ w ∈ TB, w.before ([.ref a_this, .int p1, .int p2] : List Value).toArray s = true := fun w h => atoms_spec (ws := .code yX8_person cX8_person 3 (some .int) :: TB) B.pre w (List.mem_cons_of_mem _ h)
  have hown : s.vm.findClass RX8 = some m.cls := findClass_of_methodNamed B.named
  have hlocks := B.notSynchronized
  have hK := hKW.1
  have hl := lv_entry [.ref a_this, .int p1, .int p2] (n := 3) (Nat.le_of_ble_eq_true rfl)
  rw [lg_entry_eq]
  generalize (lg_sl [.ref a_this, .int p1, .int p2] ++ List.replicate (3 - (lg_sl [.ref a_this, .int p1, .int p2]).length) Slot.unset).toArray = ls at hl ⊢
  have hl : lv_has ls 3 [(0, .ref a_this), (1, .int p1), (2, .int p2)] := hl
  show W p l e ({ frames := 2, cells := 0, slots := 0, locals := 46 } : Room) s m ([.ref a_this, .int p1, .int p2] : List Value).toArray below meth c s.heap [] 0 0 (MQ below (roQ (some (.int r))) ([.ref a_this, .int p1, .int p2] : List Value).toArray s 0 0 (fun _ => False)) (F0 m 0 ls [])
  unfold fX8_person at hf
  refine lv_aload_n hx hb dX8_person_0 rfl (lv_at hl 0 rfl) ?_
  refine va_get (D := D) (ci := 8) (v := .ref a_folk) (C := RX8) (T := TX8) (N := 14) hx hb hts inTX8 hown hK hP 0 rfl rfl 3 (by decide) (hts _ q290) (fun _ h9 => h9) rfl dX8_person_1 ?_
  refine lv_iload_n hx hb dX8_person_4 rfl (lv_at hl 1 rfl) ?_
  obtain ⟨v1, hv1, hf⟩ := ob hf
  refine kX0_hasPerson hx hb hml hown hts hKW q525 (hP.sub [1] rfl) hv1 hl.1 (Nat.le_of_ble_eq_true rfl) ⟨Nat.le_of_ble_eq_true rfl, Nat.le_of_ble_eq_true rfl⟩ ⟨Nat.zero_le _, Nat.zero_le _⟩ dX8_person_5 ?_
  refine lv_if_ne (tgt := 13) hx hb dX8_person_8 (by decide) (fun c2 => ?_) (fun c2 => ?_)
  · replace hf := ie hf c2
    refine lv_iload_n hx hb dX8_person_13 rfl (lv_at hl 2 rfl) ?_
    by_cases c4 : p2 = 0
    · replace hf := it hf c4
      refine lv_tableIn (off := 46) (tgt := 60) hx hb dX8_person_14 (by rw [c4]; decide) (by rw [c4]; decide) (by rw [c4]; decide +kernel) (by decide) ?_
      refine lv_aload_n hx hb dX8_person_60 rfl (lv_at hl 0 rfl) ?_
      refine va_get (D := D) (ci := 8) (v := .ref a_folk) (C := RX8) (T := TX8) (N := 14) hx hb hts inTX8 hown hK hP 0 rfl rfl 3 (by decide) (hts _ q290) (fun _ h9 => h9) rfl dX8_person_61 ?_
      refine va_get (D := D) (ci := 0) (v := .ref a_folk_bank) (C := RX0) (T := TX0) (N := 8) hx hb hts inTX0 hown hK hP 1 rfl rfl 3 (by decide) (hts _ q88) (fun _ h9 => h9) rfl dX8_person_64 ?_
      refine lv_iload_n hx hb dX8_person_67 rfl (lv_at hl 1 rfl) ?_
      obtain ⟨v3, hv3, hf⟩ := ob hf
      refine x_iald hx hb hK hP 10 0 rfl rfl hv3 dX8_person_68 ?_
      cases hf
      exact W.iret hx hb hr (fun t ht _ => ⟨rfl, ht⟩) (fun q h => by cases h) dX8_person_69
    replace hf := ie hf c4
    by_cases c6 : p2 = 1
    · replace hf := it hf c6
      refine lv_tableIn (off := 56) (tgt := 70) hx hb dX8_person_14 (by rw [c6]; decide) (by rw [c6]; decide) (by rw [c6]; decide +kernel) (by decide) ?_
      refine lv_aload_n hx hb dX8_person_70 rfl (lv_at hl 0 rfl) ?_
      refine va_get (D := D) (ci := 8) (v := .ref a_folk) (C := RX8) (T := TX8) (N := 14) hx hb hts inTX8 hown hK hP 0 rfl rfl 3 (by decide) (hts _ q290) (fun _ h9 => h9) rfl dX8_person_71 ?_
      refine va_get (D := D) (ci := 0) (v := .ref a_folk_kind) (C := RX0) (T := TX0) (N := 8) hx hb hts inTX0 hown hK hP 1 rfl rfl 4 (by decide) (hts _ q92) (fun _ h9 => h9) rfl dX8_person_74 ?_
      refine lv_iload_n hx hb dX8_person_77 rfl (lv_at hl 1 rfl) ?_
      obtain ⟨v5, hv5, hf⟩ := ob hf
      refine x_iald hx hb hK hP 9 0 rfl rfl hv5 dX8_person_78 ?_
      cases hf
      exact W.iret hx hb hr (fun t ht _ => ⟨rfl, ht⟩) (fun q h => by cases h) dX8_person_79
    replace hf := ie hf c6
    by_cases c8 : p2 = 2
    · replace hf := it hf c8
      refine lv_tableIn (off := 66) (tgt := 80) hx hb dX8_person_14 (by rw [c8]; decide) (by rw [c8]; decide) (by rw [c8]; decide +kernel) (by decide) ?_
      refine lv_aload_n hx hb dX8_person_80 rfl (lv_at hl 0 rfl) ?_
      refine va_get (D := D) (ci := 8) (v := .ref a_folk) (C := RX8) (T := TX8) (N := 14) hx hb hts inTX8 hown hK hP 0 rfl rfl 3 (by decide) (hts _ q290) (fun _ h9 => h9) rfl dX8_person_81 ?_
      refine va_get (D := D) (ci := 0) (v := .ref a_folk_word) (C := RX0) (T := TX0) (N := 8) hx hb hts inTX0 hown hK hP 1 rfl rfl 5 (by decide) (hts _ q95) (fun _ h9 => h9) rfl dX8_person_84 ?_
      refine lv_iload_n hx hb dX8_person_87 rfl (lv_at hl 1 rfl) ?_
      obtain ⟨v7, hv7, hf⟩ := ob hf
      refine x_iald hx hb hK hP 8 0 rfl rfl hv7 dX8_person_88 ?_
      cases hf
      exact W.iret hx hb hr (fun t ht _ => ⟨rfl, ht⟩) (fun q h => by cases h) dX8_person_89
    replace hf := ie hf c8
    by_cases c10 : p2 = 3
    · replace hf := it hf c10
      refine lv_tableIn (off := 76) (tgt := 90) hx hb dX8_person_14 (by rw [c10]; decide) (by rw [c10]; decide) (by rw [c10]; decide +kernel) (by decide) ?_
      refine lv_aload_n hx hb dX8_person_90 rfl (lv_at hl 0 rfl) ?_
      refine va_get (D := D) (ci := 8) (v := .ref a_folk) (C := RX8) (T := TX8) (N := 14) hx hb hts inTX8 hown hK hP 0 rfl rfl 3 (by decide) (hts _ q290) (fun _ h9 => h9) rfl dX8_person_91 ?_
      refine va_get (D := D) (ci := 0) (v := .ref a_folk_slow) (C := RX0) (T := TX0) (N := 8) hx hb hts inTX0 hown hK hP 1 rfl rfl 6 (by decide) (hts _ q98) (fun _ h9 => h9) rfl dX8_person_94 ?_
      refine lv_iload_n hx hb dX8_person_97 rfl (lv_at hl 1 rfl) ?_
      obtain ⟨v9, hv9, hf⟩ := ob hf
      refine x_iald hx hb hK hP 7 0 rfl rfl hv9 dX8_person_98 ?_
      cases hf
      exact W.iret hx hb hr (fun t ht _ => ⟨rfl, ht⟩) (fun q h => by cases h) dX8_person_99
    replace hf := ie hf c10
    by_cases c12 : p2 = 4
    · replace hf := it hf c12
      refine lv_tableIn (off := 86) (tgt := 100) hx hb dX8_person_14 (by rw [c12]; decide) (by rw [c12]; decide) (by rw [c12]; decide +kernel) (by decide) ?_
      refine lv_aload_n hx hb dX8_person_100 rfl (lv_at hl 0 rfl) ?_
      refine lv_aload_n hx hb dX8_person_101 rfl (lv_at hl 0 rfl) ?_
      refine va_get (D := D) (ci := 8) (v := .ref a_present) (C := RX8) (T := TX8) (N := 14) hx hb hts inTX8 hown hK hP 0 rfl rfl 6 (by decide) (hts _ q293) (fun _ h9 => h9) rfl dX8_person_102 ?_
      refine va_get (D := D) (ci := 5) (v := .ref a_present_came) (C := RX5) (T := TX5) (N := 5) hx hb hts inTX5 hown hK hP 3 rfl rfl 2 (by decide) (hts _ q176) (fun _ h9 => h9) rfl dX8_person_105 ?_
      refine lv_iload_n hx hb dX8_person_108 rfl (lv_at hl 1 rfl) ?_
      obtain ⟨v11, hv11, hf⟩ := ob hf
      refine kX8_planksOf hx hb hml hown hts hKW q529 (hP.sub [0, 1, 4] rfl) hv11 hl.1 (Nat.le_of_ble_eq_true rfl) ⟨Nat.le_of_ble_eq_true rfl, Nat.le_of_ble_eq_true rfl⟩ ⟨Nat.zero_le _, Nat.zero_le _⟩ dX8_person_109 ?_
      cases hf
      exact W.iret hx hb hr (fun t ht _ => ⟨rfl, ht⟩) (fun q h => by cases h) dX8_person_112
    replace hf := ie hf c12
    by_cases c14 : p2 = 5
    · replace hf := it hf c14
      refine lv_tableIn (off := 99) (tgt := 113) hx hb dX8_person_14 (by rw [c14]; decide) (by rw [c14]; decide) (by rw [c14]; decide +kernel) (by decide) ?_
      refine lv_aload_n hx hb dX8_person_113 rfl (lv_at hl 0 rfl) ?_
      refine lv_aload_n hx hb dX8_person_114 rfl (lv_at hl 0 rfl) ?_
      refine va_get (D := D) (ci := 8) (v := .ref a_present) (C := RX8) (T := TX8) (N := 14) hx hb hts inTX8 hown hK hP 0 rfl rfl 6 (by decide) (hts _ q293) (fun _ h9 => h9) rfl dX8_person_115 ?_
      refine va_get (D := D) (ci := 5) (v := .ref a_present_under) (C := RX5) (T := TX5) (N := 5) hx hb hts inTX5 hown hK hP 3 rfl rfl 3 (by decide) (hts _ q181) (fun _ h9 => h9) rfl dX8_person_118 ?_
      refine lv_iload_n hx hb dX8_person_121 rfl (lv_at hl 1 rfl) ?_
      obtain ⟨v13, hv13, hf⟩ := ob hf
      refine kX8_planksOf hx hb hml hown hts hKW q529 (hP.sub [0, 1, 6] rfl) hv13 hl.1 (Nat.le_of_ble_eq_true rfl) ⟨Nat.le_of_ble_eq_true rfl, Nat.le_of_ble_eq_true rfl⟩ ⟨Nat.zero_le _, Nat.zero_le _⟩ dX8_person_122 ?_
      cases hf
      exact W.iret hx hb hr (fun t ht _ => ⟨rfl, ht⟩) (fun q h => by cases h) dX8_person_125
    replace hf := ie hf c14
    by_cases c16 : p2 = 6
    · replace hf := it hf c16
      refine lv_tableIn (off := 112) (tgt := 126) hx hb dX8_person_14 (by rw [c16]; decide) (by rw [c16]; decide) (by rw [c16]; decide +kernel) (by decide) ?_
      refine lv_aload_n hx hb dX8_person_126 rfl (lv_at hl 0 rfl) ?_
      refine va_get (D := D) (ci := 8) (v := .ref a_strength) (C := RX8) (T := TX8) (N := 14) hx hb hts inTX8 hown hK hP 0 rfl rfl 5 (by decide) (hts _ q292) (fun _ h9 => h9) rfl dX8_person_127 ?_
      refine lv_aload_n hx hb dX8_person_130 rfl (lv_at hl 0 rfl) ?_
      refine va_get (D := D) (ci := 8) (v := .ref a_present) (C := RX8) (T := TX8) (N := 14) hx hb hts inTX8 hown hK hP 0 rfl rfl 6 (by decide) (hts _ q293) (fun _ h9 => h9) rfl dX8_person_131 ?_
      refine lv_iload_n hx hb dX8_person_134 rfl (lv_at hl 1 rfl) ?_
      obtain ⟨v15, hv15, hf⟩ := ob hf
      refine kX7_falling hx hb hml hown hts hKW q534 (hP.sub [2, 1, 3, 4, 5] rfl) hv15 hl.1 (Nat.le_of_ble_eq_true rfl) ⟨Nat.le_of_ble_eq_true rfl, Nat.le_of_ble_eq_true rfl⟩ ⟨Nat.zero_le _, Nat.zero_le _⟩ dX8_person_135 ?_
      cases hf
      exact W.iret hx hb hr (fun t ht _ => ⟨rfl, ht⟩) (fun q h => by cases h) dX8_person_138
    replace hf := ie hf c16
    by_cases c19 : p2 = 7
    · replace hf := it hf c19
      refine lv_tableIn (off := 125) (tgt := 139) hx hb dX8_person_14 (by rw [c19]; decide) (by rw [c19]; decide) (by rw [c19]; decide +kernel) (by decide) ?_
      refine lv_iconst (v := 0) hx hb dX8_person_139 (by decide) ?_
      refine lv_aload_n hx hb dX8_person_140 rfl (lv_at hl 0 rfl) ?_
      refine va_get (D := D) (ci := 8) (v := .ref a_strength) (C := RX8) (T := TX8) (N := 14) hx hb hts inTX8 hown hK hP 0 rfl rfl 5 (by decide) (hts _ q292) (fun _ h9 => h9) rfl dX8_person_141 ?_
      refine lv_aload_n hx hb dX8_person_144 rfl (lv_at hl 0 rfl) ?_
      refine va_get (D := D) (ci := 8) (v := .ref a_present) (C := RX8) (T := TX8) (N := 14) hx hb hts inTX8 hown hK hP 0 rfl rfl 6 (by decide) (hts _ q293) (fun _ h9 => h9) rfl dX8_person_145 ?_
      refine lv_iconst (v := 0) hx hb dX8_person_148 (by decide) ?_
      obtain ⟨v17, hv17, hf⟩ := ob hf
      refine kX7_bridge hx hb hml hown hts hKW q542 (hP.sub [2, 3, 4, 5, 1] rfl) hv17 hl.1 (Nat.le_of_ble_eq_true rfl) ⟨Nat.le_of_ble_eq_true rfl, Nat.le_of_ble_eq_true rfl⟩ ⟨Nat.zero_le _, Nat.zero_le _⟩ dX8_person_149 ?_
      refine lv_aload_n hx hb dX8_person_152 rfl (lv_at hl 0 rfl) ?_
      refine va_get (D := D) (ci := 8) (v := .ref a_strength) (C := RX8) (T := TX8) (N := 14) hx hb hts inTX8 hown hK hP 0 rfl rfl 5 (by decide) (hts _ q292) (fun _ h9 => h9) rfl dX8_person_153 ?_
      refine lv_aload_n hx hb dX8_person_156 rfl (lv_at hl 0 rfl) ?_
      refine va_get (D := D) (ci := 8) (v := .ref a_present) (C := RX8) (T := TX8) (N := 14) hx hb hts inTX8 hown hK hP 0 rfl rfl 6 (by decide) (hts _ q293) (fun _ h9 => h9) rfl dX8_person_157 ?_
      refine lv_iconst (v := 1) hx hb dX8_person_160 (by decide) ?_
      refine lv_iload_n hx hb dX8_person_161 rfl (lv_at hl 1 rfl) ?_
      refine lv_ishl hx hb dX8_person_162 ?_
      obtain ⟨v18, hv18, hf⟩ := ob hf
      refine kX7_bridge hx hb hml hown hts hKW q542 (hP.sub [2, 3, 4, 5, 1] rfl) hv18 hl.1 (Nat.le_of_ble_eq_true rfl) ⟨Nat.le_of_ble_eq_true rfl, Nat.le_of_ble_eq_true rfl⟩ ⟨Nat.zero_le _, Nat.zero_le _⟩ dX8_person_163 ?_
      refine lv_isub hx hb dX8_person_166 ?_
      refine x_max hx hb hml hl.1 hown hts q546 ⟨Nat.le_of_ble_eq_true rfl, Nat.le_of_ble_eq_true rfl⟩ ⟨Nat.zero_le _, Nat.zero_le _⟩ dX8_person_167 ?_
      cases hf
      exact W.iret hx hb hr (fun t ht _ => ⟨rfl, ht⟩) (fun q h => by cases h) dX8_person_170
    replace hf := ie hf c19
    refine lv_tableOut (tgt := 171) hx hb dX8_person_14 (by have := lv_neT (a := 0) c4 (by decide); have := lv_neT (a := 1) c6 (by decide); have := lv_neT (a := 2) c8 (by decide); have := lv_neT (a := 3) c10 (by decide); have := lv_neT (a := 4) c12 (by decide); have := lv_neT (a := 5) c14 (by decide); have := lv_neT (a := 6) c16 (by decide); have := lv_neT (a := 7) c19 (by decide); omega) (by decide) ?_
    refine lv_iconst (v := -1) hx hb dX8_person_171 (by decide) ?_
    cases hf
    exact W.iret hx hb hr (fun t ht _ => ⟨rfl, ht⟩) (fun q h => by cases h) dX8_person_172
  · replace hf := it hf c2
    refine lv_iconst (v := -1) hx hb dX8_person_11 (by decide) ?_
    cases hf
    exact W.iret hx hb hr (fun t ht _ => ⟨rfl, ht⟩) (fun q h => by cases h) dX8_person_12
theorem kX8_person {p : Program} {l : Launch} {e : Env} {R : Room} {s : State} {m : MethodId} {args : Array Value} {below : List Frame} {meth : Method} {c : Code} {H : Heap} {locs : List Loc} {cells slots : Nat} {Q : State → Prop} {cc : ByteArray} {nL pc index : Nat} {ls : Array Slot} {rest : List Value} {own : String} {D : va_G} {cI cZ cQ : ClassId} {a_this a_letters a_draft a_folk a_reader a_strength a_present a_history a_images a_kept a_planner a_gambler a_guesser a_folk_bank a_folk_kind a_folk_word a_folk_slow a_folk_told a_strength_borne a_present_came a_present_under a_present_due : Nat} {z_typed z_folk_planks z_folk_size z_folk_sworn z_present_day z_present_crossed p1 p2 : Int32} {z_traced : Int64} {z_present_came z_strength_borne z_present_under z_folk_slow z_folk_word z_folk_kind z_folk_bank : Nat → Int32} {fu : Nat} {r : Int32} (hx : p.tables.exec = Jvm.exec) (hb : c.code = cc) (hml : c.maxLocals = nL) (hown : s.vm.findClass own = some m.cls) (hts : ∀ w ∈ TB, w.before args s = true) (hKW : KW D (TY cI cZ cQ) s) (hlk : Cond.methodLink own index yX8_person ∈ TB) (hP : va_P D vwCl [(a_this, .inr (8, [.ref a_letters, .int z_typed, .ref a_draft, .ref a_folk, .ref a_reader, .ref a_strength, .ref a_present, .ref a_history, .ref a_images, .ref a_kept, .ref a_planner, .ref a_gambler, .ref a_guesser, .long z_traced])), (a_folk, .inr (0, [.int z_folk_planks, .int z_folk_size, .int z_folk_sworn, .ref a_folk_bank, .ref a_folk_kind, .ref a_folk_word, .ref a_folk_slow, .ref a_folk_told])), (a_strength, .inr (7, [.ref a_folk, .ref a_strength_borne])), (a_present, .inr (5, [.int z_present_day, .int z_present_crossed, .ref a_present_came, .ref a_present_under, .ref a_present_due])), (a_present_came, .inl (cI, 8, .inl z_present_came)), (a_strength_borne, .inl (cI, 512, .inl z_strength_borne)), (a_present_under, .inl (cI, 8, .inl z_present_under)), (a_folk_slow, .inl (cI, 8, .inl z_folk_slow)), (a_folk_word, .inl (cI, 8, .inl z_folk_word)), (a_folk_kind, .inl (cI, 8, .inl z_folk_kind)), (a_folk_bank, .inl (cI, 8, .inl z_folk_bank))] H) (hf : fX8_person fu z_folk_size z_present_came z_strength_borne z_folk_planks z_present_under z_folk_slow z_folk_word z_folk_kind z_folk_bank p1 p2 = some (r)) (hn : ls.size = nL) (hW : (rest.map fun v => v.category).sum ≤ 8) (hR : 2 + 1 ≤ R.frames ∧ 8 + (3 + 11) + 46 ≤ R.locals) (hcs : cells ≤ R.cells ∧ slots ≤ R.slots) (hdg : decode cc pc = .ok (.invokevirtual index, 3)) (kk : W p l e R s m args below meth c H locs cells slots Q (F0 m (pc + 3) ls (.int r :: rest))) : W p l e R s m args below meth c H locs cells slots Q (F0 m pc ls (.int p2 :: .int p1 :: .ref a_this :: rest)) :=
  x_ret (va_runV (As := [.int p1, .int p2]) (rest := rest) ⟨hx, hb, hml, hown, hts⟩ (tX8_person hf) (cwV 2 hts (tb_V hlk q522 q523 q39 q524) rfl rfl rfl (by decide +kernel) hR) ⟨roB, va_recv hKW.1 hP (ci := 8) (q0 := 0) rfl rfl, fun U hU hW => ⟨rfl, by rw [hU]; exact hP, hKW.warm hW⟩⟩ rfl rfl hn rfl (lv_room hW) hdg hcs) kk

-- HalfPlanks.plank(II)I
def fX8_plank (fu : Nat) (z_folk_planks : Int32) (z_present_came : Nat → Int32) (z_folk_size : Int32) (z_folk_bank : Nat → Int32) (z_folk_kind : Nat → Int32) (z_folk_word : Nat → Int32) (z_folk_sworn : Int32) (z_strength_borne : Nat → Int32) (p1 : Int32) (p2 : Int32) : Option (Int32) :=
  (fX0_hasPlank fu z_folk_planks p1).bind fun v1 =>
  (if v1 = 0 then
  some ((-1))
  else
  (if p2 = 0 then
  (rd 8 z_present_came p1).bind fun v3 =>
  (fX7_of fu z_strength_borne p1 v3).bind fun v4 =>
  some (v4)
  else if p2 = 1 then
  (rd 8 z_present_came p1).bind fun v6 =>
  (fX7_standing fu z_folk_size z_folk_bank z_folk_kind z_folk_word z_folk_sworn p1 v6 0).bind fun v7 =>
  some (v7)
  else if p2 = 2 then
  (rd 8 z_present_came p1).bind fun v9 =>
  (fX7_standing fu z_folk_size z_folk_bank z_folk_kind z_folk_word z_folk_sworn p1 v9 1).bind fun v10 =>
  some (v10)
  else some ((-1))))
set_option maxHeartbeats 4000000 in
set_option maxRecDepth 100000 in
theorem tX8_plank {l : Launch} {D : va_G} {cI cZ cQ : ClassId} {a_this a_letters a_draft a_folk a_reader a_strength a_present a_history a_images a_kept a_planner a_gambler a_guesser a_folk_bank a_folk_kind a_folk_word a_folk_slow a_folk_told a_present_came a_present_under a_present_due a_strength_borne : Nat} {z_typed z_folk_planks z_folk_size z_folk_sworn z_present_day z_present_crossed p1 p2 : Int32} {z_traced : Int64} {z_present_came z_folk_bank z_folk_kind z_folk_word z_strength_borne : Nat → Int32} {fu : Nat} {r : Int32} (hf : fX8_plank fu z_folk_planks z_present_came z_folk_size z_folk_bank z_folk_kind z_folk_word z_folk_sworn z_strength_borne p1 p2 = some (r)) : Met l yX8_plank (.code yX8_plank cX8_plank 3 (some .int) :: TB) ({ frames := 3, cells := 0, slots := 0, locals := 71 } : Room) (roP D (TY cI cZ cQ) [(a_this, .inr (8, [.ref a_letters, .int z_typed, .ref a_draft, .ref a_folk, .ref a_reader, .ref a_strength, .ref a_present, .ref a_history, .ref a_images, .ref a_kept, .ref a_planner, .ref a_gambler, .ref a_guesser, .long z_traced])), (a_folk, .inr (0, [.int z_folk_planks, .int z_folk_size, .int z_folk_sworn, .ref a_folk_bank, .ref a_folk_kind, .ref a_folk_word, .ref a_folk_slow, .ref a_folk_told])), (a_present, .inr (5, [.int z_present_day, .int z_present_crossed, .ref a_present_came, .ref a_present_under, .ref a_present_due])), (a_present_came, .inl (cI, 8, .inl z_present_came)), (a_strength, .inr (7, [.ref a_folk, .ref a_strength_borne])), (a_folk_bank, .inl (cI, 8, .inl z_folk_bank)), (a_folk_kind, .inl (cI, 8, .inl z_folk_kind)), (a_folk_word, .inl (cI, 8, .inl z_folk_word)), (a_strength_borne, .inl (cI, 512, .inl z_strength_borne))] [.ref a_this, .int p1, .int p2]) (roQ (some (.int r))) 0 0 (fun _ => False) := by
  refine Met.ofW (cc := cX8_plank) (maxL := 3) (ret := (some .int)) (by decide) rfl ?_
  intro p e s m args below meth c s₁ B hml hv
  obtain ⟨rfl, hP, hKW⟩ := hv
  have hx := B.exec
  have hb := B.bytes
  have hr := B.returns
  have hts : ∀ w ∈ TB, w.before ([.ref a_this, .int p1, .int p2] : List Value).toArray s = true := fun w h => atoms_spec (ws := .code yX8_plank cX8_plank 3 (some .int) :: TB) B.pre w (List.mem_cons_of_mem _ h)
  have hown : s.vm.findClass RX8 = some m.cls := findClass_of_methodNamed B.named
  have hlocks := B.notSynchronized
  have hK := hKW.1
  have hl := lv_entry [.ref a_this, .int p1, .int p2] (n := 3) (Nat.le_of_ble_eq_true rfl)
  rw [lg_entry_eq]
  generalize (lg_sl [.ref a_this, .int p1, .int p2] ++ List.replicate (3 - (lg_sl [.ref a_this, .int p1, .int p2]).length) Slot.unset).toArray = ls at hl ⊢
  have hl : lv_has ls 3 [(0, .ref a_this), (1, .int p1), (2, .int p2)] := hl
  show W p l e ({ frames := 3, cells := 0, slots := 0, locals := 71 } : Room) s m ([.ref a_this, .int p1, .int p2] : List Value).toArray below meth c s.heap [] 0 0 (MQ below (roQ (some (.int r))) ([.ref a_this, .int p1, .int p2] : List Value).toArray s 0 0 (fun _ => False)) (F0 m 0 ls [])
  unfold fX8_plank at hf
  refine lv_aload_n hx hb dX8_plank_0 rfl (lv_at hl 0 rfl) ?_
  refine va_get (D := D) (ci := 8) (v := .ref a_folk) (C := RX8) (T := TX8) (N := 14) hx hb hts inTX8 hown hK hP 0 rfl rfl 3 (by decide) (hts _ q290) (fun _ h9 => h9) rfl dX8_plank_1 ?_
  refine lv_iload_n hx hb dX8_plank_4 rfl (lv_at hl 1 rfl) ?_
  obtain ⟨v1, hv1, hf⟩ := ob hf
  refine kX0_hasPlank hx hb hml hown hts hKW q551 (hP.sub [1] rfl) hv1 hl.1 (Nat.le_of_ble_eq_true rfl) ⟨Nat.le_of_ble_eq_true rfl, Nat.le_of_ble_eq_true rfl⟩ ⟨Nat.zero_le _, Nat.zero_le _⟩ dX8_plank_5 ?_
  refine lv_if_ne (tgt := 13) hx hb dX8_plank_8 (by decide) (fun c2 => ?_) (fun c2 => ?_)
  · replace hf := ie hf c2
    refine lv_iload_n hx hb dX8_plank_13 rfl (lv_at hl 2 rfl) ?_
    by_cases c5 : p2 = 0
    · replace hf := it hf c5
      refine lv_tableIn (off := 26) (tgt := 40) hx hb dX8_plank_14 (by rw [c5]; decide) (by rw [c5]; decide) (by rw [c5]; decide +kernel) (by decide) ?_
      refine lv_aload_n hx hb dX8_plank_40 rfl (lv_at hl 0 rfl) ?_
      refine va_get (D := D) (ci := 8) (v := .ref a_strength) (C := RX8) (T := TX8) (N := 14) hx hb hts inTX8 hown hK hP 0 rfl rfl 5 (by decide) (hts _ q292) (fun _ h9 => h9) rfl dX8_plank_41 ?_
      refine lv_iload_n hx hb dX8_plank_44 rfl (lv_at hl 1 rfl) ?_
      refine lv_aload_n hx hb dX8_plank_45 rfl (lv_at hl 0 rfl) ?_
      refine va_get (D := D) (ci := 8) (v := .ref a_present) (C := RX8) (T := TX8) (N := 14) hx hb hts inTX8 hown hK hP 0 rfl rfl 6 (by decide) (hts _ q293) (fun _ h9 => h9) rfl dX8_plank_46 ?_
      refine va_get (D := D) (ci := 5) (v := .ref a_present_came) (C := RX5) (T := TX5) (N := 5) hx hb hts inTX5 hown hK hP 2 rfl rfl 2 (by decide) (hts _ q176) (fun _ h9 => h9) rfl dX8_plank_49 ?_
      refine lv_iload_n hx hb dX8_plank_52 rfl (lv_at hl 1 rfl) ?_
      obtain ⟨v3, hv3, hf⟩ := ob hf
      refine x_iald hx hb hK hP 3 0 rfl rfl hv3 dX8_plank_53 ?_
      obtain ⟨v4, hv4, hf⟩ := ob hf
      refine kX7_of hx hb hml hown hts hKW q555 (hP.sub [4, 8] rfl) hv4 hl.1 (Nat.le_of_ble_eq_true rfl) ⟨Nat.le_of_ble_eq_true rfl, Nat.le_of_ble_eq_true rfl⟩ ⟨Nat.zero_le _, Nat.zero_le _⟩ dX8_plank_54 ?_
      cases hf
      exact W.iret hx hb hr (fun t ht _ => ⟨rfl, ht⟩) (fun q h => by cases h) dX8_plank_57
    replace hf := ie hf c5
    by_cases c8 : p2 = 1
    · replace hf := it hf c8
      refine lv_tableIn (off := 44) (tgt := 58) hx hb dX8_plank_14 (by rw [c8]; decide) (by rw [c8]; decide) (by rw [c8]; decide +kernel) (by decide) ?_
      refine lv_aload_n hx hb dX8_plank_58 rfl (lv_at hl 0 rfl) ?_
      refine va_get (D := D) (ci := 8) (v := .ref a_strength) (C := RX8) (T := TX8) (N := 14) hx hb hts inTX8 hown hK hP 0 rfl rfl 5 (by decide) (hts _ q292) (fun _ h9 => h9) rfl dX8_plank_59 ?_
      refine lv_iload_n hx hb dX8_plank_62 rfl (lv_at hl 1 rfl) ?_
      refine lv_aload_n hx hb dX8_plank_63 rfl (lv_at hl 0 rfl) ?_
      refine va_get (D := D) (ci := 8) (v := .ref a_present) (C := RX8) (T := TX8) (N := 14) hx hb hts inTX8 hown hK hP 0 rfl rfl 6 (by decide) (hts _ q293) (fun _ h9 => h9) rfl dX8_plank_64 ?_
      refine va_get (D := D) (ci := 5) (v := .ref a_present_came) (C := RX5) (T := TX5) (N := 5) hx hb hts inTX5 hown hK hP 2 rfl rfl 2 (by decide) (hts _ q176) (fun _ h9 => h9) rfl dX8_plank_67 ?_
      refine lv_iload_n hx hb dX8_plank_70 rfl (lv_at hl 1 rfl) ?_
      obtain ⟨v6, hv6, hf⟩ := ob hf
      refine x_iald hx hb hK hP 3 0 rfl rfl hv6 dX8_plank_71 ?_
      refine lv_iconst (v := 0) hx hb dX8_plank_72 (by decide) ?_
      obtain ⟨v7, hv7, hf⟩ := ob hf
      refine kX7_standing hx hb hml hown hts hKW q556 (hP.sub [4, 1, 5, 6, 7] rfl) hv7 hl.1 (Nat.le_of_ble_eq_true rfl) ⟨Nat.le_of_ble_eq_true rfl, Nat.le_of_ble_eq_true rfl⟩ ⟨Nat.zero_le _, Nat.zero_le _⟩ dX8_plank_73 ?_
      cases hf
      exact W.iret hx hb hr (fun t ht _ => ⟨rfl, ht⟩) (fun q h => by cases h) dX8_plank_76
    replace hf := ie hf c8
    by_cases c11 : p2 = 2
    · replace hf := it hf c11
      refine lv_tableIn (off := 63) (tgt := 77) hx hb dX8_plank_14 (by rw [c11]; decide) (by rw [c11]; decide) (by rw [c11]; decide +kernel) (by decide) ?_
      refine lv_aload_n hx hb dX8_plank_77 rfl (lv_at hl 0 rfl) ?_
      refine va_get (D := D) (ci := 8) (v := .ref a_strength) (C := RX8) (T := TX8) (N := 14) hx hb hts inTX8 hown hK hP 0 rfl rfl 5 (by decide) (hts _ q292) (fun _ h9 => h9) rfl dX8_plank_78 ?_
      refine lv_iload_n hx hb dX8_plank_81 rfl (lv_at hl 1 rfl) ?_
      refine lv_aload_n hx hb dX8_plank_82 rfl (lv_at hl 0 rfl) ?_
      refine va_get (D := D) (ci := 8) (v := .ref a_present) (C := RX8) (T := TX8) (N := 14) hx hb hts inTX8 hown hK hP 0 rfl rfl 6 (by decide) (hts _ q293) (fun _ h9 => h9) rfl dX8_plank_83 ?_
      refine va_get (D := D) (ci := 5) (v := .ref a_present_came) (C := RX5) (T := TX5) (N := 5) hx hb hts inTX5 hown hK hP 2 rfl rfl 2 (by decide) (hts _ q176) (fun _ h9 => h9) rfl dX8_plank_86 ?_
      refine lv_iload_n hx hb dX8_plank_89 rfl (lv_at hl 1 rfl) ?_
      obtain ⟨v9, hv9, hf⟩ := ob hf
      refine x_iald hx hb hK hP 3 0 rfl rfl hv9 dX8_plank_90 ?_
      refine lv_iconst (v := 1) hx hb dX8_plank_91 (by decide) ?_
      obtain ⟨v10, hv10, hf⟩ := ob hf
      refine kX7_standing hx hb hml hown hts hKW q556 (hP.sub [4, 1, 5, 6, 7] rfl) hv10 hl.1 (Nat.le_of_ble_eq_true rfl) ⟨Nat.le_of_ble_eq_true rfl, Nat.le_of_ble_eq_true rfl⟩ ⟨Nat.zero_le _, Nat.zero_le _⟩ dX8_plank_92 ?_
      cases hf
      exact W.iret hx hb hr (fun t ht _ => ⟨rfl, ht⟩) (fun q h => by cases h) dX8_plank_95
    replace hf := ie hf c11
    refine lv_tableOut (tgt := 96) hx hb dX8_plank_14 (by have := lv_neT (a := 0) c5 (by decide); have := lv_neT (a := 1) c8 (by decide); have := lv_neT (a := 2) c11 (by decide); omega) (by decide) ?_
    refine lv_iconst (v := -1) hx hb dX8_plank_96 (by decide) ?_
    cases hf
    exact W.iret hx hb hr (fun t ht _ => ⟨rfl, ht⟩) (fun q h => by cases h) dX8_plank_97
  · replace hf := it hf c2
    refine lv_iconst (v := -1) hx hb dX8_plank_11 (by decide) ?_
    cases hf
    exact W.iret hx hb hr (fun t ht _ => ⟨rfl, ht⟩) (fun q h => by cases h) dX8_plank_12
theorem kX8_plank {p : Program} {l : Launch} {e : Env} {R : Room} {s : State} {m : MethodId} {args : Array Value} {below : List Frame} {meth : Method} {c : Code} {H : Heap} {locs : List Loc} {cells slots : Nat} {Q : State → Prop} {cc : ByteArray} {nL pc index : Nat} {ls : Array Slot} {rest : List Value} {own : String} {D : va_G} {cI cZ cQ : ClassId} {a_this a_letters a_draft a_folk a_reader a_strength a_present a_history a_images a_kept a_planner a_gambler a_guesser a_folk_bank a_folk_kind a_folk_word a_folk_slow a_folk_told a_present_came a_present_under a_present_due a_strength_borne : Nat} {z_typed z_folk_planks z_folk_size z_folk_sworn z_present_day z_present_crossed p1 p2 : Int32} {z_traced : Int64} {z_present_came z_folk_bank z_folk_kind z_folk_word z_strength_borne : Nat → Int32} {fu : Nat} {r : Int32} (hx : p.tables.exec = Jvm.exec) (hb : c.code = cc) (hml : c.maxLocals = nL) (hown : s.vm.findClass own = some m.cls) (hts : ∀ w ∈ TB, w.before args s = true) (hKW : KW D (TY cI cZ cQ) s) (hlk : Cond.methodLink own index yX8_plank ∈ TB) (hP : va_P D vwCl [(a_this, .inr (8, [.ref a_letters, .int z_typed, .ref a_draft, .ref a_folk, .ref a_reader, .ref a_strength, .ref a_present, .ref a_history, .ref a_images, .ref a_kept, .ref a_planner, .ref a_gambler, .ref a_guesser, .long z_traced])), (a_folk, .inr (0, [.int z_folk_planks, .int z_folk_size, .int z_folk_sworn, .ref a_folk_bank, .ref a_folk_kind, .ref a_folk_word, .ref a_folk_slow, .ref a_folk_told])), (a_present, .inr (5, [.int z_present_day, .int z_present_crossed, .ref a_present_came, .ref a_present_under, .ref a_present_due])), (a_present_came, .inl (cI, 8, .inl z_present_came)), (a_strength, .inr (7, [.ref a_folk, .ref a_strength_borne])), (a_folk_bank, .inl (cI, 8, .inl z_folk_bank)), (a_folk_kind, .inl (cI, 8, .inl z_folk_kind)), (a_folk_word, .inl (cI, 8, .inl z_folk_word)), (a_strength_borne, .inl (cI, 512, .inl z_strength_borne))] H) (hf : fX8_plank fu z_folk_planks z_present_came z_folk_size z_folk_bank z_folk_kind z_folk_word z_folk_sworn z_strength_borne p1 p2 = some (r)) (hn : ls.size = nL) (hW : (rest.map fun v => v.category).sum ≤ 8) (hR : 3 + 1 ≤ R.frames ∧ 8 + (3 + 11) + 71 ≤ R.locals) (hcs : cells ≤ R.cells ∧ slots ≤ R.slots) (hdg : decode cc pc = .ok (.invokevirtual index, 3)) (kk : W p l e R s m args below meth c H locs cells slots Q (F0 m (pc + 3) ls (.int r :: rest))) : W p l e R s m args below meth c H locs cells slots Q (F0 m pc ls (.int p2 :: .int p1 :: .ref a_this :: rest)) :=
  x_ret (va_runV (As := [.int p1, .int p2]) (rest := rest) ⟨hx, hb, hml, hown, hts⟩ (tX8_plank hf) (cwV 2 hts (tb_V hlk q548 q549 q39 q550) rfl rfl rfl (by decide +kernel) hR) ⟨roB, va_recv hKW.1 hP (ci := 8) (q0 := 0) rfl rfl, fun U hU hW => ⟨rfl, by rw [hU]; exact hP, hKW.warm hW⟩⟩ rfl rfl hn rfl (lv_room hW) hdg hcs) kk

-- HalfPlanks.hold(II)I
def fX8_hold (fu : Nat) (z_folk_size : Int32) (z_folk_planks : Int32) (z_folk_word : Nat → Int32) (z_present_came : Nat → Int32) (z_folk_kind : Nat → Int32) (z_folk_sworn : Int32) (p1 : Int32) (p2 : Int32) : Option (Int32) :=
  (fX0_hasPerson fu z_folk_size p1).bind fun v1 =>
  (if v1 = 0 then
  some ((-1))
  else
  (fX0_hasPlank fu z_folk_planks p2).bind fun v3 =>
  (if v3 = 0 then
  some ((-1))
  else
  (rd 8 z_folk_word p1).bind fun v5 =>
  (rd 8 z_present_came p2).bind fun v6 =>
  (fX0_holdBy fu z_folk_kind z_folk_sworn p1 v5 p2 v6).bind fun v7 =>
  some (v7)))
set_option maxHeartbeats 4000000 in
set_option maxRecDepth 100000 in
theorem tX8_hold {l : Launch} {D : va_G} {cI cZ cQ : ClassId} {a_this a_letters a_draft a_folk a_reader a_strength a_present a_history a_images a_kept a_planner a_gambler a_guesser a_folk_bank a_folk_kind a_folk_word a_folk_slow a_folk_told a_present_came a_present_under a_present_due : Nat} {z_typed z_folk_planks z_folk_size z_folk_sworn z_present_day z_present_crossed p1 p2 : Int32} {z_traced : Int64} {z_folk_word z_present_came z_folk_kind : Nat → Int32} {fu : Nat} {r : Int32} (hf : fX8_hold fu z_folk_size z_folk_planks z_folk_word z_present_came z_folk_kind z_folk_sworn p1 p2 = some (r)) : Met l yX8_hold (.code yX8_hold cX8_hold 3 (some .int) :: TB) ({ frames := 2, cells := 0, slots := 0, locals := 45 } : Room) (roP D (TY cI cZ cQ) [(a_this, .inr (8, [.ref a_letters, .int z_typed, .ref a_draft, .ref a_folk, .ref a_reader, .ref a_strength, .ref a_present, .ref a_history, .ref a_images, .ref a_kept, .ref a_planner, .ref a_gambler, .ref a_guesser, .long z_traced])), (a_folk, .inr (0, [.int z_folk_planks, .int z_folk_size, .int z_folk_sworn, .ref a_folk_bank, .ref a_folk_kind, .ref a_folk_word, .ref a_folk_slow, .ref a_folk_told])), (a_folk_word, .inl (cI, 8, .inl z_folk_word)), (a_present, .inr (5, [.int z_present_day, .int z_present_crossed, .ref a_present_came, .ref a_present_under, .ref a_present_due])), (a_present_came, .inl (cI, 8, .inl z_present_came)), (a_folk_kind, .inl (cI, 8, .inl z_folk_kind))] [.ref a_this, .int p1, .int p2]) (roQ (some (.int r))) 0 0 (fun _ => False) := by
  refine Met.ofW (cc := cX8_hold) (maxL := 3) (ret := (some .int)) (by decide) rfl ?_
  intro p e s m args below meth c s₁ B hml hv
  obtain ⟨rfl, hP, hKW⟩ := hv
  have hx := B.exec
  have hb := B.bytes
  have hr := B.returns
  have hts : ∀ w ∈ TB, w.before ([.ref a_this, .int p1, .int p2] : List Value).toArray s = true := fun w h => atoms_spec (ws := .code yX8_hold cX8_hold 3 (some .int) :: TB) B.pre w (List.mem_cons_of_mem _ h)
  have hown : s.vm.findClass RX8 = some m.cls := findClass_of_methodNamed B.named
  have hlocks := B.notSynchronized
  have hK := hKW.1
  have hl := lv_entry [.ref a_this, .int p1, .int p2] (n := 3) (Nat.le_of_ble_eq_true rfl)
  rw [lg_entry_eq]
  generalize (lg_sl [.ref a_this, .int p1, .int p2] ++ List.replicate (3 - (lg_sl [.ref a_this, .int p1, .int p2]).length) Slot.unset).toArray = ls at hl ⊢
  have hl : lv_has ls 3 [(0, .ref a_this), (1, .int p1), (2, .int p2)] := hl
  show W p l e ({ frames := 2, cells := 0, slots := 0, locals := 45 } : Room) s m ([.ref a_this, .int p1, .int p2] : List Value).toArray below meth c s.heap [] 0 0 (MQ below (roQ (some (.int r))) ([.ref a_this, .int p1, .int p2] : List Value).toArray s 0 0 (fun _ => False)) (F0 m 0 ls [])
  unfold fX8_hold at hf
  refine lv_aload_n hx hb dX8_hold_0 rfl (lv_at hl 0 rfl) ?_
  refine va_get (D := D) (ci := 8) (v := .ref a_folk) (C := RX8) (T := TX8) (N := 14) hx hb hts inTX8 hown hK hP 0 rfl rfl 3 (by decide) (hts _ q290) (fun _ h9 => h9) rfl dX8_hold_1 ?_
  refine lv_iload_n hx hb dX8_hold_4 rfl (lv_at hl 1 rfl) ?_
  obtain ⟨v1, hv1, hf⟩ := ob hf
  refine kX0_hasPerson hx hb hml hown hts hKW q525 (hP.sub [1] rfl) hv1 hl.1 (Nat.le_of_ble_eq_true rfl) ⟨Nat.le_of_ble_eq_true rfl, Nat.le_of_ble_eq_true rfl⟩ ⟨Nat.zero_le _, Nat.zero_le _⟩ dX8_hold_5 ?_
  refine lv_if_eq (tgt := 22) hx hb dX8_hold_8 (by decide) (fun c2 => ?_) (fun c2 => ?_)
  · replace hf := it hf c2
    refine lv_iconst (v := -1) hx hb dX8_hold_22 (by decide) ?_
    cases hf
    exact W.iret hx hb hr (fun t ht _ => ⟨rfl, ht⟩) (fun q h => by cases h) dX8_hold_23
  · replace hf := ie hf c2
    refine lv_aload_n hx hb dX8_hold_11 rfl (lv_at hl 0 rfl) ?_
    refine va_get (D := D) (ci := 8) (v := .ref a_folk) (C := RX8) (T := TX8) (N := 14) hx hb hts inTX8 hown hK hP 0 rfl rfl 3 (by decide) (hts _ q290) (fun _ h9 => h9) rfl dX8_hold_12 ?_
    refine lv_iload_n hx hb dX8_hold_15 rfl (lv_at hl 2 rfl) ?_
    obtain ⟨v3, hv3, hf⟩ := ob hf
    refine kX0_hasPlank hx hb hml hown hts hKW q551 (hP.sub [1] rfl) hv3 hl.1 (Nat.le_of_ble_eq_true rfl) ⟨Nat.le_of_ble_eq_true rfl, Nat.le_of_ble_eq_true rfl⟩ ⟨Nat.zero_le _, Nat.zero_le _⟩ dX8_hold_16 ?_
    refine lv_if_ne (tgt := 24) hx hb dX8_hold_19 (by decide) (fun c4 => ?_) (fun c4 => ?_)
    · replace hf := ie hf c4
      refine lv_aload_n hx hb dX8_hold_24 rfl (lv_at hl 0 rfl) ?_
      refine va_get (D := D) (ci := 8) (v := .ref a_folk) (C := RX8) (T := TX8) (N := 14) hx hb hts inTX8 hown hK hP 0 rfl rfl 3 (by decide) (hts _ q290) (fun _ h9 => h9) rfl dX8_hold_25 ?_
      refine lv_iload_n hx hb dX8_hold_28 rfl (lv_at hl 1 rfl) ?_
      refine lv_aload_n hx hb dX8_hold_29 rfl (lv_at hl 0 rfl) ?_
      refine va_get (D := D) (ci := 8) (v := .ref a_folk) (C := RX8) (T := TX8) (N := 14) hx hb hts inTX8 hown hK hP 0 rfl rfl 3 (by decide) (hts _ q290) (fun _ h9 => h9) rfl dX8_hold_30 ?_
      refine va_get (D := D) (ci := 0) (v := .ref a_folk_word) (C := RX0) (T := TX0) (N := 8) hx hb hts inTX0 hown hK hP 1 rfl rfl 5 (by decide) (hts _ q95) (fun _ h9 => h9) rfl dX8_hold_33 ?_
      refine lv_iload_n hx hb dX8_hold_36 rfl (lv_at hl 1 rfl) ?_
      obtain ⟨v5, hv5, hf⟩ := ob hf
      refine x_iald hx hb hK hP 2 0 rfl rfl hv5 dX8_hold_37 ?_
      refine lv_iload_n hx hb dX8_hold_38 rfl (lv_at hl 2 rfl) ?_
      refine lv_aload_n hx hb dX8_hold_39 rfl (lv_at hl 0 rfl) ?_
      refine va_get (D := D) (ci := 8) (v := .ref a_present) (C := RX8) (T := TX8) (N := 14) hx hb hts inTX8 hown hK hP 0 rfl rfl 6 (by decide) (hts _ q293) (fun _ h9 => h9) rfl dX8_hold_40 ?_
      refine va_get (D := D) (ci := 5) (v := .ref a_present_came) (C := RX5) (T := TX5) (N := 5) hx hb hts inTX5 hown hK hP 3 rfl rfl 2 (by decide) (hts _ q176) (fun _ h9 => h9) rfl dX8_hold_43 ?_
      refine lv_iload_n hx hb dX8_hold_46 rfl (lv_at hl 2 rfl) ?_
      obtain ⟨v6, hv6, hf⟩ := ob hf
      refine x_iald hx hb hK hP 4 0 rfl rfl hv6 dX8_hold_47 ?_
      obtain ⟨v7, hv7, hf⟩ := ob hf
      refine kX0_holdBy hx hb hml hown hts hKW q564 (hP.sub [1, 5] rfl) hv7 hl.1 (Nat.le_of_ble_eq_true rfl) ⟨Nat.le_of_ble_eq_true rfl, Nat.le_of_ble_eq_true rfl⟩ ⟨Nat.zero_le _, Nat.zero_le _⟩ dX8_hold_48 ?_
      cases hf
      exact W.iret hx hb hr (fun t ht _ => ⟨rfl, ht⟩) (fun q h => by cases h) dX8_hold_51
    · replace hf := it hf c4
      refine lv_iconst (v := -1) hx hb dX8_hold_22 (by decide) ?_
      cases hf
      exact W.iret hx hb hr (fun t ht _ => ⟨rfl, ht⟩) (fun q h => by cases h) dX8_hold_23
theorem kX8_hold {p : Program} {l : Launch} {e : Env} {R : Room} {s : State} {m : MethodId} {args : Array Value} {below : List Frame} {meth : Method} {c : Code} {H : Heap} {locs : List Loc} {cells slots : Nat} {Q : State → Prop} {cc : ByteArray} {nL pc index : Nat} {ls : Array Slot} {rest : List Value} {own : String} {D : va_G} {cI cZ cQ : ClassId} {a_this a_letters a_draft a_folk a_reader a_strength a_present a_history a_images a_kept a_planner a_gambler a_guesser a_folk_bank a_folk_kind a_folk_word a_folk_slow a_folk_told a_present_came a_present_under a_present_due : Nat} {z_typed z_folk_planks z_folk_size z_folk_sworn z_present_day z_present_crossed p1 p2 : Int32} {z_traced : Int64} {z_folk_word z_present_came z_folk_kind : Nat → Int32} {fu : Nat} {r : Int32} (hx : p.tables.exec = Jvm.exec) (hb : c.code = cc) (hml : c.maxLocals = nL) (hown : s.vm.findClass own = some m.cls) (hts : ∀ w ∈ TB, w.before args s = true) (hKW : KW D (TY cI cZ cQ) s) (hlk : Cond.methodLink own index yX8_hold ∈ TB) (hP : va_P D vwCl [(a_this, .inr (8, [.ref a_letters, .int z_typed, .ref a_draft, .ref a_folk, .ref a_reader, .ref a_strength, .ref a_present, .ref a_history, .ref a_images, .ref a_kept, .ref a_planner, .ref a_gambler, .ref a_guesser, .long z_traced])), (a_folk, .inr (0, [.int z_folk_planks, .int z_folk_size, .int z_folk_sworn, .ref a_folk_bank, .ref a_folk_kind, .ref a_folk_word, .ref a_folk_slow, .ref a_folk_told])), (a_folk_word, .inl (cI, 8, .inl z_folk_word)), (a_present, .inr (5, [.int z_present_day, .int z_present_crossed, .ref a_present_came, .ref a_present_under, .ref a_present_due])), (a_present_came, .inl (cI, 8, .inl z_present_came)), (a_folk_kind, .inl (cI, 8, .inl z_folk_kind))] H) (hf : fX8_hold fu z_folk_size z_folk_planks z_folk_word z_present_came z_folk_kind z_folk_sworn p1 p2 = some (r)) (hn : ls.size = nL) (hW : (rest.map fun v => v.category).sum ≤ 8) (hR : 2 + 1 ≤ R.frames ∧ 8 + (3 + 11) + 45 ≤ R.locals) (hcs : cells ≤ R.cells ∧ slots ≤ R.slots) (hdg : decode cc pc = .ok (.invokevirtual index, 3)) (kk : W p l e R s m args below meth c H locs cells slots Q (F0 m (pc + 3) ls (.int r :: rest))) : W p l e R s m args below meth c H locs cells slots Q (F0 m pc ls (.int p2 :: .int p1 :: .ref a_this :: rest)) :=
  x_ret (va_runV (As := [.int p1, .int p2]) (rest := rest) ⟨hx, hb, hml, hown, hts⟩ (tX8_hold hf) (cwV 2 hts (tb_V hlk q561 q562 q39 q563) rfl rfl rfl (by decide +kernel) hR) ⟨roB, va_recv hKW.1 hP (ci := 8) (q0 := 0) rfl rfl, fun U hU hW => ⟨rfl, by rw [hU]; exact hP, hKW.warm hW⟩⟩ rfl rfl hn rfl (lv_room hW) hdg hcs) kk

-- HalfPlanks.now(I)I
def fX8_now (fu : Nat) (z_history_known : Int32) (z_present_under : Nat → Int32) (z_present_crossed : Int32) (z_folk_planks : Int32) (z_present_came : Nat → Int32) (z_strength_borne : Nat → Int32) (z_present_day : Int32) (p1 : Int32) : Option (Int32) :=
  (if p1 = 0 then
  some (z_present_day)
  else if p1 = 1 then
  (fX7_bridge fu z_present_came z_strength_borne z_folk_planks 0).bind fun v2 =>
  some (v2)
  else if p1 = 2 then
  (fX7_lying fu z_folk_planks z_present_came z_strength_borne).bind fun v4 =>
  some (v4)
  else if p1 = 3 then
  some (z_present_crossed)
  else if p1 = 4 then
  (fX5_lettersUnderWay fu z_present_under).bind fun v7 =>
  some (v7)
  else if p1 = 5 then
  some (z_history_known)
  else some ((-1)))
set_option maxHeartbeats 4000000 in
set_option maxRecDepth 100000 in
theorem tX8_now {l : Launch} {D : va_G} {cI cZ cQ : ClassId} {a_this a_letters a_draft a_folk a_reader a_strength a_present a_history a_images a_kept a_planner a_gambler a_guesser a_history_ring a_present_came a_present_under a_present_due a_strength_borne a_folk_bank a_folk_kind a_folk_word a_folk_slow a_folk_told : Nat} {z_typed z_history_known z_history_top z_present_day z_present_crossed z_folk_planks z_folk_size z_folk_sworn p1 : Int32} {z_traced : Int64} {z_present_under z_present_came z_strength_borne : Nat → Int32} {fu : Nat} {r : Int32} (hf : fX8_now fu z_history_known z_present_under z_present_crossed z_folk_planks z_present_came z_strength_borne z_present_day p1 = some (r)) : Met l yX8_now (.code yX8_now cX8_now 2 (some .int) :: TB) ({ frames := 2, cells := 0, slots := 0, locals := 46 } : Room) (roP D (TY cI cZ cQ) [(a_this, .inr (8, [.ref a_letters, .int z_typed, .ref a_draft, .ref a_folk, .ref a_reader, .ref a_strength, .ref a_present, .ref a_history, .ref a_images, .ref a_kept, .ref a_planner, .ref a_gambler, .ref a_guesser, .long z_traced])), (a_history, .inr (3, [.ref a_history_ring, .int z_history_known, .int z_history_top])), (a_present, .inr (5, [.int z_present_day, .int z_present_crossed, .ref a_present_came, .ref a_present_under, .ref a_present_due])), (a_present_under, .inl (cI, 8, .inl z_present_under)), (a_strength, .inr (7, [.ref a_folk, .ref a_strength_borne])), (a_folk, .inr (0, [.int z_folk_planks, .int z_folk_size, .int z_folk_sworn, .ref a_folk_bank, .ref a_folk_kind, .ref a_folk_word, .ref a_folk_slow, .ref a_folk_told])), (a_present_came, .inl (cI, 8, .inl z_present_came)), (a_strength_borne, .inl (cI, 512, .inl z_strength_borne))] [.ref a_this, .int p1]) (roQ (some (.int r))) 0 0 (fun _ => False) := by
  refine Met.ofW (cc := cX8_now) (maxL := 2) (ret := (some .int)) (by decide) rfl ?_
  intro p e s m args below meth c s₁ B hml hv
  obtain ⟨rfl, hP, hKW⟩ := hv
  have hx := B.exec
  have hb := B.bytes
  have hr := B.returns
  have hts : ∀ w ∈ TB, w.before ([.ref a_this, .int p1] : List Value).toArray s = true := fun w h => atoms_spec (ws := .code yX8_now cX8_now 2 (some .int) :: TB) B.pre w (List.mem_cons_of_mem _ h)
  have hown : s.vm.findClass RX8 = some m.cls := findClass_of_methodNamed B.named
  have hlocks := B.notSynchronized
  have hK := hKW.1
  have hl := lv_entry [.ref a_this, .int p1] (n := 2) (Nat.le_of_ble_eq_true rfl)
  rw [lg_entry_eq]
  generalize (lg_sl [.ref a_this, .int p1] ++ List.replicate (2 - (lg_sl [.ref a_this, .int p1]).length) Slot.unset).toArray = ls at hl ⊢
  have hl : lv_has ls 2 [(0, .ref a_this), (1, .int p1)] := hl
  show W p l e ({ frames := 2, cells := 0, slots := 0, locals := 46 } : Room) s m ([.ref a_this, .int p1] : List Value).toArray below meth c s.heap [] 0 0 (MQ below (roQ (some (.int r))) ([.ref a_this, .int p1] : List Value).toArray s 0 0 (fun _ => False)) (F0 m 0 ls [])
  unfold fX8_now at hf
  refine lv_iload_n hx hb dX8_now_0 rfl (lv_at hl 1 rfl) ?_
  by_cases c1 : p1 = 0
  · replace hf := it hf c1
    refine lv_tableIn (off := 39) (tgt := 40) hx hb dX8_now_1 (by rw [c1]; decide) (by rw [c1]; decide) (by rw [c1]; decide +kernel) (by decide) ?_
    refine lv_aload_n hx hb dX8_now_40 rfl (lv_at hl 0 rfl) ?_
    refine va_get (D := D) (ci := 8) (v := .ref a_present) (C := RX8) (T := TX8) (N := 14) hx hb hts inTX8 hown hK hP 0 rfl rfl 6 (by decide) (hts _ q293) (fun _ h9 => h9) rfl dX8_now_41 ?_
    refine va_get (D := D) (ci := 5) (v := .int z_present_day) (C := RX5) (T := TX5) (N := 5) hx hb hts inTX5 hown hK hP 2 rfl rfl 0 (by decide) (hts _ q170) (fun _ h9 => h9) rfl dX8_now_44 ?_
    cases hf
    exact W.iret hx hb hr (fun t ht _ => ⟨rfl, ht⟩) (fun q h => by cases h) dX8_now_47
  replace hf := ie hf c1
  by_cases c3 : p1 = 1
  · replace hf := it hf c3
    refine lv_tableIn (off := 47) (tgt := 48) hx hb dX8_now_1 (by rw [c3]; decide) (by rw [c3]; decide) (by rw [c3]; decide +kernel) (by decide) ?_
    refine lv_aload_n hx hb dX8_now_48 rfl (lv_at hl 0 rfl) ?_
    refine va_get (D := D) (ci := 8) (v := .ref a_strength) (C := RX8) (T := TX8) (N := 14) hx hb hts inTX8 hown hK hP 0 rfl rfl 5 (by decide) (hts _ q292) (fun _ h9 => h9) rfl dX8_now_49 ?_
    refine lv_aload_n hx hb dX8_now_52 rfl (lv_at hl 0 rfl) ?_
    refine va_get (D := D) (ci := 8) (v := .ref a_present) (C := RX8) (T := TX8) (N := 14) hx hb hts inTX8 hown hK hP 0 rfl rfl 6 (by decide) (hts _ q293) (fun _ h9 => h9) rfl dX8_now_53 ?_
    refine lv_iconst (v := 0) hx hb dX8_now_56 (by decide) ?_
    obtain ⟨v2, hv2, hf⟩ := ob hf
    refine kX7_bridge hx hb hml hown hts hKW q542 (hP.sub [4, 2, 6, 7, 5] rfl) hv2 hl.1 (Nat.le_of_ble_eq_true rfl) ⟨Nat.le_of_ble_eq_true rfl, Nat.le_of_ble_eq_true rfl⟩ ⟨Nat.zero_le _, Nat.zero_le _⟩ dX8_now_57 ?_
    cases hf
    exact W.iret hx hb hr (fun t ht _ => ⟨rfl, ht⟩) (fun q h => by cases h) dX8_now_60
  replace hf := ie hf c3
  by_cases c5 : p1 = 2
  · replace hf := it hf c5
    refine lv_tableIn (off := 60) (tgt := 61) hx hb dX8_now_1 (by rw [c5]; decide) (by rw [c5]; decide) (by rw [c5]; decide +kernel) (by decide) ?_
    refine lv_aload_n hx hb dX8_now_61 rfl (lv_at hl 0 rfl) ?_
    refine va_get (D := D) (ci := 8) (v := .ref a_strength) (C := RX8) (T := TX8) (N := 14) hx hb hts inTX8 hown hK hP 0 rfl rfl 5 (by decide) (hts _ q292) (fun _ h9 => h9) rfl dX8_now_62 ?_
    refine lv_aload_n hx hb dX8_now_65 rfl (lv_at hl 0 rfl) ?_
    refine va_get (D := D) (ci := 8) (v := .ref a_present) (C := RX8) (T := TX8) (N := 14) hx hb hts inTX8 hown hK hP 0 rfl rfl 6 (by decide) (hts _ q293) (fun _ h9 => h9) rfl dX8_now_66 ?_
    obtain ⟨v4, hv4, hf⟩ := ob hf
    refine kX7_lying hx hb hml hown hts hKW q569 (hP.sub [4, 5, 2, 6, 7] rfl) hv4 hl.1 (Nat.le_of_ble_eq_true rfl) ⟨Nat.le_of_ble_eq_true rfl, Nat.le_of_ble_eq_true rfl⟩ ⟨Nat.zero_le _, Nat.zero_le _⟩ dX8_now_69 ?_
    cases hf
    exact W.iret hx hb hr (fun t ht _ => ⟨rfl, ht⟩) (fun q h => by cases h) dX8_now_72
  replace hf := ie hf c5
  by_cases c6 : p1 = 3
  · replace hf := it hf c6
    refine lv_tableIn (off := 72) (tgt := 73) hx hb dX8_now_1 (by rw [c6]; decide) (by rw [c6]; decide) (by rw [c6]; decide +kernel) (by decide) ?_
    refine lv_aload_n hx hb dX8_now_73 rfl (lv_at hl 0 rfl) ?_
    refine va_get (D := D) (ci := 8) (v := .ref a_present) (C := RX8) (T := TX8) (N := 14) hx hb hts inTX8 hown hK hP 0 rfl rfl 6 (by decide) (hts _ q293) (fun _ h9 => h9) rfl dX8_now_74 ?_
    refine va_get (D := D) (ci := 5) (v := .int z_present_crossed) (C := RX5) (T := TX5) (N := 5) hx hb hts inTX5 hown hK hP 2 rfl rfl 1 (by decide) (hts _ q172) (fun _ h9 => h9) rfl dX8_now_77 ?_
    cases hf
    exact W.iret hx hb hr (fun t ht _ => ⟨rfl, ht⟩) (fun q h => by cases h) dX8_now_80
  replace hf := ie hf c6
  by_cases c8 : p1 = 4
  · replace hf := it hf c8
    refine lv_tableIn (off := 80) (tgt := 81) hx hb dX8_now_1 (by rw [c8]; decide) (by rw [c8]; decide) (by rw [c8]; decide +kernel) (by decide) ?_
    refine lv_aload_n hx hb dX8_now_81 rfl (lv_at hl 0 rfl) ?_
    refine va_get (D := D) (ci := 8) (v := .ref a_present) (C := RX8) (T := TX8) (N := 14) hx hb hts inTX8 hown hK hP 0 rfl rfl 6 (by decide) (hts _ q293) (fun _ h9 => h9) rfl dX8_now_82 ?_
    obtain ⟨v7, hv7, hf⟩ := ob hf
    refine kX5_lettersUnderWay hx hb hml hown hts hKW q573 (hP.sub [2, 3] rfl) hv7 hl.1 (Nat.le_of_ble_eq_true rfl) ⟨Nat.le_of_ble_eq_true rfl, Nat.le_of_ble_eq_true rfl⟩ ⟨Nat.zero_le _, Nat.zero_le _⟩ dX8_now_85 ?_
    cases hf
    exact W.iret hx hb hr (fun t ht _ => ⟨rfl, ht⟩) (fun q h => by cases h) dX8_now_88
  replace hf := ie hf c8
  by_cases c9 : p1 = 5
  · replace hf := it hf c9
    refine lv_tableIn (off := 88) (tgt := 89) hx hb dX8_now_1 (by rw [c9]; decide) (by rw [c9]; decide) (by rw [c9]; decide +kernel) (by decide) ?_
    refine lv_aload_n hx hb dX8_now_89 rfl (lv_at hl 0 rfl) ?_
    refine va_get (D := D) (ci := 8) (v := .ref a_history) (C := RX8) (T := TX8) (N := 14) hx hb hts inTX8 hown hK hP 0 rfl rfl 7 (by decide) (hts _ q294) (fun _ h9 => h9) rfl dX8_now_90 ?_
    refine va_get (D := D) (ci := 3) (v := .int z_history_known) (C := RX3) (T := TX3) (N := 3) hx hb hts inTX3 hown hK hP 1 rfl rfl 1 (by decide) (hts _ q205) (fun _ h9 => h9) rfl dX8_now_93 ?_
    cases hf
    exact W.iret hx hb hr (fun t ht _ => ⟨rfl, ht⟩) (fun q h => by cases h) dX8_now_96
  replace hf := ie hf c9
  refine lv_tableOut (tgt := 97) hx hb dX8_now_1 (by have := lv_neT (a := 0) c1 (by decide); have := lv_neT (a := 1) c3 (by decide); have := lv_neT (a := 2) c5 (by decide); have := lv_neT (a := 3) c6 (by decide); have := lv_neT (a := 4) c8 (by decide); have := lv_neT (a := 5) c9 (by decide); omega) (by decide) ?_
  refine lv_iconst (v := -1) hx hb dX8_now_97 (by decide) ?_
  cases hf
  exact W.iret hx hb hr (fun t ht _ => ⟨rfl, ht⟩) (fun q h => by cases h) dX8_now_98
theorem kX8_now {p : Program} {l : Launch} {e : Env} {R : Room} {s : State} {m : MethodId} {args : Array Value} {below : List Frame} {meth : Method} {c : Code} {H : Heap} {locs : List Loc} {cells slots : Nat} {Q : State → Prop} {cc : ByteArray} {nL pc index : Nat} {ls : Array Slot} {rest : List Value} {own : String} {D : va_G} {cI cZ cQ : ClassId} {a_this a_letters a_draft a_folk a_reader a_strength a_present a_history a_images a_kept a_planner a_gambler a_guesser a_history_ring a_present_came a_present_under a_present_due a_strength_borne a_folk_bank a_folk_kind a_folk_word a_folk_slow a_folk_told : Nat} {z_typed z_history_known z_history_top z_present_day z_present_crossed z_folk_planks z_folk_size z_folk_sworn p1 : Int32} {z_traced : Int64} {z_present_under z_present_came z_strength_borne : Nat → Int32} {fu : Nat} {r : Int32} (hx : p.tables.exec = Jvm.exec) (hb : c.code = cc) (hml : c.maxLocals = nL) (hown : s.vm.findClass own = some m.cls) (hts : ∀ w ∈ TB, w.before args s = true) (hKW : KW D (TY cI cZ cQ) s) (hlk : Cond.methodLink own index yX8_now ∈ TB) (hP : va_P D vwCl [(a_this, .inr (8, [.ref a_letters, .int z_typed, .ref a_draft, .ref a_folk, .ref a_reader, .ref a_strength, .ref a_present, .ref a_history, .ref a_images, .ref a_kept, .ref a_planner, .ref a_gambler, .ref a_guesser, .long z_traced])), (a_history, .inr (3, [.ref a_history_ring, .int z_history_known, .int z_history_top])), (a_present, .inr (5, [.int z_present_day, .int z_present_crossed, .ref a_present_came, .ref a_present_under, .ref a_present_due])), (a_present_under, .inl (cI, 8, .inl z_present_under)), (a_strength, .inr (7, [.ref a_folk, .ref a_strength_borne])), (a_folk, .inr (0, [.int z_folk_planks, .int z_folk_size, .int z_folk_sworn, .ref a_folk_bank, .ref a_folk_kind, .ref a_folk_word, .ref a_folk_slow, .ref a_folk_told])), (a_present_came, .inl (cI, 8, .inl z_present_came)), (a_strength_borne, .inl (cI, 512, .inl z_strength_borne))] H) (hf : fX8_now fu z_history_known z_present_under z_present_crossed z_folk_planks z_present_came z_strength_borne z_present_day p1 = some (r)) (hn : ls.size = nL) (hW : (rest.map fun v => v.category).sum ≤ 8) (hR : 2 + 1 ≤ R.frames ∧ 8 + (2 + 11) + 46 ≤ R.locals) (hcs : cells ≤ R.cells ∧ slots ≤ R.slots) (hdg : decode cc pc = .ok (.invokevirtual index, 3)) (kk : W p l e R s m args below meth c H locs cells slots Q (F0 m (pc + 3) ls (.int r :: rest))) : W p l e R s m args below meth c H locs cells slots Q (F0 m pc ls (.int p1 :: .ref a_this :: rest)) :=
  x_ret (va_runV (As := [.int p1]) (rest := rest) ⟨hx, hb, hml, hown, hts⟩ (tX8_now hf) (cwV 1 hts (tb_V hlk q566 q567 q39 q568) rfl rfl rfl (by decide +kernel) hR) ⟨roB, va_recv hKW.1 hP (ci := 8) (q0 := 0) rfl rfl, fun U hU hW => ⟨rfl, by rw [hU]; exact hP, hKW.warm hW⟩⟩ rfl rfl hn rfl (lv_room hW) hdg hcs) kk

-- HalfPlanks.when(I)I
def fX8_when (fu : Nat) (z_folk_planks : Int32) (z_present_day : Int32) (z_present_came : Nat → Int32) (z_present_under : Nat → Int32) (z_present_due : Nat → Int32) (z_strength_borne : Nat → Int32) (p1 : Int32) : Option (Int32) :=
  (fX8_isLoad fu p1).bind fun v1 =>
  (if v1 = 0 then
  some ((-1))
  else
  (fX4_firstBorne fu z_folk_planks z_present_day z_present_came z_present_under z_present_due z_strength_borne p1).bind fun v3 =>
  some (v3))
set_option maxHeartbeats 4000000 in
set_option maxRecDepth 100000 in
theorem tX8_when {l : Launch} {D : va_G} {cI cZ cQ : ClassId} {a_this a_letters a_draft a_folk a_reader a_strength a_present a_history a_images a_kept a_planner a_gambler a_guesser a_folk_bank a_folk_kind a_folk_word a_folk_slow a_folk_told a_present_came a_present_under a_present_due a_strength_borne : Nat} {z_typed z_folk_planks z_folk_size z_folk_sworn z_present_day z_present_crossed p1 : Int32} {z_traced : Int64} {z_present_came z_present_under z_present_due z_strength_borne : Nat → Int32} {fu : Nat} {r : Int32} (hf : fX8_when fu z_folk_planks z_present_day z_present_came z_present_under z_present_due z_strength_borne p1 = some (r)) : Met l yX8_when (.code yX8_when cX8_when 2 (some .int) :: TB) ({ frames := 4, cells := 0, slots := 0, locals := 90 } : Room) (roP D (TY cI cZ cQ) [(a_this, .inr (8, [.ref a_letters, .int z_typed, .ref a_draft, .ref a_folk, .ref a_reader, .ref a_strength, .ref a_present, .ref a_history, .ref a_images, .ref a_kept, .ref a_planner, .ref a_gambler, .ref a_guesser, .long z_traced])), (a_planner, .inr (4, [.ref a_folk, .ref a_strength, .ref a_present])), (a_folk, .inr (0, [.int z_folk_planks, .int z_folk_size, .int z_folk_sworn, .ref a_folk_bank, .ref a_folk_kind, .ref a_folk_word, .ref a_folk_slow, .ref a_folk_told])), (a_present, .inr (5, [.int z_present_day, .int z_present_crossed, .ref a_present_came, .ref a_present_under, .ref a_present_due])), (a_present_came, .inl (cI, 8, .inl z_present_came)), (a_present_under, .inl (cI, 8, .inl z_present_under)), (a_present_due, .inl (cI, 64, .inl z_present_due)), (a_strength, .inr (7, [.ref a_folk, .ref a_strength_borne])), (a_strength_borne, .inl (cI, 512, .inl z_strength_borne))] [.ref a_this, .int p1]) (roQ (some (.int r))) 0 0 (fun _ => False) := by
  refine Met.ofW (cc := cX8_when) (maxL := 2) (ret := (some .int)) (by decide) rfl ?_
  intro p e s m args below meth c s₁ B hml hv
  obtain ⟨rfl, hP, hKW⟩ := hv
  have hx := B.exec
  have hb := B.bytes
  have hr := B.returns
  have hts : ∀ w ∈ TB, w.before ([.ref a_this, .int p1] : List Value).toArray s = true := fun w h => atoms_spec (ws := .code yX8_when cX8_when 2 (some .int) :: TB) B.pre w (List.mem_cons_of_mem _ h)
  have hown : s.vm.findClass RX8 = some m.cls := findClass_of_methodNamed B.named
  have hlocks := B.notSynchronized
  have hK := hKW.1
  have hl := lv_entry [.ref a_this, .int p1] (n := 2) (Nat.le_of_ble_eq_true rfl)
  rw [lg_entry_eq]
  generalize (lg_sl [.ref a_this, .int p1] ++ List.replicate (2 - (lg_sl [.ref a_this, .int p1]).length) Slot.unset).toArray = ls at hl ⊢
  have hl : lv_has ls 2 [(0, .ref a_this), (1, .int p1)] := hl
  show W p l e ({ frames := 4, cells := 0, slots := 0, locals := 90 } : Room) s m ([.ref a_this, .int p1] : List Value).toArray below meth c s.heap [] 0 0 (MQ below (roQ (some (.int r))) ([.ref a_this, .int p1] : List Value).toArray s 0 0 (fun _ => False)) (F0 m 0 ls [])
  unfold fX8_when at hf
  refine lv_iload_n hx hb dX8_when_0 rfl (lv_at hl 1 rfl) ?_
  obtain ⟨v1, hv1, hf⟩ := ob hf
  refine kX8_isLoad hx hb hml hown hts hKW q634  hv1 hl.1 (Nat.le_of_ble_eq_true rfl) ⟨Nat.le_of_ble_eq_true rfl, Nat.le_of_ble_eq_true rfl⟩ ⟨Nat.zero_le _, Nat.zero_le _⟩ dX8_when_1 ?_
  refine lv_if_eq (tgt := 18) hx hb dX8_when_4 (by decide) (fun c2 => ?_) (fun c2 => ?_)
  · replace hf := it hf c2
    refine lv_iconst (v := -1) hx hb dX8_when_18 (by decide) ?_
    cases hf
    exact W.iret hx hb hr (fun t ht _ => ⟨rfl, ht⟩) (fun q h => by cases h) dX8_when_19
  · replace hf := ie hf c2
    refine lv_aload_n hx hb dX8_when_7 rfl (lv_at hl 0 rfl) ?_
    refine va_get (D := D) (ci := 8) (v := .ref a_planner) (C := RX8) (T := TX8) (N := 14) hx hb hts inTX8 hown hK hP 0 rfl rfl 10 (by decide) (hts _ q297) (fun _ h9 => h9) rfl dX8_when_8 ?_
    refine lv_iload_n hx hb dX8_when_11 rfl (lv_at hl 1 rfl) ?_
    obtain ⟨v3, hv3, hf⟩ := ob hf
    refine kX4_firstBorne hx hb hml hown hts hKW q649 (hP.sub [1, 2, 3, 4, 5, 6, 7, 8] rfl) hv3 hl.1 (Nat.le_of_ble_eq_true rfl) ⟨Nat.le_of_ble_eq_true rfl, Nat.le_of_ble_eq_true rfl⟩ ⟨Nat.zero_le _, Nat.zero_le _⟩ dX8_when_12 ?_
    refine lv_goto (tgt := 19) hx hb dX8_when_15 (by decide) ?_
    cases hf
    exact W.iret hx hb hr (fun t ht _ => ⟨rfl, ht⟩) (fun q h => by cases h) dX8_when_19
theorem kX8_when {p : Program} {l : Launch} {e : Env} {R : Room} {s : State} {m : MethodId} {args : Array Value} {below : List Frame} {meth : Method} {c : Code} {H : Heap} {locs : List Loc} {cells slots : Nat} {Q : State → Prop} {cc : ByteArray} {nL pc index : Nat} {ls : Array Slot} {rest : List Value} {own : String} {D : va_G} {cI cZ cQ : ClassId} {a_this a_letters a_draft a_folk a_reader a_strength a_present a_history a_images a_kept a_planner a_gambler a_guesser a_folk_bank a_folk_kind a_folk_word a_folk_slow a_folk_told a_present_came a_present_under a_present_due a_strength_borne : Nat} {z_typed z_folk_planks z_folk_size z_folk_sworn z_present_day z_present_crossed p1 : Int32} {z_traced : Int64} {z_present_came z_present_under z_present_due z_strength_borne : Nat → Int32} {fu : Nat} {r : Int32} (hx : p.tables.exec = Jvm.exec) (hb : c.code = cc) (hml : c.maxLocals = nL) (hown : s.vm.findClass own = some m.cls) (hts : ∀ w ∈ TB, w.before args s = true) (hKW : KW D (TY cI cZ cQ) s) (hlk : Cond.methodLink own index yX8_when ∈ TB) (hP : va_P D vwCl [(a_this, .inr (8, [.ref a_letters, .int z_typed, .ref a_draft, .ref a_folk, .ref a_reader, .ref a_strength, .ref a_present, .ref a_history, .ref a_images, .ref a_kept, .ref a_planner, .ref a_gambler, .ref a_guesser, .long z_traced])), (a_planner, .inr (4, [.ref a_folk, .ref a_strength, .ref a_present])), (a_folk, .inr (0, [.int z_folk_planks, .int z_folk_size, .int z_folk_sworn, .ref a_folk_bank, .ref a_folk_kind, .ref a_folk_word, .ref a_folk_slow, .ref a_folk_told])), (a_present, .inr (5, [.int z_present_day, .int z_present_crossed, .ref a_present_came, .ref a_present_under, .ref a_present_due])), (a_present_came, .inl (cI, 8, .inl z_present_came)), (a_present_under, .inl (cI, 8, .inl z_present_under)), (a_present_due, .inl (cI, 64, .inl z_present_due)), (a_strength, .inr (7, [.ref a_folk, .ref a_strength_borne])), (a_strength_borne, .inl (cI, 512, .inl z_strength_borne))] H) (hf : fX8_when fu z_folk_planks z_present_day z_present_came z_present_under z_present_due z_strength_borne p1 = some (r)) (hn : ls.size = nL) (hW : (rest.map fun v => v.category).sum ≤ 8) (hR : 4 + 1 ≤ R.frames ∧ 8 + (2 + 11) + 90 ≤ R.locals) (hcs : cells ≤ R.cells ∧ slots ≤ R.slots) (hdg : decode cc pc = .ok (.invokevirtual index, 3)) (kk : W p l e R s m args below meth c H locs cells slots Q (F0 m (pc + 3) ls (.int r :: rest))) : W p l e R s m args below meth c H locs cells slots Q (F0 m pc ls (.int p1 :: .ref a_this :: rest)) :=
  x_ret (va_runV (As := [.int p1]) (rest := rest) ⟨hx, hb, hml, hown, hts⟩ (tX8_when hf) (cwV 1 hts (tb_V hlk q646 q647 q39 q648) rfl rfl rfl (by decide +kernel) hR) ⟨roB, va_recv hKW.1 hP (ci := 8) (q0 := 0) rfl rfl, fun U hU hW => ⟨rfl, by rw [hU]; exact hP, hKW.warm hW⟩⟩ rfl rfl hn rfl (lv_room hW) hdg hcs) kk

-- HalfPlanks.fewest(II)I
def fX8_fewest (fu : Nat) (z_folk_planks : Int32) (z_present_came : Nat → Int32) (z_present_under : Nat → Int32) (z_folk_size : Int32) (z_strength_borne : Nat → Int32) (p1 : Int32) (p2 : Int32) : Option (Int32) :=
  (fX8_isLoad fu p1).bind fun v1 =>
  (if v1 = 0 then
  some ((-1))
  else
  (if p2 = (-1) then
  (fX4_moreForAll fu z_folk_planks z_present_came z_present_under z_folk_size z_strength_borne p1).bind fun v7 =>
  some (v7)
  else
  (fX0_hasPlank fu z_folk_planks p2).bind fun v4 =>
  (if v4 = 0 then
  some ((-1))
  else
  (fX4_moreFor fu z_present_came z_present_under z_folk_size z_strength_borne p1 p2).bind fun v6 =>
  some (v6))))
set_option maxHeartbeats 4000000 in
set_option maxRecDepth 100000 in
theorem tX8_fewest {l : Launch} {D : va_G} {cI cZ cQ : ClassId} {a_this a_letters a_draft a_folk a_reader a_strength a_present a_history a_images a_kept a_planner a_gambler a_guesser a_folk_bank a_folk_kind a_folk_word a_folk_slow a_folk_told a_present_came a_present_under a_present_due a_strength_borne : Nat} {z_typed z_folk_planks z_folk_size z_folk_sworn z_present_day z_present_crossed p1 p2 : Int32} {z_traced : Int64} {z_present_came z_present_under z_strength_borne : Nat → Int32} {fu : Nat} {r : Int32} (hf : fX8_fewest fu z_folk_planks z_present_came z_present_under z_folk_size z_strength_borne p1 p2 = some (r)) : Met l yX8_fewest (.code yX8_fewest cX8_fewest 3 (some .int) :: TB) ({ frames := 4, cells := 0, slots := 0, locals := 97 } : Room) (roP D (TY cI cZ cQ) [(a_this, .inr (8, [.ref a_letters, .int z_typed, .ref a_draft, .ref a_folk, .ref a_reader, .ref a_strength, .ref a_present, .ref a_history, .ref a_images, .ref a_kept, .ref a_planner, .ref a_gambler, .ref a_guesser, .long z_traced])), (a_planner, .inr (4, [.ref a_folk, .ref a_strength, .ref a_present])), (a_folk, .inr (0, [.int z_folk_planks, .int z_folk_size, .int z_folk_sworn, .ref a_folk_bank, .ref a_folk_kind, .ref a_folk_word, .ref a_folk_slow, .ref a_folk_told])), (a_present, .inr (5, [.int z_present_day, .int z_present_crossed, .ref a_present_came, .ref a_present_under, .ref a_present_due])), (a_present_came, .inl (cI, 8, .inl z_present_came)), (a_present_under, .inl (cI, 8, .inl z_present_under)), (a_strength, .inr (7, [.ref a_folk, .ref a_strength_borne])), (a_strength_borne, .inl (cI, 512, .inl z_strength_borne))] [.ref a_this, .int p1, .int p2]) (roQ (some (.int r))) 0 0 (fun _ => False) := by
  refine Met.ofW (cc := cX8_fewest) (maxL := 3) (ret := (some .int)) (by decide) rfl ?_
  intro p e s m args below meth c s₁ B hml hv
  obtain ⟨rfl, hP, hKW⟩ := hv
  have hx := B.exec
  have hb := B.bytes
  have hr := B.returns
  have hts : ∀ w ∈ TB, w.before ([.ref a_this, .int p1, .int p2] : List Value).toArray s = true := fun w h => atoms_spec (ws := .code yX8_fewest cX8_fewest 3 (some .int) :: TB) B.pre w (List.mem_cons_of_mem _ h)
  have hown : s.vm.findClass RX8 = some m.cls := findClass_of_methodNamed B.named
  have hlocks := B.notSynchronized
  have hK := hKW.1
  have hl := lv_entry [.ref a_this, .int p1, .int p2] (n := 3) (Nat.le_of_ble_eq_true rfl)
  rw [lg_entry_eq]
  generalize (lg_sl [.ref a_this, .int p1, .int p2] ++ List.replicate (3 - (lg_sl [.ref a_this, .int p1, .int p2]).length) Slot.unset).toArray = ls at hl ⊢
  have hl : lv_has ls 3 [(0, .ref a_this), (1, .int p1), (2, .int p2)] := hl
  show W p l e ({ frames := 4, cells := 0, slots := 0, locals := 97 } : Room) s m ([.ref a_this, .int p1, .int p2] : List Value).toArray below meth c s.heap [] 0 0 (MQ below (roQ (some (.int r))) ([.ref a_this, .int p1, .int p2] : List Value).toArray s 0 0 (fun _ => False)) (F0 m 0 ls [])
  unfold fX8_fewest at hf
  refine lv_iload_n hx hb dX8_fewest_0 rfl (lv_at hl 1 rfl) ?_
  obtain ⟨v1, hv1, hf⟩ := ob hf
  refine kX8_isLoad hx hb hml hown hts hKW q634  hv1 hl.1 (Nat.le_of_ble_eq_true rfl) ⟨Nat.le_of_ble_eq_true rfl, Nat.le_of_ble_eq_true rfl⟩ ⟨Nat.zero_le _, Nat.zero_le _⟩ dX8_fewest_1 ?_
  refine lv_if_ne (tgt := 9) hx hb dX8_fewest_4 (by decide) (fun c2 => ?_) (fun c2 => ?_)
  · replace hf := ie hf c2
    refine lv_iload_n hx hb dX8_fewest_9 rfl (lv_at hl 2 rfl) ?_
    refine lv_iconst (v := -1) hx hb dX8_fewest_10 (by decide) ?_
    refine lv_icmp_ne (tgt := 23) hx hb dX8_fewest_11 (by decide) (fun c3 => ?_) (fun c3 => ?_)
    · replace hf := ie hf c3
      refine lv_aload_n hx hb dX8_fewest_23 rfl (lv_at hl 0 rfl) ?_
      refine va_get (D := D) (ci := 8) (v := .ref a_folk) (C := RX8) (T := TX8) (N := 14) hx hb hts inTX8 hown hK hP 0 rfl rfl 3 (by decide) (hts _ q290) (fun _ h9 => h9) rfl dX8_fewest_24 ?_
      refine lv_iload_n hx hb dX8_fewest_27 rfl (lv_at hl 2 rfl) ?_
      obtain ⟨v4, hv4, hf⟩ := ob hf
      refine kX0_hasPlank hx hb hml hown hts hKW q551 (hP.sub [2] rfl) hv4 hl.1 (Nat.le_of_ble_eq_true rfl) ⟨Nat.le_of_ble_eq_true rfl, Nat.le_of_ble_eq_true rfl⟩ ⟨Nat.zero_le _, Nat.zero_le _⟩ dX8_fewest_28 ?_
      refine lv_if_eq (tgt := 46) hx hb dX8_fewest_31 (by decide) (fun c5 => ?_) (fun c5 => ?_)
      · replace hf := it hf c5
        refine lv_iconst (v := -1) hx hb dX8_fewest_46 (by decide) ?_
        cases hf
        exact W.iret hx hb hr (fun t ht _ => ⟨rfl, ht⟩) (fun q h => by cases h) dX8_fewest_47
      · replace hf := ie hf c5
        refine lv_aload_n hx hb dX8_fewest_34 rfl (lv_at hl 0 rfl) ?_
        refine va_get (D := D) (ci := 8) (v := .ref a_planner) (C := RX8) (T := TX8) (N := 14) hx hb hts inTX8 hown hK hP 0 rfl rfl 10 (by decide) (hts _ q297) (fun _ h9 => h9) rfl dX8_fewest_35 ?_
        refine lv_iload_n hx hb dX8_fewest_38 rfl (lv_at hl 1 rfl) ?_
        refine lv_iload_n hx hb dX8_fewest_39 rfl (lv_at hl 2 rfl) ?_
        obtain ⟨v6, hv6, hf⟩ := ob hf
        refine kX4_moreFor hx hb hml hown hts hKW q677 (hP.sub [1, 3, 4, 5, 2, 6, 7] rfl) hv6 hl.1 (Nat.le_of_ble_eq_true rfl) ⟨Nat.le_of_ble_eq_true rfl, Nat.le_of_ble_eq_true rfl⟩ ⟨Nat.zero_le _, Nat.zero_le _⟩ dX8_fewest_40 ?_
        refine lv_goto (tgt := 47) hx hb dX8_fewest_43 (by decide) ?_
        cases hf
        exact W.iret hx hb hr (fun t ht _ => ⟨rfl, ht⟩) (fun q h => by cases h) dX8_fewest_47
    · replace hf := it hf c3
      refine lv_aload_n hx hb dX8_fewest_14 rfl (lv_at hl 0 rfl) ?_
      refine va_get (D := D) (ci := 8) (v := .ref a_planner) (C := RX8) (T := TX8) (N := 14) hx hb hts inTX8 hown hK hP 0 rfl rfl 10 (by decide) (hts _ q297) (fun _ h9 => h9) rfl dX8_fewest_15 ?_
      refine lv_iload_n hx hb dX8_fewest_18 rfl (lv_at hl 1 rfl) ?_
      obtain ⟨v7, hv7, hf⟩ := ob hf
      refine kX4_moreForAll hx hb hml hown hts hKW q663 (hP.sub [1, 2, 3, 4, 5, 6, 7] rfl) hv7 hl.1 (Nat.le_of_ble_eq_true rfl) ⟨Nat.le_of_ble_eq_true rfl, Nat.le_of_ble_eq_true rfl⟩ ⟨Nat.zero_le _, Nat.zero_le _⟩ dX8_fewest_19 ?_
      cases hf
      exact W.iret hx hb hr (fun t ht _ => ⟨rfl, ht⟩) (fun q h => by cases h) dX8_fewest_22
  · replace hf := it hf c2
    refine lv_iconst (v := -1) hx hb dX8_fewest_7 (by decide) ?_
    cases hf
    exact W.iret hx hb hr (fun t ht _ => ⟨rfl, ht⟩) (fun q h => by cases h) dX8_fewest_8
theorem kX8_fewest {p : Program} {l : Launch} {e : Env} {R : Room} {s : State} {m : MethodId} {args : Array Value} {below : List Frame} {meth : Method} {c : Code} {H : Heap} {locs : List Loc} {cells slots : Nat} {Q : State → Prop} {cc : ByteArray} {nL pc index : Nat} {ls : Array Slot} {rest : List Value} {own : String} {D : va_G} {cI cZ cQ : ClassId} {a_this a_letters a_draft a_folk a_reader a_strength a_present a_history a_images a_kept a_planner a_gambler a_guesser a_folk_bank a_folk_kind a_folk_word a_folk_slow a_folk_told a_present_came a_present_under a_present_due a_strength_borne : Nat} {z_typed z_folk_planks z_folk_size z_folk_sworn z_present_day z_present_crossed p1 p2 : Int32} {z_traced : Int64} {z_present_came z_present_under z_strength_borne : Nat → Int32} {fu : Nat} {r : Int32} (hx : p.tables.exec = Jvm.exec) (hb : c.code = cc) (hml : c.maxLocals = nL) (hown : s.vm.findClass own = some m.cls) (hts : ∀ w ∈ TB, w.before args s = true) (hKW : KW D (TY cI cZ cQ) s) (hlk : Cond.methodLink own index yX8_fewest ∈ TB) (hP : va_P D vwCl [(a_this, .inr (8, [.ref a_letters, .int z_typed, .ref a_draft, .ref a_folk, .ref a_reader, .ref a_strength, .ref a_present, .ref a_history, .ref a_images, .ref a_kept, .ref a_planner, .ref a_gambler, .ref a_guesser, .long z_traced])), (a_planner, .inr (4, [.ref a_folk, .ref a_strength, .ref a_present])), (a_folk, .inr (0, [.int z_folk_planks, .int z_folk_size, .int z_folk_sworn, .ref a_folk_bank, .ref a_folk_kind, .ref a_folk_word, .ref a_folk_slow, .ref a_folk_told])), (a_present, .inr (5, [.int z_present_day, .int z_present_crossed, .ref a_present_came, .ref a_present_under, .ref a_present_due])), (a_present_came, .inl (cI, 8, .inl z_present_came)), (a_present_under, .inl (cI, 8, .inl z_present_under)), (a_strength, .inr (7, [.ref a_folk, .ref a_strength_borne])), (a_strength_borne, .inl (cI, 512, .inl z_strength_borne))] H) (hf : fX8_fewest fu z_folk_planks z_present_came z_present_under z_folk_size z_strength_borne p1 p2 = some (r)) (hn : ls.size = nL) (hW : (rest.map fun v => v.category).sum ≤ 8) (hR : 4 + 1 ≤ R.frames ∧ 8 + (3 + 11) + 97 ≤ R.locals) (hcs : cells ≤ R.cells ∧ slots ≤ R.slots) (hdg : decode cc pc = .ok (.invokevirtual index, 3)) (kk : W p l e R s m args below meth c H locs cells slots Q (F0 m (pc + 3) ls (.int r :: rest))) : W p l e R s m args below meth c H locs cells slots Q (F0 m pc ls (.int p2 :: .int p1 :: .ref a_this :: rest)) :=
  x_ret (va_runV (As := [.int p1, .int p2]) (rest := rest) ⟨hx, hb, hml, hown, hts⟩ (tX8_fewest hf) (cwV 2 hts (tb_V hlk q660 q661 q39 q662) rfl rfl rfl (by decide +kernel) hR) ⟨roB, va_recv hKW.1 hP (ci := 8) (q0 := 0) rfl rfl, fun U hU hW => ⟨rfl, by rw [hU]; exact hP, hKW.warm hW⟩⟩ rfl rfl hn rfl (lv_room hW) hdg hcs) kk

-- HalfPlanks.soon(I)I
def fX8_soon (fu : Nat) (z_folk_size : Int32) (z_folk_slow : Nat → Int32) (z_folk_planks : Int32) (z_present_day : Int32) (z_present_came : Nat → Int32) (z_present_under : Nat → Int32) (z_present_due : Nat → Int32) (z_strength_borne : Nat → Int32) (p1 : Int32) : Option (Int32) :=
  (fX8_isLoad fu p1).bind fun v1 =>
  (if v1 = 0 then
  some ((-1))
  else
  (fX4_firstPossible fu z_folk_size z_folk_slow z_folk_planks z_present_day z_present_came z_present_under z_present_due z_strength_borne p1).bind fun v3 =>
  some (v3))
set_option maxHeartbeats 4000000 in
set_option maxRecDepth 100000 in
theorem tX8_soon {l : Launch} {D : va_G} {cI cZ cQ : ClassId} {a_this a_letters a_draft a_folk a_reader a_strength a_present a_history a_images a_kept a_planner a_gambler a_guesser a_folk_bank a_folk_kind a_folk_word a_folk_slow a_folk_told a_present_came a_present_under a_present_due a_strength_borne : Nat} {z_typed z_folk_planks z_folk_size z_folk_sworn z_present_day z_present_crossed p1 : Int32} {z_traced : Int64} {z_folk_slow z_present_came z_present_under z_present_due z_strength_borne : Nat → Int32} {fu : Nat} {r : Int32} (hf : fX8_soon fu z_folk_size z_folk_slow z_folk_planks z_present_day z_present_came z_present_under z_present_due z_strength_borne p1 = some (r)) : Met l yX8_soon (.code yX8_soon cX8_soon 2 (some .int) :: TB) ({ frames := 4, cells := 0, slots := 0, locals := 98 } : Room) (roP D (TY cI cZ cQ) [(a_this, .inr (8, [.ref a_letters, .int z_typed, .ref a_draft, .ref a_folk, .ref a_reader, .ref a_strength, .ref a_present, .ref a_history, .ref a_images, .ref a_kept, .ref a_planner, .ref a_gambler, .ref a_guesser, .long z_traced])), (a_planner, .inr (4, [.ref a_folk, .ref a_strength, .ref a_present])), (a_folk, .inr (0, [.int z_folk_planks, .int z_folk_size, .int z_folk_sworn, .ref a_folk_bank, .ref a_folk_kind, .ref a_folk_word, .ref a_folk_slow, .ref a_folk_told])), (a_folk_slow, .inl (cI, 8, .inl z_folk_slow)), (a_present, .inr (5, [.int z_present_day, .int z_present_crossed, .ref a_present_came, .ref a_present_under, .ref a_present_due])), (a_present_came, .inl (cI, 8, .inl z_present_came)), (a_present_under, .inl (cI, 8, .inl z_present_under)), (a_present_due, .inl (cI, 64, .inl z_present_due)), (a_strength, .inr (7, [.ref a_folk, .ref a_strength_borne])), (a_strength_borne, .inl (cI, 512, .inl z_strength_borne))] [.ref a_this, .int p1]) (roQ (some (.int r))) 0 0 (fun _ => False) := by
  refine Met.ofW (cc := cX8_soon) (maxL := 2) (ret := (some .int)) (by decide) rfl ?_
  intro p e s m args below meth c s₁ B hml hv
  obtain ⟨rfl, hP, hKW⟩ := hv
  have hx := B.exec
  have hb := B.bytes
  have hr := B.returns
  have hts : ∀ w ∈ TB, w.before ([.ref a_this, .int p1] : List Value).toArray s = true := fun w h => atoms_spec (ws := .code yX8_soon cX8_soon 2 (some .int) :: TB) B.pre w (List.mem_cons_of_mem _ h)
  have hown : s.vm.findClass RX8 = some m.cls := findClass_of_methodNamed B.named
  have hlocks := B.notSynchronized
  have hK := hKW.1
  have hl := lv_entry [.ref a_this, .int p1] (n := 2) (Nat.le_of_ble_eq_true rfl)
  rw [lg_entry_eq]
  generalize (lg_sl [.ref a_this, .int p1] ++ List.replicate (2 - (lg_sl [.ref a_this, .int p1]).length) Slot.unset).toArray = ls at hl ⊢
  have hl : lv_has ls 2 [(0, .ref a_this), (1, .int p1)] := hl
  show W p l e ({ frames := 4, cells := 0, slots := 0, locals := 98 } : Room) s m ([.ref a_this, .int p1] : List Value).toArray below meth c s.heap [] 0 0 (MQ below (roQ (some (.int r))) ([.ref a_this, .int p1] : List Value).toArray s 0 0 (fun _ => False)) (F0 m 0 ls [])
  unfold fX8_soon at hf
  refine lv_iload_n hx hb dX8_soon_0 rfl (lv_at hl 1 rfl) ?_
  obtain ⟨v1, hv1, hf⟩ := ob hf
  refine kX8_isLoad hx hb hml hown hts hKW q634  hv1 hl.1 (Nat.le_of_ble_eq_true rfl) ⟨Nat.le_of_ble_eq_true rfl, Nat.le_of_ble_eq_true rfl⟩ ⟨Nat.zero_le _, Nat.zero_le _⟩ dX8_soon_1 ?_
  refine lv_if_eq (tgt := 18) hx hb dX8_soon_4 (by decide) (fun c2 => ?_) (fun c2 => ?_)
  · replace hf := it hf c2
    refine lv_iconst (v := -1) hx hb dX8_soon_18 (by decide) ?_
    cases hf
    exact W.iret hx hb hr (fun t ht _ => ⟨rfl, ht⟩) (fun q h => by cases h) dX8_soon_19
  · replace hf := ie hf c2
    refine lv_aload_n hx hb dX8_soon_7 rfl (lv_at hl 0 rfl) ?_
    refine va_get (D := D) (ci := 8) (v := .ref a_planner) (C := RX8) (T := TX8) (N := 14) hx hb hts inTX8 hown hK hP 0 rfl rfl 10 (by decide) (hts _ q297) (fun _ h9 => h9) rfl dX8_soon_8 ?_
    refine lv_iload_n hx hb dX8_soon_11 rfl (lv_at hl 1 rfl) ?_
    obtain ⟨v3, hv3, hf⟩ := ob hf
    refine kX4_firstPossible hx hb hml hown hts hKW q682 (hP.sub [1, 2, 3, 4, 5, 6, 7, 8, 9] rfl) hv3 hl.1 (Nat.le_of_ble_eq_true rfl) ⟨Nat.le_of_ble_eq_true rfl, Nat.le_of_ble_eq_true rfl⟩ ⟨Nat.zero_le _, Nat.zero_le _⟩ dX8_soon_12 ?_
    refine lv_goto (tgt := 19) hx hb dX8_soon_15 (by decide) ?_
    cases hf
    exact W.iret hx hb hr (fun t ht _ => ⟨rfl, ht⟩) (fun q h => by cases h) dX8_soon_19
theorem kX8_soon {p : Program} {l : Launch} {e : Env} {R : Room} {s : State} {m : MethodId} {args : Array Value} {below : List Frame} {meth : Method} {c : Code} {H : Heap} {locs : List Loc} {cells slots : Nat} {Q : State → Prop} {cc : ByteArray} {nL pc index : Nat} {ls : Array Slot} {rest : List Value} {own : String} {D : va_G} {cI cZ cQ : ClassId} {a_this a_letters a_draft a_folk a_reader a_strength a_present a_history a_images a_kept a_planner a_gambler a_guesser a_folk_bank a_folk_kind a_folk_word a_folk_slow a_folk_told a_present_came a_present_under a_present_due a_strength_borne : Nat} {z_typed z_folk_planks z_folk_size z_folk_sworn z_present_day z_present_crossed p1 : Int32} {z_traced : Int64} {z_folk_slow z_present_came z_present_under z_present_due z_strength_borne : Nat → Int32} {fu : Nat} {r : Int32} (hx : p.tables.exec = Jvm.exec) (hb : c.code = cc) (hml : c.maxLocals = nL) (hown : s.vm.findClass own = some m.cls) (hts : ∀ w ∈ TB, w.before args s = true) (hKW : KW D (TY cI cZ cQ) s) (hlk : Cond.methodLink own index yX8_soon ∈ TB) (hP : va_P D vwCl [(a_this, .inr (8, [.ref a_letters, .int z_typed, .ref a_draft, .ref a_folk, .ref a_reader, .ref a_strength, .ref a_present, .ref a_history, .ref a_images, .ref a_kept, .ref a_planner, .ref a_gambler, .ref a_guesser, .long z_traced])), (a_planner, .inr (4, [.ref a_folk, .ref a_strength, .ref a_present])), (a_folk, .inr (0, [.int z_folk_planks, .int z_folk_size, .int z_folk_sworn, .ref a_folk_bank, .ref a_folk_kind, .ref a_folk_word, .ref a_folk_slow, .ref a_folk_told])), (a_folk_slow, .inl (cI, 8, .inl z_folk_slow)), (a_present, .inr (5, [.int z_present_day, .int z_present_crossed, .ref a_present_came, .ref a_present_under, .ref a_present_due])), (a_present_came, .inl (cI, 8, .inl z_present_came)), (a_present_under, .inl (cI, 8, .inl z_present_under)), (a_present_due, .inl (cI, 64, .inl z_present_due)), (a_strength, .inr (7, [.ref a_folk, .ref a_strength_borne])), (a_strength_borne, .inl (cI, 512, .inl z_strength_borne))] H) (hf : fX8_soon fu z_folk_size z_folk_slow z_folk_planks z_present_day z_present_came z_present_under z_present_due z_strength_borne p1 = some (r)) (hn : ls.size = nL) (hW : (rest.map fun v => v.category).sum ≤ 8) (hR : 4 + 1 ≤ R.frames ∧ 8 + (2 + 11) + 98 ≤ R.locals) (hcs : cells ≤ R.cells ∧ slots ≤ R.slots) (hdg : decode cc pc = .ok (.invokevirtual index, 3)) (kk : W p l e R s m args below meth c H locs cells slots Q (F0 m (pc + 3) ls (.int r :: rest))) : W p l e R s m args below meth c H locs cells slots Q (F0 m pc ls (.int p1 :: .ref a_this :: rest)) :=
  x_ret (va_runV (As := [.int p1]) (rest := rest) ⟨hx, hb, hml, hown, hts⟩ (tX8_soon hf) (cwV 1 hts (tb_V hlk q679 q680 q39 q681) rfl rfl rfl (by decide +kernel) hR) ⟨roB, va_recv hKW.1 hP (ci := 8) (q0 := 0) rfl rfl, fun U hU hW => ⟨rfl, by rw [hU]; exact hP, hKW.warm hW⟩⟩ rfl rfl hn rfl (lv_room hW) hdg hcs) kk

-- HalfPlanks.pair(III)I
def fX8_pair (fu : Nat) (z_folk_size : Int32) (z_folk_planks : Int32) (z_folk_bank : Nat → Int32) (z_present_came : Nat → Int32) (z_present_under : Nat → Int32) (z_folk_slow : Nat → Int32) (p1 : Int32) (p2 : Int32) (p3 : Int32) : Option (Int32) :=
  (fX0_hasPerson fu z_folk_size p1).bind fun v1 =>
  (if v1 = 0 then
  some ((-1))
  else
  (fX0_hasPerson fu z_folk_size p2).bind fun v3 =>
  (if v3 = 0 then
  some ((-1))
  else
  (fX0_hasPlank fu z_folk_planks p3).bind fun v5 =>
  (if v5 = 0 then
  some ((-1))
  else
  (rd 8 z_folk_bank p1).bind fun v7 =>
  (rd 8 z_folk_bank p2).bind fun v8 =>
  (if v7 = v8 then
  some ((-2))
  else
  (fX5_gave fu z_present_came z_present_under p1 p3).bind fun v10 =>
  (if v10 = 0 then
  (fX5_gave fu z_present_came z_present_under p2 p3).bind fun v12 =>
  (if v12 = 0 then
  (rd 8 z_present_under p3).bind fun v14 =>
  (if v14 = 0 then
  (rd 8 z_folk_slow p1).bind fun v16 =>
  (rd 8 z_folk_slow p2).bind fun v17 =>
  some ((mn (mn (mx v16 (v17 + 1)) (mx (v16 + 1) v17)) (v16 + v17)))
  else
  some ((-2)))
  else
  some ((-2)))
  else
  some ((-2)))))))
set_option maxHeartbeats 4000000 in
set_option maxRecDepth 100000 in
theorem tX8_pair {l : Launch} {D : va_G} {cI cZ cQ : ClassId} {a_this a_letters a_draft a_folk a_reader a_strength a_present a_history a_images a_kept a_planner a_gambler a_guesser a_folk_bank a_folk_kind a_folk_word a_folk_slow a_folk_told a_present_came a_present_under a_present_due : Nat} {z_typed z_folk_planks z_folk_size z_folk_sworn z_present_day z_present_crossed p1 p2 p3 : Int32} {z_traced : Int64} {z_folk_bank z_present_came z_present_under z_folk_slow : Nat → Int32} {fu : Nat} {r : Int32} (hf : fX8_pair fu z_folk_size z_folk_planks z_folk_bank z_present_came z_present_under z_folk_slow p1 p2 p3 = some (r)) : Met l yX8_pair (.code yX8_pair cX8_pair 7 (some .int) :: TB) ({ frames := 2, cells := 0, slots := 0, locals := 43 } : Room) (roP D (TY cI cZ cQ) [(a_this, .inr (8, [.ref a_letters, .int z_typed, .ref a_draft, .ref a_folk, .ref a_reader, .ref a_strength, .ref a_present, .ref a_history, .ref a_images, .ref a_kept, .ref a_planner, .ref a_gambler, .ref a_guesser, .long z_traced])), (a_folk, .inr (0, [.int z_folk_planks, .int z_folk_size, .int z_folk_sworn, .ref a_folk_bank, .ref a_folk_kind, .ref a_folk_word, .ref a_folk_slow, .ref a_folk_told])), (a_folk_bank, .inl (cI, 8, .inl z_folk_bank)), (a_present, .inr (5, [.int z_present_day, .int z_present_crossed, .ref a_present_came, .ref a_present_under, .ref a_present_due])), (a_present_came, .inl (cI, 8, .inl z_present_came)), (a_present_under, .inl (cI, 8, .inl z_present_under)), (a_folk_slow, .inl (cI, 8, .inl z_folk_slow))] [.ref a_this, .int p1, .int p2, .int p3]) (roQ (some (.int r))) 0 0 (fun _ => False) := by
  refine Met.ofW (cc := cX8_pair) (maxL := 7) (ret := (some .int)) (by decide) rfl ?_
  intro p e s m args below meth c s₁ B hml hv
  obtain ⟨rfl, hP, hKW⟩ := hv
  have hx := B.exec
  have hb := B.bytes
  have hr := B.returns
  have hts : ∀ w ∈ TB, w.before ([.ref a_this, .int p1, .int p2, .int p3] : List Value).toArray s = true := fun w h => atoms_spec (ws := .code yX8_pair cX8_pair 7 (some .int) :: TB) B.pre w (List.mem_cons_of_mem _ h)
  have hown : s.vm.findClass RX8 = some m.cls := findClass_of_methodNamed B.named
  have hlocks := B.notSynchronized
  have hK := hKW.1
  have hl := lv_entry [.ref a_this, .int p1, .int p2, .int p3] (n := 7) (Nat.le_of_ble_eq_true rfl)
  rw [lg_entry_eq]
  generalize (lg_sl [.ref a_this, .int p1, .int p2, .int p3] ++ List.replicate (7 - (lg_sl [.ref a_this, .int p1, .int p2, .int p3]).length) Slot.unset).toArray = ls at hl ⊢
  have hl : lv_has ls 7 [(0, .ref a_this), (1, .int p1), (2, .int p2), (3, .int p3)] := hl
  show W p l e ({ frames := 2, cells := 0, slots := 0, locals := 43 } : Room) s m ([.ref a_this, .int p1, .int p2, .int p3] : List Value).toArray below meth c s.heap [] 0 0 (MQ below (roQ (some (.int r))) ([.ref a_this, .int p1, .int p2, .int p3] : List Value).toArray s 0 0 (fun _ => False)) (F0 m 0 ls [])
  unfold fX8_pair at hf
  refine lv_aload_n hx hb dX8_pair_0 rfl (lv_at hl 0 rfl) ?_
  refine va_get (D := D) (ci := 8) (v := .ref a_folk) (C := RX8) (T := TX8) (N := 14) hx hb hts inTX8 hown hK hP 0 rfl rfl 3 (by decide) (hts _ q290) (fun _ h9 => h9) rfl dX8_pair_1 ?_
  refine lv_iload_n hx hb dX8_pair_4 rfl (lv_at hl 1 rfl) ?_
  obtain ⟨v1, hv1, hf⟩ := ob hf
  refine kX0_hasPerson hx hb hml hown hts hKW q525 (hP.sub [1] rfl) hv1 hl.1 (Nat.le_of_ble_eq_true rfl) ⟨Nat.le_of_ble_eq_true rfl, Nat.le_of_ble_eq_true rfl⟩ ⟨Nat.zero_le _, Nat.zero_le _⟩ dX8_pair_5 ?_
  refine lv_if_eq (tgt := 33) hx hb dX8_pair_8 (by decide) (fun c2 => ?_) (fun c2 => ?_)
  · replace hf := it hf c2
    refine lv_iconst (v := -1) hx hb dX8_pair_33 (by decide) ?_
    cases hf
    exact W.iret hx hb hr (fun t ht _ => ⟨rfl, ht⟩) (fun q h => by cases h) dX8_pair_34
  · replace hf := ie hf c2
    refine lv_aload_n hx hb dX8_pair_11 rfl (lv_at hl 0 rfl) ?_
    refine va_get (D := D) (ci := 8) (v := .ref a_folk) (C := RX8) (T := TX8) (N := 14) hx hb hts inTX8 hown hK hP 0 rfl rfl 3 (by decide) (hts _ q290) (fun _ h9 => h9) rfl dX8_pair_12 ?_
    refine lv_iload_n hx hb dX8_pair_15 rfl (lv_at hl 2 rfl) ?_
    obtain ⟨v3, hv3, hf⟩ := ob hf
    refine kX0_hasPerson hx hb hml hown hts hKW q525 (hP.sub [1] rfl) hv3 hl.1 (Nat.le_of_ble_eq_true rfl) ⟨Nat.le_of_ble_eq_true rfl, Nat.le_of_ble_eq_true rfl⟩ ⟨Nat.zero_le _, Nat.zero_le _⟩ dX8_pair_16 ?_
    refine lv_if_eq (tgt := 33) hx hb dX8_pair_19 (by decide) (fun c4 => ?_) (fun c4 => ?_)
    · replace hf := it hf c4
      refine lv_iconst (v := -1) hx hb dX8_pair_33 (by decide) ?_
      cases hf
      exact W.iret hx hb hr (fun t ht _ => ⟨rfl, ht⟩) (fun q h => by cases h) dX8_pair_34
    · replace hf := ie hf c4
      refine lv_aload_n hx hb dX8_pair_22 rfl (lv_at hl 0 rfl) ?_
      refine va_get (D := D) (ci := 8) (v := .ref a_folk) (C := RX8) (T := TX8) (N := 14) hx hb hts inTX8 hown hK hP 0 rfl rfl 3 (by decide) (hts _ q290) (fun _ h9 => h9) rfl dX8_pair_23 ?_
      refine lv_iload_n hx hb dX8_pair_26 rfl (lv_at hl 3 rfl) ?_
      obtain ⟨v5, hv5, hf⟩ := ob hf
      refine kX0_hasPlank hx hb hml hown hts hKW q551 (hP.sub [1] rfl) hv5 hl.1 (Nat.le_of_ble_eq_true rfl) ⟨Nat.le_of_ble_eq_true rfl, Nat.le_of_ble_eq_true rfl⟩ ⟨Nat.zero_le _, Nat.zero_le _⟩ dX8_pair_27 ?_
      refine lv_if_ne (tgt := 35) hx hb dX8_pair_30 (by decide) (fun c6 => ?_) (fun c6 => ?_)
      · replace hf := ie hf c6
        refine lv_aload_n hx hb dX8_pair_35 rfl (lv_at hl 0 rfl) ?_
        refine va_get (D := D) (ci := 8) (v := .ref a_folk) (C := RX8) (T := TX8) (N := 14) hx hb hts inTX8 hown hK hP 0 rfl rfl 3 (by decide) (hts _ q290) (fun _ h9 => h9) rfl dX8_pair_36 ?_
        refine va_get (D := D) (ci := 0) (v := .ref a_folk_bank) (C := RX0) (T := TX0) (N := 8) hx hb hts inTX0 hown hK hP 1 rfl rfl 3 (by decide) (hts _ q88) (fun _ h9 => h9) rfl dX8_pair_39 ?_
        refine lv_iload_n hx hb dX8_pair_42 rfl (lv_at hl 1 rfl) ?_
        obtain ⟨v7, hv7, hf⟩ := ob hf
        refine x_iald hx hb hK hP 2 0 rfl rfl hv7 dX8_pair_43 ?_
        refine lv_aload_n hx hb dX8_pair_44 rfl (lv_at hl 0 rfl) ?_
        refine va_get (D := D) (ci := 8) (v := .ref a_folk) (C := RX8) (T := TX8) (N := 14) hx hb hts inTX8 hown hK hP 0 rfl rfl 3 (by decide) (hts _ q290) (fun _ h9 => h9) rfl dX8_pair_45 ?_
        refine va_get (D := D) (ci := 0) (v := .ref a_folk_bank) (C := RX0) (T := TX0) (N := 8) hx hb hts inTX0 hown hK hP 1 rfl rfl 3 (by decide) (hts _ q88) (fun _ h9 => h9) rfl dX8_pair_48 ?_
        refine lv_iload_n hx hb dX8_pair_51 rfl (lv_at hl 2 rfl) ?_
        obtain ⟨v8, hv8, hf⟩ := ob hf
        refine x_iald hx hb hK hP 2 0 rfl rfl hv8 dX8_pair_52 ?_
        refine lv_icmp_eq (tgt := 92) hx hb dX8_pair_53 (by decide) (fun c9 => ?_) (fun c9 => ?_)
        · replace hf := it hf c9
          refine lv_bipush (v := -2) hx hb dX8_pair_92 (by decide) ?_
          cases hf
          exact W.iret hx hb hr (fun t ht _ => ⟨rfl, ht⟩) (fun q h => by cases h) dX8_pair_94
        · replace hf := ie hf c9
          refine lv_aload_n hx hb dX8_pair_56 rfl (lv_at hl 0 rfl) ?_
          refine va_get (D := D) (ci := 8) (v := .ref a_present) (C := RX8) (T := TX8) (N := 14) hx hb hts inTX8 hown hK hP 0 rfl rfl 6 (by decide) (hts _ q293) (fun _ h9 => h9) rfl dX8_pair_57 ?_
          refine lv_iload_n hx hb dX8_pair_60 rfl (lv_at hl 1 rfl) ?_
          refine lv_iload_n hx hb dX8_pair_61 rfl (lv_at hl 3 rfl) ?_
          obtain ⟨v10, hv10, hf⟩ := ob hf
          refine kX5_gave hx hb hml hown hts hKW q587 (hP.sub [3, 4, 5] rfl) hv10 hl.1 (Nat.le_of_ble_eq_true rfl) ⟨Nat.le_of_ble_eq_true rfl, Nat.le_of_ble_eq_true rfl⟩ ⟨Nat.zero_le _, Nat.zero_le _⟩ dX8_pair_62 ?_
          refine lv_if_ne (tgt := 92) hx hb dX8_pair_65 (by decide) (fun c11 => ?_) (fun c11 => ?_)
          · replace hf := ie hf c11
            refine lv_bipush (v := -2) hx hb dX8_pair_92 (by decide) ?_
            cases hf
            exact W.iret hx hb hr (fun t ht _ => ⟨rfl, ht⟩) (fun q h => by cases h) dX8_pair_94
          · replace hf := it hf c11
            refine lv_aload_n hx hb dX8_pair_68 rfl (lv_at hl 0 rfl) ?_
            refine va_get (D := D) (ci := 8) (v := .ref a_present) (C := RX8) (T := TX8) (N := 14) hx hb hts inTX8 hown hK hP 0 rfl rfl 6 (by decide) (hts _ q293) (fun _ h9 => h9) rfl dX8_pair_69 ?_
            refine lv_iload_n hx hb dX8_pair_72 rfl (lv_at hl 2 rfl) ?_
            refine lv_iload_n hx hb dX8_pair_73 rfl (lv_at hl 3 rfl) ?_
            obtain ⟨v12, hv12, hf⟩ := ob hf
            refine kX5_gave hx hb hml hown hts hKW q587 (hP.sub [3, 4, 5] rfl) hv12 hl.1 (Nat.le_of_ble_eq_true rfl) ⟨Nat.le_of_ble_eq_true rfl, Nat.le_of_ble_eq_true rfl⟩ ⟨Nat.zero_le _, Nat.zero_le _⟩ dX8_pair_74 ?_
            refine lv_if_ne (tgt := 92) hx hb dX8_pair_77 (by decide) (fun c13 => ?_) (fun c13 => ?_)
            · replace hf := ie hf c13
              refine lv_bipush (v := -2) hx hb dX8_pair_92 (by decide) ?_
              cases hf
              exact W.iret hx hb hr (fun t ht _ => ⟨rfl, ht⟩) (fun q h => by cases h) dX8_pair_94
            · replace hf := it hf c13
              refine lv_aload_n hx hb dX8_pair_80 rfl (lv_at hl 0 rfl) ?_
              refine va_get (D := D) (ci := 8) (v := .ref a_present) (C := RX8) (T := TX8) (N := 14) hx hb hts inTX8 hown hK hP 0 rfl rfl 6 (by decide) (hts _ q293) (fun _ h9 => h9) rfl dX8_pair_81 ?_
              refine va_get (D := D) (ci := 5) (v := .ref a_present_under) (C := RX5) (T := TX5) (N := 5) hx hb hts inTX5 hown hK hP 3 rfl rfl 3 (by decide) (hts _ q181) (fun _ h9 => h9) rfl dX8_pair_84 ?_
              refine lv_iload_n hx hb dX8_pair_87 rfl (lv_at hl 3 rfl) ?_
              obtain ⟨v14, hv14, hf⟩ := ob hf
              refine x_iald hx hb hK hP 5 0 rfl rfl hv14 dX8_pair_88 ?_
              refine lv_if_eq (tgt := 95) hx hb dX8_pair_89 (by decide) (fun c15 => ?_) (fun c15 => ?_)
              · replace hf := it hf c15
                refine lv_aload_n hx hb dX8_pair_95 rfl (lv_at hl 0 rfl) ?_
                refine va_get (D := D) (ci := 8) (v := .ref a_folk) (C := RX8) (T := TX8) (N := 14) hx hb hts inTX8 hown hK hP 0 rfl rfl 3 (by decide) (hts _ q290) (fun _ h9 => h9) rfl dX8_pair_96 ?_
                refine va_get (D := D) (ci := 0) (v := .ref a_folk_slow) (C := RX0) (T := TX0) (N := 8) hx hb hts inTX0 hown hK hP 1 rfl rfl 6 (by decide) (hts _ q98) (fun _ h9 => h9) rfl dX8_pair_99 ?_
                refine lv_iload_n hx hb dX8_pair_102 rfl (lv_at hl 1 rfl) ?_
                obtain ⟨v16, hv16, hf⟩ := ob hf
                refine x_iald hx hb hK hP 6 0 rfl rfl hv16 dX8_pair_103 ?_
                refine lv_istore (lv' := [(4, .int v16), (0, .ref a_this), (1, .int p1), (2, .int p2), (3, .int p3)]) hx hb dX8_pair_104 hl (by decide) rfl (fun ls hl => ?_)
                refine lv_aload_n hx hb dX8_pair_106 rfl (lv_at hl 1 rfl) ?_
                refine va_get (D := D) (ci := 8) (v := .ref a_folk) (C := RX8) (T := TX8) (N := 14) hx hb hts inTX8 hown hK hP 0 rfl rfl 3 (by decide) (hts _ q290) (fun _ h9 => h9) rfl dX8_pair_107 ?_
                refine va_get (D := D) (ci := 0) (v := .ref a_folk_slow) (C := RX0) (T := TX0) (N := 8) hx hb hts inTX0 hown hK hP 1 rfl rfl 6 (by decide) (hts _ q98) (fun _ h9 => h9) rfl dX8_pair_110 ?_
                refine lv_iload_n hx hb dX8_pair_113 rfl (lv_at hl 3 rfl) ?_
                obtain ⟨v17, hv17, hf⟩ := ob hf
                refine x_iald hx hb hK hP 6 0 rfl rfl hv17 dX8_pair_114 ?_
                refine lv_istore (lv' := [(5, .int v17), (4, .int v16), (0, .ref a_this), (1, .int p1), (2, .int p2), (3, .int p3)]) hx hb dX8_pair_115 hl (by decide) rfl (fun ls hl => ?_)
                refine lv_iload hx hb dX8_pair_117 (lv_at hl 1 rfl) ?_
                refine lv_iload hx hb dX8_pair_119 (lv_at hl 0 rfl) ?_
                refine lv_iconst (v := 1) hx hb dX8_pair_121 (by decide) ?_
                refine lv_iadd hx hb dX8_pair_122 ?_
                refine x_max hx hb hml hl.1 hown hts q546 ⟨Nat.le_of_ble_eq_true rfl, Nat.le_of_ble_eq_true rfl⟩ ⟨Nat.zero_le _, Nat.zero_le _⟩ dX8_pair_123 ?_
                refine lv_iload hx hb dX8_pair_126 (lv_at hl 1 rfl) ?_
                refine lv_iconst (v := 1) hx hb dX8_pair_128 (by decide) ?_
                refine lv_iadd hx hb dX8_pair_129 ?_
                refine lv_iload hx hb dX8_pair_130 (lv_at hl 0 rfl) ?_
                refine x_max hx hb hml hl.1 hown hts q546 ⟨Nat.le_of_ble_eq_true rfl, Nat.le_of_ble_eq_true rfl⟩ ⟨Nat.zero_le _, Nat.zero_le _⟩ dX8_pair_132 ?_
                refine x_min hx hb hml hl.1 hown hts q698 ⟨Nat.le_of_ble_eq_true rfl, Nat.le_of_ble_eq_true rfl⟩ ⟨Nat.zero_le _, Nat.zero_le _⟩ dX8_pair_135 ?_
                refine lv_istore (lv' := [(6, .int (mn (mx v16 (v17 + 1)) (mx (v16 + 1) v17))), (5, .int v17), (4, .int v16), (0, .ref a_this), (1, .int p1), (2, .int p2), (3, .int p3)]) hx hb dX8_pair_138 hl (by decide) rfl (fun ls hl => ?_)
                refine lv_iload hx hb dX8_pair_140 (lv_at hl 0 rfl) ?_
                refine lv_iload hx hb dX8_pair_142 (lv_at hl 2 rfl) ?_
                refine lv_iload hx hb dX8_pair_144 (lv_at hl 1 rfl) ?_
                refine lv_iadd hx hb dX8_pair_146 ?_
                refine x_min hx hb hml hl.1 hown hts q698 ⟨Nat.le_of_ble_eq_true rfl, Nat.le_of_ble_eq_true rfl⟩ ⟨Nat.zero_le _, Nat.zero_le _⟩ dX8_pair_147 ?_
                cases hf
                exact W.iret hx hb hr (fun t ht _ => ⟨rfl, ht⟩) (fun q h => by cases h) dX8_pair_150
              · replace hf := ie hf c15
                refine lv_bipush (v := -2) hx hb dX8_pair_92 (by decide) ?_
                cases hf
                exact W.iret hx hb hr (fun t ht _ => ⟨rfl, ht⟩) (fun q h => by cases h) dX8_pair_94
      · replace hf := it hf c6
        refine lv_iconst (v := -1) hx hb dX8_pair_33 (by decide) ?_
        cases hf
        exact W.iret hx hb hr (fun t ht _ => ⟨rfl, ht⟩) (fun q h => by cases h) dX8_pair_34
theorem kX8_pair {p : Program} {l : Launch} {e : Env} {R : Room} {s : State} {m : MethodId} {args : Array Value} {below : List Frame} {meth : Method} {c : Code} {H : Heap} {locs : List Loc} {cells slots : Nat} {Q : State → Prop} {cc : ByteArray} {nL pc index : Nat} {ls : Array Slot} {rest : List Value} {own : String} {D : va_G} {cI cZ cQ : ClassId} {a_this a_letters a_draft a_folk a_reader a_strength a_present a_history a_images a_kept a_planner a_gambler a_guesser a_folk_bank a_folk_kind a_folk_word a_folk_slow a_folk_told a_present_came a_present_under a_present_due : Nat} {z_typed z_folk_planks z_folk_size z_folk_sworn z_present_day z_present_crossed p1 p2 p3 : Int32} {z_traced : Int64} {z_folk_bank z_present_came z_present_under z_folk_slow : Nat → Int32} {fu : Nat} {r : Int32} (hx : p.tables.exec = Jvm.exec) (hb : c.code = cc) (hml : c.maxLocals = nL) (hown : s.vm.findClass own = some m.cls) (hts : ∀ w ∈ TB, w.before args s = true) (hKW : KW D (TY cI cZ cQ) s) (hlk : Cond.methodLink own index yX8_pair ∈ TB) (hP : va_P D vwCl [(a_this, .inr (8, [.ref a_letters, .int z_typed, .ref a_draft, .ref a_folk, .ref a_reader, .ref a_strength, .ref a_present, .ref a_history, .ref a_images, .ref a_kept, .ref a_planner, .ref a_gambler, .ref a_guesser, .long z_traced])), (a_folk, .inr (0, [.int z_folk_planks, .int z_folk_size, .int z_folk_sworn, .ref a_folk_bank, .ref a_folk_kind, .ref a_folk_word, .ref a_folk_slow, .ref a_folk_told])), (a_folk_bank, .inl (cI, 8, .inl z_folk_bank)), (a_present, .inr (5, [.int z_present_day, .int z_present_crossed, .ref a_present_came, .ref a_present_under, .ref a_present_due])), (a_present_came, .inl (cI, 8, .inl z_present_came)), (a_present_under, .inl (cI, 8, .inl z_present_under)), (a_folk_slow, .inl (cI, 8, .inl z_folk_slow))] H) (hf : fX8_pair fu z_folk_size z_folk_planks z_folk_bank z_present_came z_present_under z_folk_slow p1 p2 p3 = some (r)) (hn : ls.size = nL) (hW : (rest.map fun v => v.category).sum ≤ 8) (hR : 2 + 1 ≤ R.frames ∧ 8 + (7 + 11) + 43 ≤ R.locals) (hcs : cells ≤ R.cells ∧ slots ≤ R.slots) (hdg : decode cc pc = .ok (.invokevirtual index, 3)) (kk : W p l e R s m args below meth c H locs cells slots Q (F0 m (pc + 3) ls (.int r :: rest))) : W p l e R s m args below meth c H locs cells slots Q (F0 m pc ls (.int p3 :: .int p2 :: .int p1 :: .ref a_this :: rest)) :=
  x_ret (va_runV (As := [.int p1, .int p2, .int p3]) (rest := rest) ⟨hx, hb, hml, hown, hts⟩ (tX8_pair hf) (cwV 3 hts (tb_V hlk q695 q696 q39 q697) rfl rfl rfl (by decide +kernel) hR) ⟨roB, va_recv hKW.1 hP (ci := 8) (q0 := 0) rfl rfl, fun U hU hW => ⟨rfl, by rw [hU]; exact hP, hKW.warm hW⟩⟩ rfl rfl hn rfl (lv_room hW) hdg hcs) kk

-- HalfPlanks.enough(I)I
def fX8_enough (fu : Nat) (z_folk_size : Int32) (z_folk_planks : Int32) (z_strength_borne : Nat → Int32) (p1 : Int32) : Option (Int32) :=
  (fX8_isLoad fu p1).bind fun v1 =>
  (if v1 = 0 then
  some ((-1))
  else
  (fX4_fewestPeople fu z_folk_size z_folk_planks z_strength_borne p1).bind fun v3 =>
  some (v3))
set_option maxHeartbeats 4000000 in
set_option maxRecDepth 100000 in
theorem tX8_enough {l : Launch} {D : va_G} {cI cZ cQ : ClassId} {a_this a_letters a_draft a_folk a_reader a_strength a_present a_history a_images a_kept a_planner a_gambler a_guesser a_folk_bank a_folk_kind a_folk_word a_folk_slow a_folk_told a_strength_borne : Nat} {z_typed z_folk_planks z_folk_size z_folk_sworn p1 : Int32} {z_traced : Int64} {z_strength_borne : Nat → Int32} {fu : Nat} {r : Int32} (hf : fX8_enough fu z_folk_size z_folk_planks z_strength_borne p1 = some (r)) : Met l yX8_enough (.code yX8_enough cX8_enough 2 (some .int) :: TB) ({ frames := 3, cells := 0, slots := 0, locals := 69 } : Room) (roP D (TY cI cZ cQ) [(a_this, .inr (8, [.ref a_letters, .int z_typed, .ref a_draft, .ref a_folk, .ref a_reader, .ref a_strength, .ref a_present, .ref a_history, .ref a_images, .ref a_kept, .ref a_planner, .ref a_gambler, .ref a_guesser, .long z_traced])), (a_planner, .inr (4, [.ref a_folk, .ref a_strength, .ref a_present])), (a_folk, .inr (0, [.int z_folk_planks, .int z_folk_size, .int z_folk_sworn, .ref a_folk_bank, .ref a_folk_kind, .ref a_folk_word, .ref a_folk_slow, .ref a_folk_told])), (a_strength, .inr (7, [.ref a_folk, .ref a_strength_borne])), (a_strength_borne, .inl (cI, 512, .inl z_strength_borne))] [.ref a_this, .int p1]) (roQ (some (.int r))) 0 0 (fun _ => False) := by
  refine Met.ofW (cc := cX8_enough) (maxL := 2) (ret := (some .int)) (by decide) rfl ?_
  intro p e s m args below meth c s₁ B hml hv
  obtain ⟨rfl, hP, hKW⟩ := hv
  have hx := B.exec
  have hb := B.bytes
  have hr := B.returns
  have hts : ∀ w ∈ TB, w.before ([.ref a_this, .int p1] : List Value).toArray s = true := fun w h => atoms_spec (ws := .code yX8_enough cX8_enough 2 (some .int) :: TB) B.pre w (List.mem_cons_of_mem _ h)
  have hown : s.vm.findClass RX8 = some m.cls := findClass_of_methodNamed B.named
  have hlocks := B.notSynchronized
  have hK := hKW.1
  have hl := lv_entry [.ref a_this, .int p1] (n := 2) (Nat.le_of_ble_eq_true rfl)
  rw [lg_entry_eq]
  generalize (lg_sl [.ref a_this, .int p1] ++ List.replicate (2 - (lg_sl [.ref a_this, .int p1]).length) Slot.unset).toArray = ls at hl ⊢
  have hl : lv_has ls 2 [(0, .ref a_this), (1, .int p1)] := hl
  show W p l e ({ frames := 3, cells := 0, slots := 0, locals := 69 } : Room) s m ([.ref a_this, .int p1] : List Value).toArray below meth c s.heap [] 0 0 (MQ below (roQ (some (.int r))) ([.ref a_this, .int p1] : List Value).toArray s 0 0 (fun _ => False)) (F0 m 0 ls [])
  unfold fX8_enough at hf
  refine lv_iload_n hx hb dX8_enough_0 rfl (lv_at hl 1 rfl) ?_
  obtain ⟨v1, hv1, hf⟩ := ob hf
  refine kX8_isLoad hx hb hml hown hts hKW q634  hv1 hl.1 (Nat.le_of_ble_eq_true rfl) ⟨Nat.le_of_ble_eq_true rfl, Nat.le_of_ble_eq_true rfl⟩ ⟨Nat.zero_le _, Nat.zero_le _⟩ dX8_enough_1 ?_
  refine lv_if_eq (tgt := 18) hx hb dX8_enough_4 (by decide) (fun c2 => ?_) (fun c2 => ?_)
  · replace hf := it hf c2
    refine lv_iconst (v := -1) hx hb dX8_enough_18 (by decide) ?_
    cases hf
    exact W.iret hx hb hr (fun t ht _ => ⟨rfl, ht⟩) (fun q h => by cases h) dX8_enough_19
  · replace hf := ie hf c2
    refine lv_aload_n hx hb dX8_enough_7 rfl (lv_at hl 0 rfl) ?_
    refine va_get (D := D) (ci := 8) (v := .ref a_planner) (C := RX8) (T := TX8) (N := 14) hx hb hts inTX8 hown hK hP 0 rfl rfl 10 (by decide) (hts _ q297) (fun _ h9 => h9) rfl dX8_enough_8 ?_
    refine lv_iload_n hx hb dX8_enough_11 rfl (lv_at hl 1 rfl) ?_
    obtain ⟨v3, hv3, hf⟩ := ob hf
    refine kX4_fewestPeople hx hb hml hown hts hKW q703 (hP.sub [1, 2, 3, 4] rfl) hv3 hl.1 (Nat.le_of_ble_eq_true rfl) ⟨Nat.le_of_ble_eq_true rfl, Nat.le_of_ble_eq_true rfl⟩ ⟨Nat.zero_le _, Nat.zero_le _⟩ dX8_enough_12 ?_
    refine lv_goto (tgt := 19) hx hb dX8_enough_15 (by decide) ?_
    cases hf
    exact W.iret hx hb hr (fun t ht _ => ⟨rfl, ht⟩) (fun q h => by cases h) dX8_enough_19
theorem kX8_enough {p : Program} {l : Launch} {e : Env} {R : Room} {s : State} {m : MethodId} {args : Array Value} {below : List Frame} {meth : Method} {c : Code} {H : Heap} {locs : List Loc} {cells slots : Nat} {Q : State → Prop} {cc : ByteArray} {nL pc index : Nat} {ls : Array Slot} {rest : List Value} {own : String} {D : va_G} {cI cZ cQ : ClassId} {a_this a_letters a_draft a_folk a_reader a_strength a_present a_history a_images a_kept a_planner a_gambler a_guesser a_folk_bank a_folk_kind a_folk_word a_folk_slow a_folk_told a_strength_borne : Nat} {z_typed z_folk_planks z_folk_size z_folk_sworn p1 : Int32} {z_traced : Int64} {z_strength_borne : Nat → Int32} {fu : Nat} {r : Int32} (hx : p.tables.exec = Jvm.exec) (hb : c.code = cc) (hml : c.maxLocals = nL) (hown : s.vm.findClass own = some m.cls) (hts : ∀ w ∈ TB, w.before args s = true) (hKW : KW D (TY cI cZ cQ) s) (hlk : Cond.methodLink own index yX8_enough ∈ TB) (hP : va_P D vwCl [(a_this, .inr (8, [.ref a_letters, .int z_typed, .ref a_draft, .ref a_folk, .ref a_reader, .ref a_strength, .ref a_present, .ref a_history, .ref a_images, .ref a_kept, .ref a_planner, .ref a_gambler, .ref a_guesser, .long z_traced])), (a_planner, .inr (4, [.ref a_folk, .ref a_strength, .ref a_present])), (a_folk, .inr (0, [.int z_folk_planks, .int z_folk_size, .int z_folk_sworn, .ref a_folk_bank, .ref a_folk_kind, .ref a_folk_word, .ref a_folk_slow, .ref a_folk_told])), (a_strength, .inr (7, [.ref a_folk, .ref a_strength_borne])), (a_strength_borne, .inl (cI, 512, .inl z_strength_borne))] H) (hf : fX8_enough fu z_folk_size z_folk_planks z_strength_borne p1 = some (r)) (hn : ls.size = nL) (hW : (rest.map fun v => v.category).sum ≤ 8) (hR : 3 + 1 ≤ R.frames ∧ 8 + (2 + 11) + 69 ≤ R.locals) (hcs : cells ≤ R.cells ∧ slots ≤ R.slots) (hdg : decode cc pc = .ok (.invokevirtual index, 3)) (kk : W p l e R s m args below meth c H locs cells slots Q (F0 m (pc + 3) ls (.int r :: rest))) : W p l e R s m args below meth c H locs cells slots Q (F0 m pc ls (.int p1 :: .ref a_this :: rest)) :=
  x_ret (va_runV (As := [.int p1]) (rest := rest) ⟨hx, hb, hml, hown, hts⟩ (tX8_enough hf) (cwV 1 hts (tb_V hlk q700 q701 q39 q702) rfl rfl rfl (by decide +kernel) hR) ⟨roB, va_recv hKW.1 hP (ci := 8) (q0 := 0) rfl rfl, fun U hU hW => ⟨rfl, by rw [hU]; exact hP, hKW.warm hW⟩⟩ rfl rfl hn rfl (lv_room hW) hdg hcs) kk

-- HalfPlanks.byTurns(I)I
def fX8_byTurns (fu : Nat) (z_folk_size : Int32) (z_present_came : Nat → Int32) (z_strength_borne : Nat → Int32) (z_folk_planks : Int32) (z_present_day : Int32) (z_present_crossed : Int32) (z_present_under : Nat → Int32) (z_present_due : Nat → Int32) (z_gambler_trial_came : Nat → Int32) (z_gambler_trial_under : Nat → Int32) (z_gambler_trial_due : Nat → Int32) (z_gambler_trial_day : Int32) (z_gambler_trial_crossed : Int32) (p1 : Int32) : Option (Int32 × (Nat → Int32) × (Nat → Int32) × (Nat → Int32) × Int32 × Int32) :=
  (fX8_within fu p1 0 3).bind fun v1 =>
  (if v1 = 0 then
  some ((-1), z_gambler_trial_came, z_gambler_trial_under, z_gambler_trial_due, z_gambler_trial_day, z_gambler_trial_crossed)
  else
  (fX1_afterTurns fu z_folk_size z_present_came z_strength_borne z_folk_planks z_present_day z_present_crossed z_present_under z_present_due z_gambler_trial_came z_gambler_trial_under z_gambler_trial_due z_gambler_trial_day z_gambler_trial_crossed p1).bind fun (v3, g4, g5, g6, g7, g8) =>
  some (v3, g4, g5, g6, g7, g8))
set_option maxHeartbeats 4000000 in
set_option maxRecDepth 100000 in
theorem tX8_byTurns {l : Launch} {D : va_G} {cI cZ cQ : ClassId} {a_this a_letters a_draft a_folk a_reader a_strength a_present a_history a_images a_kept a_planner a_gambler a_guesser a_gambler_trial a_folk_bank a_folk_kind a_folk_word a_folk_slow a_folk_told a_strength_borne a_present_came a_present_under a_present_due a_gambler_trial_came a_gambler_trial_under a_gambler_trial_due : Nat} {z_typed z_folk_planks z_folk_size z_folk_sworn z_present_day z_present_crossed z_gambler_trial_day z_gambler_trial_crossed p1 : Int32} {z_traced : Int64} {z_present_came z_strength_borne z_gambler_trial_came z_present_under z_gambler_trial_under z_present_due z_gambler_trial_due : Nat → Int32} {fu : Nat} {r : Int32} {o_z_gambler_trial_day o_z_gambler_trial_crossed : Int32} {o_z_gambler_trial_came o_z_gambler_trial_under o_z_gambler_trial_due : Nat → Int32} (hf : fX8_byTurns fu z_folk_size z_present_came z_strength_borne z_folk_planks z_present_day z_present_crossed z_present_under z_present_due z_gambler_trial_came z_gambler_trial_under z_gambler_trial_due z_gambler_trial_day z_gambler_trial_crossed p1 = some (r, o_z_gambler_trial_came, o_z_gambler_trial_under, o_z_gambler_trial_due, o_z_gambler_trial_day, o_z_gambler_trial_crossed)) : Met l yX8_byTurns (.code yX8_byTurns cX8_byTurns 2 (some .int) :: TB) ({ frames := 5, cells := 0, slots := 0, locals := 118 } : Room) (rwP D (TY cI cZ cQ) [(a_this, .inr (8, [.ref a_letters, .int z_typed, .ref a_draft, .ref a_folk, .ref a_reader, .ref a_strength, .ref a_present, .ref a_history, .ref a_images, .ref a_kept, .ref a_planner, .ref a_gambler, .ref a_guesser, .long z_traced])), (a_gambler, .inr (1, [.ref a_folk, .ref a_strength, .ref a_present, .ref a_gambler_trial])), (a_folk, .inr (0, [.int z_folk_planks, .int z_folk_size, .int z_folk_sworn, .ref a_folk_bank, .ref a_folk_kind, .ref a_folk_word, .ref a_folk_slow, .ref a_folk_told])), (a_strength, .inr (7, [.ref a_folk, .ref a_strength_borne])), (a_present, .inr (5, [.int z_present_day, .int z_present_crossed, .ref a_present_came, .ref a_present_under, .ref a_present_due])), (a_present_came, .inl (cI, 8, .inl z_present_came)), (a_strength_borne, .inl (cI, 512, .inl z_strength_borne)), (a_gambler_trial, .inr (5, [.int z_gambler_trial_day, .int z_gambler_trial_crossed, .ref a_gambler_trial_came, .ref a_gambler_trial_under, .ref a_gambler_trial_due])), (a_gambler_trial_came, .inl (cI, 8, .inl z_gambler_trial_came)), (a_present_under, .inl (cI, 8, .inl z_present_under)), (a_gambler_trial_under, .inl (cI, 8, .inl z_gambler_trial_under)), (a_present_due, .inl (cI, 64, .inl z_present_due)), (a_gambler_trial_due, .inl (cI, 64, .inl z_gambler_trial_due))] [.ref a_this, .int p1]) (rwQ D (some (.int r)) [(a_this, .inr (8, [.ref a_letters, .int z_typed, .ref a_draft, .ref a_folk, .ref a_reader, .ref a_strength, .ref a_present, .ref a_history, .ref a_images, .ref a_kept, .ref a_planner, .ref a_gambler, .ref a_guesser, .long z_traced])), (a_gambler, .inr (1, [.ref a_folk, .ref a_strength, .ref a_present, .ref a_gambler_trial])), (a_folk, .inr (0, [.int z_folk_planks, .int z_folk_size, .int z_folk_sworn, .ref a_folk_bank, .ref a_folk_kind, .ref a_folk_word, .ref a_folk_slow, .ref a_folk_told])), (a_strength, .inr (7, [.ref a_folk, .ref a_strength_borne])), (a_present, .inr (5, [.int z_present_day, .int z_present_crossed, .ref a_present_came, .ref a_present_under, .ref a_present_due])), (a_present_came, .inl (cI, 8, .inl z_present_came)), (a_strength_borne, .inl (cI, 512, .inl z_strength_borne)), (a_gambler_trial, .inr (5, [.int o_z_gambler_trial_day, .int o_z_gambler_trial_crossed, .ref a_gambler_trial_came, .ref a_gambler_trial_under, .ref a_gambler_trial_due])), (a_gambler_trial_came, .inl (cI, 8, .inl o_z_gambler_trial_came)), (a_present_under, .inl (cI, 8, .inl z_present_under)), (a_gambler_trial_under, .inl (cI, 8, .inl o_z_gambler_trial_under)), (a_present_due, .inl (cI, 64, .inl z_present_due)), (a_gambler_trial_due, .inl (cI, 64, .inl o_z_gambler_trial_due))] (inW [(a_this, .inr (8, [.ref a_letters, .int z_typed, .ref a_draft, .ref a_folk, .ref a_reader, .ref a_strength, .ref a_present, .ref a_history, .ref a_images, .ref a_kept, .ref a_planner, .ref a_gambler, .ref a_guesser, .long z_traced])), (a_gambler, .inr (1, [.ref a_folk, .ref a_strength, .ref a_present, .ref a_gambler_trial])), (a_folk, .inr (0, [.int z_folk_planks, .int z_folk_size, .int z_folk_sworn, .ref a_folk_bank, .ref a_folk_kind, .ref a_folk_word, .ref a_folk_slow, .ref a_folk_told])), (a_strength, .inr (7, [.ref a_folk, .ref a_strength_borne])), (a_present, .inr (5, [.int z_present_day, .int z_present_crossed, .ref a_present_came, .ref a_present_under, .ref a_present_due])), (a_present_came, .inl (cI, 8, .inl z_present_came)), (a_strength_borne, .inl (cI, 512, .inl z_strength_borne)), (a_gambler_trial, .inr (5, [.int z_gambler_trial_day, .int z_gambler_trial_crossed, .ref a_gambler_trial_came, .ref a_gambler_trial_under, .ref a_gambler_trial_due])), (a_gambler_trial_came, .inl (cI, 8, .inl z_gambler_trial_came)), (a_present_under, .inl (cI, 8, .inl z_present_under)), (a_gambler_trial_under, .inl (cI, 8, .inl z_gambler_trial_under)), (a_present_due, .inl (cI, 64, .inl z_present_due)), (a_gambler_trial_due, .inl (cI, 64, .inl z_gambler_trial_due))])) 0 0 (inW [(a_this, .inr (8, [.ref a_letters, .int z_typed, .ref a_draft, .ref a_folk, .ref a_reader, .ref a_strength, .ref a_present, .ref a_history, .ref a_images, .ref a_kept, .ref a_planner, .ref a_gambler, .ref a_guesser, .long z_traced])), (a_gambler, .inr (1, [.ref a_folk, .ref a_strength, .ref a_present, .ref a_gambler_trial])), (a_folk, .inr (0, [.int z_folk_planks, .int z_folk_size, .int z_folk_sworn, .ref a_folk_bank, .ref a_folk_kind, .ref a_folk_word, .ref a_folk_slow, .ref a_folk_told])), (a_strength, .inr (7, [.ref a_folk, .ref a_strength_borne])), (a_present, .inr (5, [.int z_present_day, .int z_present_crossed, .ref a_present_came, .ref a_present_under, .ref a_present_due])), (a_present_came, .inl (cI, 8, .inl z_present_came)), (a_strength_borne, .inl (cI, 512, .inl z_strength_borne)), (a_gambler_trial, .inr (5, [.int z_gambler_trial_day, .int z_gambler_trial_crossed, .ref a_gambler_trial_came, .ref a_gambler_trial_under, .ref a_gambler_trial_due])), (a_gambler_trial_came, .inl (cI, 8, .inl z_gambler_trial_came)), (a_present_under, .inl (cI, 8, .inl z_present_under)), (a_gambler_trial_under, .inl (cI, 8, .inl z_gambler_trial_under)), (a_present_due, .inl (cI, 64, .inl z_present_due)), (a_gambler_trial_due, .inl (cI, 64, .inl z_gambler_trial_due))]) := by
  refine Met.ofW (cc := cX8_byTurns) (maxL := 2) (ret := (some .int)) (by decide) rfl ?_
  intro p e s m args below meth c s₁ B hml hv
  obtain ⟨rfl, hP, hKW, hD0⟩ := hv
  have hx := B.exec
  have hb := B.bytes
  have hr := B.returns
  have hts : ∀ w ∈ TB, w.before ([.ref a_this, .int p1] : List Value).toArray s = true := fun w h => atoms_spec (ws := .code yX8_byTurns cX8_byTurns 2 (some .int) :: TB) B.pre w (List.mem_cons_of_mem _ h)
  have hown : s.vm.findClass RX8 = some m.cls := findClass_of_methodNamed B.named
  have hlocks := B.notSynchronized
  have hK := hKW.1
  have hD := inW_D hD0
  generalize hAe : inW [(a_this, .inr (8, [.ref a_letters, .int z_typed, .ref a_draft, .ref a_folk, .ref a_reader, .ref a_strength, .ref a_present, .ref a_history, .ref a_images, .ref a_kept, .ref a_planner, .ref a_gambler, .ref a_guesser, .long z_traced])), (a_gambler, .inr (1, [.ref a_folk, .ref a_strength, .ref a_present, .ref a_gambler_trial])), (a_folk, .inr (0, [.int z_folk_planks, .int z_folk_size, .int z_folk_sworn, .ref a_folk_bank, .ref a_folk_kind, .ref a_folk_word, .ref a_folk_slow, .ref a_folk_told])), (a_strength, .inr (7, [.ref a_folk, .ref a_strength_borne])), (a_present, .inr (5, [.int z_present_day, .int z_present_crossed, .ref a_present_came, .ref a_present_under, .ref a_present_due])), (a_present_came, .inl (cI, 8, .inl z_present_came)), (a_strength_borne, .inl (cI, 512, .inl z_strength_borne)), (a_gambler_trial, .inr (5, [.int z_gambler_trial_day, .int z_gambler_trial_crossed, .ref a_gambler_trial_came, .ref a_gambler_trial_under, .ref a_gambler_trial_due])), (a_gambler_trial_came, .inl (cI, 8, .inl z_gambler_trial_came)), (a_present_under, .inl (cI, 8, .inl z_present_under)), (a_gambler_trial_under, .inl (cI, 8, .inl z_gambler_trial_under)), (a_present_due, .inl (cI, 64, .inl z_present_due)), (a_gambler_trial_due, .inl (cI, 64, .inl z_gambler_trial_due))] = A at hD ⊢
  have hS : va_S A s.heap s.heap [] := va_S.rf
  have hl := lv_entry [.ref a_this, .int p1] (n := 2) (Nat.le_of_ble_eq_true rfl)
  rw [lg_entry_eq]
  generalize (lg_sl [.ref a_this, .int p1] ++ List.replicate (2 - (lg_sl [.ref a_this, .int p1]).length) Slot.unset).toArray = ls at hl ⊢
  have hl : lv_has ls 2 [(0, .ref a_this), (1, .int p1)] := hl
  show W p l e ({ frames := 5, cells := 0, slots := 0, locals := 118 } : Room) s m ([.ref a_this, .int p1] : List Value).toArray below meth c s.heap [] 0 0 (MQ below (rwQ D (some (.int r)) [(a_this, .inr (8, [.ref a_letters, .int z_typed, .ref a_draft, .ref a_folk, .ref a_reader, .ref a_strength, .ref a_present, .ref a_history, .ref a_images, .ref a_kept, .ref a_planner, .ref a_gambler, .ref a_guesser, .long z_traced])), (a_gambler, .inr (1, [.ref a_folk, .ref a_strength, .ref a_present, .ref a_gambler_trial])), (a_folk, .inr (0, [.int z_folk_planks, .int z_folk_size, .int z_folk_sworn, .ref a_folk_bank, .ref a_folk_kind, .ref a_folk_word, .ref a_folk_slow, .ref a_folk_told])), (a_strength, .inr (7, [.ref a_folk, .ref a_strength_borne])), (a_present, .inr (5, [.int z_present_day, .int z_present_crossed, .ref a_present_came, .ref a_present_under, .ref a_present_due])), (a_present_came, .inl (cI, 8, .inl z_present_came)), (a_strength_borne, .inl (cI, 512, .inl z_strength_borne)), (a_gambler_trial, .inr (5, [.int o_z_gambler_trial_day, .int o_z_gambler_trial_crossed, .ref a_gambler_trial_came, .ref a_gambler_trial_under, .ref a_gambler_trial_due])), (a_gambler_trial_came, .inl (cI, 8, .inl o_z_gambler_trial_came)), (a_present_under, .inl (cI, 8, .inl z_present_under)), (a_gambler_trial_under, .inl (cI, 8, .inl o_z_gambler_trial_under)), (a_present_due, .inl (cI, 64, .inl z_present_due)), (a_gambler_trial_due, .inl (cI, 64, .inl o_z_gambler_trial_due))] A) ([.ref a_this, .int p1] : List Value).toArray s 0 0 A) (F0 m 0 ls [])
  have hP : va_P D vwCl [(a_this, .inr (8, [.ref a_letters, .int z_typed, .ref a_draft, .ref a_folk, .ref a_reader, .ref a_strength, .ref a_present, .ref a_history, .ref a_images, .ref a_kept, .ref a_planner, .ref a_gambler, .ref a_guesser, .long z_traced])), (a_gambler, .inr (1, [.ref a_folk, .ref a_strength, .ref a_present, .ref a_gambler_trial])), (a_folk, .inr (0, [.int z_folk_planks, .int z_folk_size, .int z_folk_sworn, .ref a_folk_bank, .ref a_folk_kind, .ref a_folk_word, .ref a_folk_slow, .ref a_folk_told])), (a_strength, .inr (7, [.ref a_folk, .ref a_strength_borne])), (a_present, .inr (5, [.int z_present_day, .int z_present_crossed, .ref a_present_came, .ref a_present_under, .ref a_present_due])), (a_present_came, .inl (cI, 8, .inl z_present_came)), (a_strength_borne, .inl (cI, 512, .inl z_strength_borne)), (a_gambler_trial, .inr (5, [.int z_gambler_trial_day, .int z_gambler_trial_crossed, .ref a_gambler_trial_came, .ref a_gambler_trial_under, .ref a_gambler_trial_due])), (a_gambler_trial_came, .inl (cI, 8, .inl z_gambler_trial_came)), (a_present_under, .inl (cI, 8, .inl z_present_under)), (a_gambler_trial_under, .inl (cI, 8, .inl z_gambler_trial_under)), (a_present_due, .inl (cI, 64, .inl z_present_due)), (a_gambler_trial_due, .inl (cI, 64, .inl z_gambler_trial_due))] s.heap := hP
  have hD : va_D A [(a_this, .inr (8, [.ref a_letters, .int z_typed, .ref a_draft, .ref a_folk, .ref a_reader, .ref a_strength, .ref a_present, .ref a_history, .ref a_images, .ref a_kept, .ref a_planner, .ref a_gambler, .ref a_guesser, .long z_traced])), (a_gambler, .inr (1, [.ref a_folk, .ref a_strength, .ref a_present, .ref a_gambler_trial])), (a_folk, .inr (0, [.int z_folk_planks, .int z_folk_size, .int z_folk_sworn, .ref a_folk_bank, .ref a_folk_kind, .ref a_folk_word, .ref a_folk_slow, .ref a_folk_told])), (a_strength, .inr (7, [.ref a_folk, .ref a_strength_borne])), (a_present, .inr (5, [.int z_present_day, .int z_present_crossed, .ref a_present_came, .ref a_present_under, .ref a_present_due])), (a_present_came, .inl (cI, 8, .inl z_present_came)), (a_strength_borne, .inl (cI, 512, .inl z_strength_borne)), (a_gambler_trial, .inr (5, [.int z_gambler_trial_day, .int z_gambler_trial_crossed, .ref a_gambler_trial_came, .ref a_gambler_trial_under, .ref a_gambler_trial_due])), (a_gambler_trial_came, .inl (cI, 8, .inl z_gambler_trial_came)), (a_present_under, .inl (cI, 8, .inl z_present_under)), (a_gambler_trial_under, .inl (cI, 8, .inl z_gambler_trial_under)), (a_present_due, .inl (cI, 64, .inl z_present_due)), (a_gambler_trial_due, .inl (cI, 64, .inl z_gambler_trial_due))] := hD
  unfold fX8_byTurns at hf
  obtain ⟨H, hH⟩ : ∃ H, H = s.heap := ⟨_, rfl⟩
  obtain ⟨locs, hlo⟩ : ∃ q : List Loc, q = [] := ⟨_, rfl⟩
  have hS : va_S A s.heap H locs := by rw [hH, hlo]; exact hS
  rw [← hH] at hP
  suffices hgo : W p l e ({ frames := 5, cells := 0, slots := 0, locals := 118 } : Room) s m ([.ref a_this, .int p1] : List Value).toArray below meth c H locs 0 0 (MQ below (rwQ D (some (.int r)) [(a_this, .inr (8, [.ref a_letters, .int z_typed, .ref a_draft, .ref a_folk, .ref a_reader, .ref a_strength, .ref a_present, .ref a_history, .ref a_images, .ref a_kept, .ref a_planner, .ref a_gambler, .ref a_guesser, .long z_traced])), (a_gambler, .inr (1, [.ref a_folk, .ref a_strength, .ref a_present, .ref a_gambler_trial])), (a_folk, .inr (0, [.int z_folk_planks, .int z_folk_size, .int z_folk_sworn, .ref a_folk_bank, .ref a_folk_kind, .ref a_folk_word, .ref a_folk_slow, .ref a_folk_told])), (a_strength, .inr (7, [.ref a_folk, .ref a_strength_borne])), (a_present, .inr (5, [.int z_present_day, .int z_present_crossed, .ref a_present_came, .ref a_present_under, .ref a_present_due])), (a_present_came, .inl (cI, 8, .inl z_present_came)), (a_strength_borne, .inl (cI, 512, .inl z_strength_borne)), (a_gambler_trial, .inr (5, [.int o_z_gambler_trial_day, .int o_z_gambler_trial_crossed, .ref a_gambler_trial_came, .ref a_gambler_trial_under, .ref a_gambler_trial_due])), (a_gambler_trial_came, .inl (cI, 8, .inl o_z_gambler_trial_came)), (a_present_under, .inl (cI, 8, .inl z_present_under)), (a_gambler_trial_under, .inl (cI, 8, .inl o_z_gambler_trial_under)), (a_present_due, .inl (cI, 64, .inl z_present_due)), (a_gambler_trial_due, .inl (cI, 64, .inl o_z_gambler_trial_due))] A) ([.ref a_this, .int p1] : List Value).toArray s 0 0 A) (F0 m 0 ls []) by rw [hH, hlo] at hgo; exact hgo
  clear hH hlo
  refine lv_iload_n hx hb dX8_byTurns_0 rfl (lv_at hl 1 rfl) ?_
  refine lv_iconst (v := 0) hx hb dX8_byTurns_1 (by decide) ?_
  refine lv_iconst (v := 3) hx hb dX8_byTurns_2 (by decide) ?_
  obtain ⟨v1, hv1, hf⟩ := ob hf
  refine kX8_within hx hb hml hown hts hKW q334  hv1 hl.1 (Nat.le_of_ble_eq_true rfl) ⟨Nat.le_of_ble_eq_true rfl, Nat.le_of_ble_eq_true rfl⟩ ⟨Nat.zero_le _, Nat.zero_le _⟩ dX8_byTurns_3 ?_
  refine lv_if_eq (tgt := 20) hx hb dX8_byTurns_6 (by decide) (fun c2 => ?_) (fun c2 => ?_)
  · replace hf := it hf c2
    refine lv_iconst (v := -1) hx hb dX8_byTurns_20 (by decide) ?_
    cases hf
    exact W.iret hx hb hr (fun t ht _ => ⟨rfl, by rw [ht]; exact hP, hS.F ht⟩) hS.2.2 dX8_byTurns_21
  · replace hf := ie hf c2
    refine lv_aload_n hx hb dX8_byTurns_9 rfl (lv_at hl 0 rfl) ?_
    refine va_get (D := D) (ci := 8) (v := .ref a_gambler) (C := RX8) (T := TX8) (N := 14) hx hb hts inTX8 hown hK hP 0 rfl rfl 11 (by decide) (hts _ q298) (fun _ h9 => h9) rfl dX8_byTurns_10 ?_
    refine lv_iload_n hx hb dX8_byTurns_13 rfl (lv_at hl 1 rfl) ?_
    obtain ⟨⟨v3, g4, g5, g6, g7, g8⟩, hv3, hf⟩ := ob hf
    dsimp only at hf
    refine kX1_afterTurns hx hb hml hown hts hKW q729 hP hD hS [1, 2, 3, 4, 5, 6, 7, 8, 9, 10, 11, 12] rfl (by decide) hv3 hl.1 (Nat.le_of_ble_eq_true rfl) ⟨Nat.le_of_ble_eq_true rfl, Nat.le_of_ble_eq_true rfl⟩ ⟨Nat.zero_le _, Nat.zero_le _⟩ dX8_byTurns_14 (fun H locs hP hD hS => ?_)
    have hP : va_P D vwCl [(a_this, .inr (8, [.ref a_letters, .int z_typed, .ref a_draft, .ref a_folk, .ref a_reader, .ref a_strength, .ref a_present, .ref a_history, .ref a_images, .ref a_kept, .ref a_planner, .ref a_gambler, .ref a_guesser, .long z_traced])), (a_gambler, .inr (1, [.ref a_folk, .ref a_strength, .ref a_present, .ref a_gambler_trial])), (a_folk, .inr (0, [.int z_folk_planks, .int z_folk_size, .int z_folk_sworn, .ref a_folk_bank, .ref a_folk_kind, .ref a_folk_word, .ref a_folk_slow, .ref a_folk_told])), (a_strength, .inr (7, [.ref a_folk, .ref a_strength_borne])), (a_present, .inr (5, [.int z_present_day, .int z_present_crossed, .ref a_present_came, .ref a_present_under, .ref a_present_due])), (a_present_came, .inl (cI, 8, .inl z_present_came)), (a_strength_borne, .inl (cI, 512, .inl z_strength_borne)), (a_gambler_trial, .inr (5, [.int g7, .int g8, .ref a_gambler_trial_came, .ref a_gambler_trial_under, .ref a_gambler_trial_due])), (a_gambler_trial_came, .inl (cI, 8, .inl g4)), (a_present_under, .inl (cI, 8, .inl z_present_under)), (a_gambler_trial_under, .inl (cI, 8, .inl g5)), (a_present_due, .inl (cI, 64, .inl z_present_due)), (a_gambler_trial_due, .inl (cI, 64, .inl g6))] H := hP
    have hD : va_D A [(a_this, .inr (8, [.ref a_letters, .int z_typed, .ref a_draft, .ref a_folk, .ref a_reader, .ref a_strength, .ref a_present, .ref a_history, .ref a_images, .ref a_kept, .ref a_planner, .ref a_gambler, .ref a_guesser, .long z_traced])), (a_gambler, .inr (1, [.ref a_folk, .ref a_strength, .ref a_present, .ref a_gambler_trial])), (a_folk, .inr (0, [.int z_folk_planks, .int z_folk_size, .int z_folk_sworn, .ref a_folk_bank, .ref a_folk_kind, .ref a_folk_word, .ref a_folk_slow, .ref a_folk_told])), (a_strength, .inr (7, [.ref a_folk, .ref a_strength_borne])), (a_present, .inr (5, [.int z_present_day, .int z_present_crossed, .ref a_present_came, .ref a_present_under, .ref a_present_due])), (a_present_came, .inl (cI, 8, .inl z_present_came)), (a_strength_borne, .inl (cI, 512, .inl z_strength_borne)), (a_gambler_trial, .inr (5, [.int g7, .int g8, .ref a_gambler_trial_came, .ref a_gambler_trial_under, .ref a_gambler_trial_due])), (a_gambler_trial_came, .inl (cI, 8, .inl g4)), (a_present_under, .inl (cI, 8, .inl z_present_under)), (a_gambler_trial_under, .inl (cI, 8, .inl g5)), (a_present_due, .inl (cI, 64, .inl z_present_due)), (a_gambler_trial_due, .inl (cI, 64, .inl g6))] := hD
    refine lv_goto (tgt := 21) hx hb dX8_byTurns_17 (by decide) ?_
    cases hf
    exact W.iret hx hb hr (fun t ht _ => ⟨rfl, by rw [ht]; exact hP, hS.F ht⟩) hS.2.2 dX8_byTurns_21
theorem kX8_byTurns {p : Program} {l : Launch} {e : Env} {R : Room} {s : State} {m : MethodId} {args : Array Value} {below : List Frame} {meth : Method} {c : Code} {H : Heap} {locs : List Loc} {cells slots : Nat} {Q : State → Prop} {cc : ByteArray} {nL pc index : Nat} {ls : Array Slot} {rest : List Value} {own : String} {D : va_G} {cI cZ cQ : ClassId} {a_this a_letters a_draft a_folk a_reader a_strength a_present a_history a_images a_kept a_planner a_gambler a_guesser a_gambler_trial a_folk_bank a_folk_kind a_folk_word a_folk_slow a_folk_told a_strength_borne a_present_came a_present_under a_present_due a_gambler_trial_came a_gambler_trial_under a_gambler_trial_due : Nat} {z_typed z_folk_planks z_folk_size z_folk_sworn z_present_day z_present_crossed z_gambler_trial_day z_gambler_trial_crossed p1 : Int32} {z_traced : Int64} {z_present_came z_strength_borne z_gambler_trial_came z_present_under z_gambler_trial_under z_present_due z_gambler_trial_due : Nat → Int32} {fu : Nat} {r : Int32} {o_z_gambler_trial_day o_z_gambler_trial_crossed : Int32} {o_z_gambler_trial_came o_z_gambler_trial_under o_z_gambler_trial_due : Nat → Int32} (hx : p.tables.exec = Jvm.exec) (hb : c.code = cc) (hml : c.maxLocals = nL) (hown : s.vm.findClass own = some m.cls) (hts : ∀ w ∈ TB, w.before args s = true) (hKW : KW D (TY cI cZ cQ) s) (hlk : Cond.methodLink own index yX8_byTurns ∈ TB) {ws : va_W} {A : Nat → Prop} {H0 : Heap} (hP : va_P D vwCl ws H) (hD : va_D A ws) (hS : va_S A H0 H locs) (is : List Nat) (hC : is.map (fun i => ws[i]?) = ([(a_this, .inr (8, [.ref a_letters, .int z_typed, .ref a_draft, .ref a_folk, .ref a_reader, .ref a_strength, .ref a_present, .ref a_history, .ref a_images, .ref a_kept, .ref a_planner, .ref a_gambler, .ref a_guesser, .long z_traced])), (a_gambler, .inr (1, [.ref a_folk, .ref a_strength, .ref a_present, .ref a_gambler_trial])), (a_folk, .inr (0, [.int z_folk_planks, .int z_folk_size, .int z_folk_sworn, .ref a_folk_bank, .ref a_folk_kind, .ref a_folk_word, .ref a_folk_slow, .ref a_folk_told])), (a_strength, .inr (7, [.ref a_folk, .ref a_strength_borne])), (a_present, .inr (5, [.int z_present_day, .int z_present_crossed, .ref a_present_came, .ref a_present_under, .ref a_present_due])), (a_present_came, .inl (cI, 8, .inl z_present_came)), (a_strength_borne, .inl (cI, 512, .inl z_strength_borne)), (a_gambler_trial, .inr (5, [.int z_gambler_trial_day, .int z_gambler_trial_crossed, .ref a_gambler_trial_came, .ref a_gambler_trial_under, .ref a_gambler_trial_due])), (a_gambler_trial_came, .inl (cI, 8, .inl z_gambler_trial_came)), (a_present_under, .inl (cI, 8, .inl z_present_under)), (a_gambler_trial_under, .inl (cI, 8, .inl z_gambler_trial_under)), (a_present_due, .inl (cI, 64, .inl z_present_due)), (a_gambler_trial_due, .inl (cI, 64, .inl z_gambler_trial_due))] : va_W).map some) (hnd : va_nd is = true) (hf : fX8_byTurns fu z_folk_size z_present_came z_strength_borne z_folk_planks z_present_day z_present_crossed z_present_under z_present_due z_gambler_trial_came z_gambler_trial_under z_gambler_trial_due z_gambler_trial_day z_gambler_trial_crossed p1 = some (r, o_z_gambler_trial_came, o_z_gambler_trial_under, o_z_gambler_trial_due, o_z_gambler_trial_day, o_z_gambler_trial_crossed)) (hn : ls.size = nL) (hW : (rest.map fun v => v.category).sum ≤ 8) (hR : 5 + 1 ≤ R.frames ∧ 8 + (2 + 11) + 118 ≤ R.locals) (hcs : cells ≤ R.cells ∧ slots ≤ R.slots) (hdg : decode cc pc = .ok (.invokevirtual index, 3)) (kk : ∀ (H1 : Heap) (locs1 : List Loc), va_P D vwCl (rpl ws is [(a_this, .inr (8, [.ref a_letters, .int z_typed, .ref a_draft, .ref a_folk, .ref a_reader, .ref a_strength, .ref a_present, .ref a_history, .ref a_images, .ref a_kept, .ref a_planner, .ref a_gambler, .ref a_guesser, .long z_traced])), (a_gambler, .inr (1, [.ref a_folk, .ref a_strength, .ref a_present, .ref a_gambler_trial])), (a_folk, .inr (0, [.int z_folk_planks, .int z_folk_size, .int z_folk_sworn, .ref a_folk_bank, .ref a_folk_kind, .ref a_folk_word, .ref a_folk_slow, .ref a_folk_told])), (a_strength, .inr (7, [.ref a_folk, .ref a_strength_borne])), (a_present, .inr (5, [.int z_present_day, .int z_present_crossed, .ref a_present_came, .ref a_present_under, .ref a_present_due])), (a_present_came, .inl (cI, 8, .inl z_present_came)), (a_strength_borne, .inl (cI, 512, .inl z_strength_borne)), (a_gambler_trial, .inr (5, [.int o_z_gambler_trial_day, .int o_z_gambler_trial_crossed, .ref a_gambler_trial_came, .ref a_gambler_trial_under, .ref a_gambler_trial_due])), (a_gambler_trial_came, .inl (cI, 8, .inl o_z_gambler_trial_came)), (a_present_under, .inl (cI, 8, .inl z_present_under)), (a_gambler_trial_under, .inl (cI, 8, .inl o_z_gambler_trial_under)), (a_present_due, .inl (cI, 64, .inl z_present_due)), (a_gambler_trial_due, .inl (cI, 64, .inl o_z_gambler_trial_due))]) H1 → va_D A (rpl ws is [(a_this, .inr (8, [.ref a_letters, .int z_typed, .ref a_draft, .ref a_folk, .ref a_reader, .ref a_strength, .ref a_present, .ref a_history, .ref a_images, .ref a_kept, .ref a_planner, .ref a_gambler, .ref a_guesser, .long z_traced])), (a_gambler, .inr (1, [.ref a_folk, .ref a_strength, .ref a_present, .ref a_gambler_trial])), (a_folk, .inr (0, [.int z_folk_planks, .int z_folk_size, .int z_folk_sworn, .ref a_folk_bank, .ref a_folk_kind, .ref a_folk_word, .ref a_folk_slow, .ref a_folk_told])), (a_strength, .inr (7, [.ref a_folk, .ref a_strength_borne])), (a_present, .inr (5, [.int z_present_day, .int z_present_crossed, .ref a_present_came, .ref a_present_under, .ref a_present_due])), (a_present_came, .inl (cI, 8, .inl z_present_came)), (a_strength_borne, .inl (cI, 512, .inl z_strength_borne)), (a_gambler_trial, .inr (5, [.int o_z_gambler_trial_day, .int o_z_gambler_trial_crossed, .ref a_gambler_trial_came, .ref a_gambler_trial_under, .ref a_gambler_trial_due])), (a_gambler_trial_came, .inl (cI, 8, .inl o_z_gambler_trial_came)), (a_present_under, .inl (cI, 8, .inl z_present_under)), (a_gambler_trial_under, .inl (cI, 8, .inl o_z_gambler_trial_under)), (a_present_due, .inl (cI, 64, .inl z_present_due)), (a_gambler_trial_due, .inl (cI, 64, .inl o_z_gambler_trial_due))]) → va_S A H0 H1 locs1 → W p l e R s m args below meth c H1 locs1 cells slots Q (F0 m (pc + 3) ls (.int r :: rest))) : W p l e R s m args below meth c H locs cells slots Q (F0 m pc ls (.int p1 :: .ref a_this :: rest)) :=
  x_rw (va_runV (As := [.int p1]) (rest := rest) ⟨hx, hb, hml, hown, hts⟩ (tX8_byTurns hf) (cwV 1 hts (tb_V hlk q726 q727 q39 q728) rfl rfl rfl (by decide +kernel) hR) ⟨rwB, va_recv hKW.1 (subP hP hC) (ci := 8) (q0 := 0) rfl rfl, fun U hU hW => ⟨rfl, by rw [hU]; exact subP hP hC, hKW.warm hW, subD hD hC hnd⟩⟩ rfl rfl hn rfl (lv_room hW) hdg hcs) hP hD hS is hC rfl kk

-- HalfPlanks.odds(III)I
def fX8_odds_b80 (fu : Nat) (z_folk_size : Int32) (z_present_came : Nat → Int32) (z_strength_borne : Nat → Int32) (z_folk_planks : Int32) (l6 : Int32) (s0 : Int32) : Option (Int32) :=
  (dvI s0 l6).bind fun v12 =>
  some (v12)
def fX8_odds (fu : Nat) (z_folk_size : Int32) (z_present_came : Nat → Int32) (z_strength_borne : Nat → Int32) (z_folk_planks : Int32) (p1 : Int32) (p2 : Int32) (p3 : Int32) : Option (Int32) :=
  (fX8_within fu p1 0 10).bind fun v1 =>
  (if v1 = 0 then
  some ((-1))
  else
  (fX8_isLoad fu p2).bind fun v3 =>
  (if v3 = 0 then
  some ((-1))
  else
  (fX8_within fu p3 0 1).bind fun v5 =>
  (if v5 = 0 then
  some ((-1))
  else
  (fX1_chancesFor fu z_folk_size z_present_came z_strength_borne z_folk_planks p1 p2).bind fun v7 =>
  (fX8_power fu 10 z_folk_size).bind fun v8 =>
  (fX8_commonDivisor fu v7 v8).bind fun v9 =>
  (if 0 < v9 then
  (if p3 = 0 then
  fX8_odds_b80 fu z_folk_size z_present_came z_strength_borne z_folk_planks v9 v7
  else
  fX8_odds_b80 fu z_folk_size z_present_came z_strength_borne z_folk_planks v9 v8)
  else
  some ((-1))))))
set_option maxHeartbeats 4000000 in
set_option maxRecDepth 100000 in
theorem tX8_odds {l : Launch} {D : va_G} {cI cZ cQ : ClassId} {a_this a_letters a_draft a_folk a_reader a_strength a_present a_history a_images a_kept a_planner a_gambler a_guesser a_gambler_trial a_folk_bank a_folk_kind a_folk_word a_folk_slow a_folk_told a_strength_borne a_present_came a_present_under a_present_due : Nat} {z_typed z_folk_planks z_folk_size z_folk_sworn z_present_day z_present_crossed p1 p2 p3 : Int32} {z_traced : Int64} {z_present_came z_strength_borne : Nat → Int32} {fu : Nat} {r : Int32} (hf : fX8_odds fu z_folk_size z_present_came z_strength_borne z_folk_planks p1 p2 p3 = some (r)) : Met l yX8_odds (.code yX8_odds cX8_odds 7 (some .int) :: TB) ({ frames := 3, cells := 0, slots := 0, locals := 71 } : Room) (roP D (TY cI cZ cQ) [(a_this, .inr (8, [.ref a_letters, .int z_typed, .ref a_draft, .ref a_folk, .ref a_reader, .ref a_strength, .ref a_present, .ref a_history, .ref a_images, .ref a_kept, .ref a_planner, .ref a_gambler, .ref a_guesser, .long z_traced])), (a_gambler, .inr (1, [.ref a_folk, .ref a_strength, .ref a_present, .ref a_gambler_trial])), (a_folk, .inr (0, [.int z_folk_planks, .int z_folk_size, .int z_folk_sworn, .ref a_folk_bank, .ref a_folk_kind, .ref a_folk_word, .ref a_folk_slow, .ref a_folk_told])), (a_strength, .inr (7, [.ref a_folk, .ref a_strength_borne])), (a_present, .inr (5, [.int z_present_day, .int z_present_crossed, .ref a_present_came, .ref a_present_under, .ref a_present_due])), (a_present_came, .inl (cI, 8, .inl z_present_came)), (a_strength_borne, .inl (cI, 512, .inl z_strength_borne))] [.ref a_this, .int p1, .int p2, .int p3]) (roQ (some (.int r))) 0 0 (fun _ => False) := by
  refine Met.ofW (cc := cX8_odds) (maxL := 7) (ret := (some .int)) (by decide) rfl ?_
  intro p e s m args below meth c s₁ B hml hv
  obtain ⟨rfl, hP, hKW⟩ := hv
  have hx := B.exec
  have hb := B.bytes
  have hr := B.returns
  have hts : ∀ w ∈ TB, w.before ([.ref a_this, .int p1, .int p2, .int p3] : List Value).toArray s = true := fun w h => atoms_spec (ws := .code yX8_odds cX8_odds 7 (some .int) :: TB) B.pre w (List.mem_cons_of_mem _ h)
  have hown : s.vm.findClass RX8 = some m.cls := findClass_of_methodNamed B.named
  have hlocks := B.notSynchronized
  have hK := hKW.1
  have hl := lv_entry [.ref a_this, .int p1, .int p2, .int p3] (n := 7) (Nat.le_of_ble_eq_true rfl)
  rw [lg_entry_eq]
  generalize (lg_sl [.ref a_this, .int p1, .int p2, .int p3] ++ List.replicate (7 - (lg_sl [.ref a_this, .int p1, .int p2, .int p3]).length) Slot.unset).toArray = ls at hl ⊢
  have hl : lv_has ls 7 [(0, .ref a_this), (1, .int p1), (2, .int p2), (3, .int p3)] := hl
  show W p l e ({ frames := 3, cells := 0, slots := 0, locals := 71 } : Room) s m ([.ref a_this, .int p1, .int p2, .int p3] : List Value).toArray below meth c s.heap [] 0 0 (MQ below (roQ (some (.int r))) ([.ref a_this, .int p1, .int p2, .int p3] : List Value).toArray s 0 0 (fun _ => False)) (F0 m 0 ls [])
  have hB80 : ∀ (l6 : Int32) (s0 : Int32) (ls : Array Slot), lv_has ls 7 [(6, .int l6)] → fX8_odds_b80 fu z_folk_size z_present_came z_strength_borne z_folk_planks l6 s0 = some (r) → W p l e ({ frames := 3, cells := 0, slots := 0, locals := 71 } : Room) s m ([.ref a_this, .int p1, .int p2, .int p3] : List Value).toArray below meth c s.heap [] 0 0 (MQ below (roQ (some (.int r))) ([.ref a_this, .int p1, .int p2, .int p3] : List Value).toArray s 0 0 (fun _ => False)) (F0 m 80 ls [.int s0]) := by
    intro l6 s0 ls hl hf
    unfold fX8_odds_b80 at hf
    refine lv_iload hx hb dX8_odds_80 (lv_at hl 0 rfl) ?_
    obtain ⟨v12, hv12, hf⟩ := ob hf
    refine x_idiv hx hb dX8_odds_82 hv12 ?_
    cases hf
    exact W.iret hx hb hr (fun t ht _ => ⟨rfl, ht⟩) (fun q h => by cases h) dX8_odds_83
  unfold fX8_odds at hf
  refine lv_iload_n hx hb dX8_odds_0 rfl (lv_at hl 1 rfl) ?_
  refine lv_iconst (v := 0) hx hb dX8_odds_1 (by decide) ?_
  refine lv_bipush (v := 10) hx hb dX8_odds_2 (by decide) ?_
  obtain ⟨v1, hv1, hf⟩ := ob hf
  refine kX8_within hx hb hml hown hts hKW q334  hv1 hl.1 (Nat.le_of_ble_eq_true rfl) ⟨Nat.le_of_ble_eq_true rfl, Nat.le_of_ble_eq_true rfl⟩ ⟨Nat.zero_le _, Nat.zero_le _⟩ dX8_odds_4 ?_
  refine lv_if_eq (tgt := 26) hx hb dX8_odds_7 (by decide) (fun c2 => ?_) (fun c2 => ?_)
  · replace hf := it hf c2
    refine lv_iconst (v := -1) hx hb dX8_odds_26 (by decide) ?_
    cases hf
    exact W.iret hx hb hr (fun t ht _ => ⟨rfl, ht⟩) (fun q h => by cases h) dX8_odds_27
  · replace hf := ie hf c2
    refine lv_iload_n hx hb dX8_odds_10 rfl (lv_at hl 2 rfl) ?_
    obtain ⟨v3, hv3, hf⟩ := ob hf
    refine kX8_isLoad hx hb hml hown hts hKW q634  hv3 hl.1 (Nat.le_of_ble_eq_true rfl) ⟨Nat.le_of_ble_eq_true rfl, Nat.le_of_ble_eq_true rfl⟩ ⟨Nat.zero_le _, Nat.zero_le _⟩ dX8_odds_11 ?_
    refine lv_if_eq (tgt := 26) hx hb dX8_odds_14 (by decide) (fun c4 => ?_) (fun c4 => ?_)
    · replace hf := it hf c4
      refine lv_iconst (v := -1) hx hb dX8_odds_26 (by decide) ?_
      cases hf
      exact W.iret hx hb hr (fun t ht _ => ⟨rfl, ht⟩) (fun q h => by cases h) dX8_odds_27
    · replace hf := ie hf c4
      refine lv_iload_n hx hb dX8_odds_17 rfl (lv_at hl 3 rfl) ?_
      refine lv_iconst (v := 0) hx hb dX8_odds_18 (by decide) ?_
      refine lv_iconst (v := 1) hx hb dX8_odds_19 (by decide) ?_
      obtain ⟨v5, hv5, hf⟩ := ob hf
      refine kX8_within hx hb hml hown hts hKW q334  hv5 hl.1 (Nat.le_of_ble_eq_true rfl) ⟨Nat.le_of_ble_eq_true rfl, Nat.le_of_ble_eq_true rfl⟩ ⟨Nat.zero_le _, Nat.zero_le _⟩ dX8_odds_20 ?_
      refine lv_if_ne (tgt := 28) hx hb dX8_odds_23 (by decide) (fun c6 => ?_) (fun c6 => ?_)
      · replace hf := ie hf c6
        refine lv_aload_n hx hb dX8_odds_28 rfl (lv_at hl 0 rfl) ?_
        refine va_get (D := D) (ci := 8) (v := .ref a_gambler) (C := RX8) (T := TX8) (N := 14) hx hb hts inTX8 hown hK hP 0 rfl rfl 11 (by decide) (hts _ q298) (fun _ h9 => h9) rfl dX8_odds_29 ?_
        refine lv_iload_n hx hb dX8_odds_32 rfl (lv_at hl 1 rfl) ?_
        refine lv_iload_n hx hb dX8_odds_33 rfl (lv_at hl 2 rfl) ?_
        obtain ⟨v7, hv7, hf⟩ := ob hf
        refine kX1_chancesFor hx hb hml hown hts hKW q755 (hP.sub [1, 2, 3, 4, 5, 6] rfl) hv7 hl.1 (Nat.le_of_ble_eq_true rfl) ⟨Nat.le_of_ble_eq_true rfl, Nat.le_of_ble_eq_true rfl⟩ ⟨Nat.zero_le _, Nat.zero_le _⟩ dX8_odds_34 ?_
        refine lv_istore (lv' := [(4, .int v7), (0, .ref a_this), (1, .int p1), (2, .int p2), (3, .int p3)]) hx hb dX8_odds_37 hl (by decide) rfl (fun ls hl => ?_)
        refine lv_bipush (v := 10) hx hb dX8_odds_39 (by decide) ?_
        refine lv_aload_n hx hb dX8_odds_41 rfl (lv_at hl 1 rfl) ?_
        refine va_get (D := D) (ci := 8) (v := .ref a_folk) (C := RX8) (T := TX8) (N := 14) hx hb hts inTX8 hown hK hP 0 rfl rfl 3 (by decide) (hts _ q290) (fun _ h9 => h9) rfl dX8_odds_42 ?_
        refine va_get (D := D) (ci := 0) (v := .int z_folk_size) (C := RX0) (T := TX0) (N := 8) hx hb hts inTX0 hown hK hP 2 rfl rfl 1 (by decide) (hts _ q84) (fun _ h9 => h9) rfl dX8_odds_45 ?_
        obtain ⟨v8, hv8, hf⟩ := ob hf
        refine kX8_power hx hb hml hown hts hKW q764  hv8 hl.1 (Nat.le_of_ble_eq_true rfl) ⟨Nat.le_of_ble_eq_true rfl, Nat.le_of_ble_eq_true rfl⟩ ⟨Nat.zero_le _, Nat.zero_le _⟩ dX8_odds_48 ?_
        refine lv_istore (lv' := [(5, .int v8), (4, .int v7), (0, .ref a_this), (1, .int p1), (2, .int p2), (3, .int p3)]) hx hb dX8_odds_51 hl (by decide) rfl (fun ls hl => ?_)
        refine lv_iload hx hb dX8_odds_53 (lv_at hl 1 rfl) ?_
        refine lv_iload hx hb dX8_odds_55 (lv_at hl 0 rfl) ?_
        obtain ⟨v9, hv9, hf⟩ := ob hf
        refine kX8_commonDivisor hx hb hml hown hts hKW q765  hv9 hl.1 (Nat.le_of_ble_eq_true rfl) ⟨Nat.le_of_ble_eq_true rfl, Nat.le_of_ble_eq_true rfl⟩ ⟨Nat.zero_le _, Nat.zero_le _⟩ dX8_odds_57 ?_
        refine lv_istore (lv' := [(6, .int v9), (5, .int v8), (4, .int v7), (0, .ref a_this), (1, .int p1), (2, .int p2), (3, .int p3)]) hx hb dX8_odds_60 hl (by decide) rfl (fun ls hl => ?_)
        refine lv_iload hx hb dX8_odds_62 (lv_at hl 0 rfl) ?_
        refine lv_if_gt (tgt := 69) hx hb dX8_odds_64 (by decide) (fun c10 => ?_) (fun c10 => ?_)
        · replace hf := it hf c10
          refine lv_iload_n hx hb dX8_odds_69 rfl (lv_at hl 6 rfl) ?_
          refine lv_if_ne (tgt := 78) hx hb dX8_odds_70 (by decide) (fun c11 => ?_) (fun c11 => ?_)
          · replace hf := ie hf c11
            refine lv_iload hx hb dX8_odds_78 (lv_at hl 1 rfl) ?_
            exact hB80 v9 v8 ls (lv_sub hl [0] rfl) hf
          · replace hf := it hf c11
            refine lv_iload hx hb dX8_odds_73 (lv_at hl 2 rfl) ?_
            refine lv_goto (tgt := 80) hx hb dX8_odds_75 (by decide) ?_
            exact hB80 v9 v7 ls (lv_sub hl [0] rfl) hf
        · replace hf := ie hf c10
          refine lv_iconst (v := -1) hx hb dX8_odds_67 (by decide) ?_
          cases hf
          exact W.iret hx hb hr (fun t ht _ => ⟨rfl, ht⟩) (fun q h => by cases h) dX8_odds_68
      · replace hf := it hf c6
        refine lv_iconst (v := -1) hx hb dX8_odds_26 (by decide) ?_
        cases hf
        exact W.iret hx hb hr (fun t ht _ => ⟨rfl, ht⟩) (fun q h => by cases h) dX8_odds_27
theorem kX8_odds {p : Program} {l : Launch} {e : Env} {R : Room} {s : State} {m : MethodId} {args : Array Value} {below : List Frame} {meth : Method} {c : Code} {H : Heap} {locs : List Loc} {cells slots : Nat} {Q : State → Prop} {cc : ByteArray} {nL pc index : Nat} {ls : Array Slot} {rest : List Value} {own : String} {D : va_G} {cI cZ cQ : ClassId} {a_this a_letters a_draft a_folk a_reader a_strength a_present a_history a_images a_kept a_planner a_gambler a_guesser a_gambler_trial a_folk_bank a_folk_kind a_folk_word a_folk_slow a_folk_told a_strength_borne a_present_came a_present_under a_present_due : Nat} {z_typed z_folk_planks z_folk_size z_folk_sworn z_present_day z_present_crossed p1 p2 p3 : Int32} {z_traced : Int64} {z_present_came z_strength_borne : Nat → Int32} {fu : Nat} {r : Int32} (hx : p.tables.exec = Jvm.exec) (hb : c.code = cc) (hml : c.maxLocals = nL) (hown : s.vm.findClass own = some m.cls) (hts : ∀ w ∈ TB, w.before args s = true) (hKW : KW D (TY cI cZ cQ) s) (hlk : Cond.methodLink own index yX8_odds ∈ TB) (hP : va_P D vwCl [(a_this, .inr (8, [.ref a_letters, .int z_typed, .ref a_draft, .ref a_folk, .ref a_reader, .ref a_strength, .ref a_present, .ref a_history, .ref a_images, .ref a_kept, .ref a_planner, .ref a_gambler, .ref a_guesser, .long z_traced])), (a_gambler, .inr (1, [.ref a_folk, .ref a_strength, .ref a_present, .ref a_gambler_trial])), (a_folk, .inr (0, [.int z_folk_planks, .int z_folk_size, .int z_folk_sworn, .ref a_folk_bank, .ref a_folk_kind, .ref a_folk_word, .ref a_folk_slow, .ref a_folk_told])), (a_strength, .inr (7, [.ref a_folk, .ref a_strength_borne])), (a_present, .inr (5, [.int z_present_day, .int z_present_crossed, .ref a_present_came, .ref a_present_under, .ref a_present_due])), (a_present_came, .inl (cI, 8, .inl z_present_came)), (a_strength_borne, .inl (cI, 512, .inl z_strength_borne))] H) (hf : fX8_odds fu z_folk_size z_present_came z_strength_borne z_folk_planks p1 p2 p3 = some (r)) (hn : ls.size = nL) (hW : (rest.map fun v => v.category).sum ≤ 8) (hR : 3 + 1 ≤ R.frames ∧ 8 + (7 + 11) + 71 ≤ R.locals) (hcs : cells ≤ R.cells ∧ slots ≤ R.slots) (hdg : decode cc pc = .ok (.invokevirtual index, 3)) (kk : W p l e R s m args below meth c H locs cells slots Q (F0 m (pc + 3) ls (.int r :: rest))) : W p l e R s m args below meth c H locs cells slots Q (F0 m pc ls (.int p3 :: .int p2 :: .int p1 :: .ref a_this :: rest)) :=
  x_ret (va_runV (As := [.int p1, .int p2, .int p3]) (rest := rest) ⟨hx, hb, hml, hown, hts⟩ (tX8_odds hf) (cwV 3 hts (tb_V hlk q752 q753 q39 q754) rfl rfl rfl (by decide +kernel) hR) ⟨roB, va_recv hKW.1 hP (ci := 8) (q0 := 0) rfl rfl, fun U hU hW => ⟨rfl, by rw [hU]; exact hP, hKW.warm hW⟩⟩ rfl rfl hn rfl (lv_room hW) hdg hcs) kk

-- HalfPlanks.winter(III)I
def fX8_winter (fu : Nat) (z_present_day : Int32) (z_present_crossed : Int32) (z_present_came : Nat → Int32) (z_present_under : Nat → Int32) (z_present_due : Nat → Int32) (z_folk_size : Int32) (z_folk_planks : Int32) (z_folk_slow : Nat → Int32) (z_folk_bank : Nat → Int32) (z_strength_borne : Nat → Int32) (z_gambler_trial_came : Nat → Int32) (z_gambler_trial_under : Nat → Int32) (z_gambler_trial_due : Nat → Int32) (z_gambler_trial_day : Int32) (z_gambler_trial_crossed : Int32) (p1 : Int32) (p2 : Int32) (p3 : Int32) : Option (Int32 × (Nat → Int32) × (Nat → Int32) × (Nat → Int32) × Int32 × Int32) :=
  (fX8_within fu p1 0 60).bind fun v1 =>
  (if v1 = 0 then
  some ((-1), z_gambler_trial_came, z_gambler_trial_under, z_gambler_trial_due, z_gambler_trial_day, z_gambler_trial_crossed)
  else
  (fX8_within fu p2 1 999999).bind fun v3 =>
  (if v3 = 0 then
  some ((-1), z_gambler_trial_came, z_gambler_trial_under, z_gambler_trial_due, z_gambler_trial_day, z_gambler_trial_crossed)
  else
  (fX8_isLoad fu p3).bind fun v5 =>
  (if v5 = 0 then
  some ((-1), z_gambler_trial_came, z_gambler_trial_under, z_gambler_trial_due, z_gambler_trial_day, z_gambler_trial_crossed)
  else
  (fX1_daysBorne fu z_present_day z_present_crossed z_present_came z_present_under z_present_due z_folk_size z_folk_planks z_folk_slow z_folk_bank z_strength_borne z_gambler_trial_came z_gambler_trial_under z_gambler_trial_due z_gambler_trial_day z_gambler_trial_crossed p1 p2 p3).bind fun (v7, g8, g9, g10, g11, g12) =>
  some (v7, g8, g9, g10, g11, g12))))
set_option maxHeartbeats 4000000 in
set_option maxRecDepth 100000 in
theorem tX8_winter {l : Launch} {D : va_G} {cI cZ cQ : ClassId} {a_this a_letters a_draft a_folk a_reader a_strength a_present a_history a_images a_kept a_planner a_gambler a_guesser a_gambler_trial a_gambler_trial_came a_gambler_trial_under a_gambler_trial_due a_present_came a_present_under a_present_due a_folk_bank a_folk_kind a_folk_word a_folk_slow a_folk_told a_strength_borne : Nat} {z_typed z_gambler_trial_day z_gambler_trial_crossed z_present_day z_present_crossed z_folk_planks z_folk_size z_folk_sworn p1 p2 p3 : Int32} {z_traced : Int64} {z_present_came z_gambler_trial_came z_present_under z_gambler_trial_under z_present_due z_gambler_trial_due z_folk_slow z_folk_bank z_strength_borne : Nat → Int32} {fu : Nat} {r : Int32} {o_z_gambler_trial_day o_z_gambler_trial_crossed : Int32} {o_z_gambler_trial_came o_z_gambler_trial_under o_z_gambler_trial_due : Nat → Int32} (hf : fX8_winter fu z_present_day z_present_crossed z_present_came z_present_under z_present_due z_folk_size z_folk_planks z_folk_slow z_folk_bank z_strength_borne z_gambler_trial_came z_gambler_trial_under z_gambler_trial_due z_gambler_trial_day z_gambler_trial_crossed p1 p2 p3 = some (r, o_z_gambler_trial_came, o_z_gambler_trial_under, o_z_gambler_trial_due, o_z_gambler_trial_day, o_z_gambler_trial_crossed)) : Met l yX8_winter (.code yX8_winter cX8_winter 4 (some .int) :: TB) ({ frames := 5, cells := 0, slots := 0, locals := 120 } : Room) (rwP D (TY cI cZ cQ) [(a_this, .inr (8, [.ref a_letters, .int z_typed, .ref a_draft, .ref a_folk, .ref a_reader, .ref a_strength, .ref a_present, .ref a_history, .ref a_images, .ref a_kept, .ref a_planner, .ref a_gambler, .ref a_guesser, .long z_traced])), (a_gambler, .inr (1, [.ref a_folk, .ref a_strength, .ref a_present, .ref a_gambler_trial])), (a_gambler_trial, .inr (5, [.int z_gambler_trial_day, .int z_gambler_trial_crossed, .ref a_gambler_trial_came, .ref a_gambler_trial_under, .ref a_gambler_trial_due])), (a_present, .inr (5, [.int z_present_day, .int z_present_crossed, .ref a_present_came, .ref a_present_under, .ref a_present_due])), (a_present_came, .inl (cI, 8, .inl z_present_came)), (a_gambler_trial_came, .inl (cI, 8, .inl z_gambler_trial_came)), (a_present_under, .inl (cI, 8, .inl z_present_under)), (a_gambler_trial_under, .inl (cI, 8, .inl z_gambler_trial_under)), (a_present_due, .inl (cI, 64, .inl z_present_due)), (a_gambler_trial_due, .inl (cI, 64, .inl z_gambler_trial_due)), (a_folk, .inr (0, [.int z_folk_planks, .int z_folk_size, .int z_folk_sworn, .ref a_folk_bank, .ref a_folk_kind, .ref a_folk_word, .ref a_folk_slow, .ref a_folk_told])), (a_folk_slow, .inl (cI, 8, .inl z_folk_slow)), (a_folk_bank, .inl (cI, 8, .inl z_folk_bank)), (a_strength, .inr (7, [.ref a_folk, .ref a_strength_borne])), (a_strength_borne, .inl (cI, 512, .inl z_strength_borne))] [.ref a_this, .int p1, .int p2, .int p3]) (rwQ D (some (.int r)) [(a_this, .inr (8, [.ref a_letters, .int z_typed, .ref a_draft, .ref a_folk, .ref a_reader, .ref a_strength, .ref a_present, .ref a_history, .ref a_images, .ref a_kept, .ref a_planner, .ref a_gambler, .ref a_guesser, .long z_traced])), (a_gambler, .inr (1, [.ref a_folk, .ref a_strength, .ref a_present, .ref a_gambler_trial])), (a_gambler_trial, .inr (5, [.int o_z_gambler_trial_day, .int o_z_gambler_trial_crossed, .ref a_gambler_trial_came, .ref a_gambler_trial_under, .ref a_gambler_trial_due])), (a_present, .inr (5, [.int z_present_day, .int z_present_crossed, .ref a_present_came, .ref a_present_under, .ref a_present_due])), (a_present_came, .inl (cI, 8, .inl z_present_came)), (a_gambler_trial_came, .inl (cI, 8, .inl o_z_gambler_trial_came)), (a_present_under, .inl (cI, 8, .inl z_present_under)), (a_gambler_trial_under, .inl (cI, 8, .inl o_z_gambler_trial_under)), (a_present_due, .inl (cI, 64, .inl z_present_due)), (a_gambler_trial_due, .inl (cI, 64, .inl o_z_gambler_trial_due)), (a_folk, .inr (0, [.int z_folk_planks, .int z_folk_size, .int z_folk_sworn, .ref a_folk_bank, .ref a_folk_kind, .ref a_folk_word, .ref a_folk_slow, .ref a_folk_told])), (a_folk_slow, .inl (cI, 8, .inl z_folk_slow)), (a_folk_bank, .inl (cI, 8, .inl z_folk_bank)), (a_strength, .inr (7, [.ref a_folk, .ref a_strength_borne])), (a_strength_borne, .inl (cI, 512, .inl z_strength_borne))] (inW [(a_this, .inr (8, [.ref a_letters, .int z_typed, .ref a_draft, .ref a_folk, .ref a_reader, .ref a_strength, .ref a_present, .ref a_history, .ref a_images, .ref a_kept, .ref a_planner, .ref a_gambler, .ref a_guesser, .long z_traced])), (a_gambler, .inr (1, [.ref a_folk, .ref a_strength, .ref a_present, .ref a_gambler_trial])), (a_gambler_trial, .inr (5, [.int z_gambler_trial_day, .int z_gambler_trial_crossed, .ref a_gambler_trial_came, .ref a_gambler_trial_under, .ref a_gambler_trial_due])), (a_present, .inr (5, [.int z_present_day, .int z_present_crossed, .ref a_present_came, .ref a_present_under, .ref a_present_due])), (a_present_came, .inl (cI, 8, .inl z_present_came)), (a_gambler_trial_came, .inl (cI, 8, .inl z_gambler_trial_came)), (a_present_under, .inl (cI, 8, .inl z_present_under)), (a_gambler_trial_under, .inl (cI, 8, .inl z_gambler_trial_under)), (a_present_due, .inl (cI, 64, .inl z_present_due)), (a_gambler_trial_due, .inl (cI, 64, .inl z_gambler_trial_due)), (a_folk, .inr (0, [.int z_folk_planks, .int z_folk_size, .int z_folk_sworn, .ref a_folk_bank, .ref a_folk_kind, .ref a_folk_word, .ref a_folk_slow, .ref a_folk_told])), (a_folk_slow, .inl (cI, 8, .inl z_folk_slow)), (a_folk_bank, .inl (cI, 8, .inl z_folk_bank)), (a_strength, .inr (7, [.ref a_folk, .ref a_strength_borne])), (a_strength_borne, .inl (cI, 512, .inl z_strength_borne))])) 0 0 (inW [(a_this, .inr (8, [.ref a_letters, .int z_typed, .ref a_draft, .ref a_folk, .ref a_reader, .ref a_strength, .ref a_present, .ref a_history, .ref a_images, .ref a_kept, .ref a_planner, .ref a_gambler, .ref a_guesser, .long z_traced])), (a_gambler, .inr (1, [.ref a_folk, .ref a_strength, .ref a_present, .ref a_gambler_trial])), (a_gambler_trial, .inr (5, [.int z_gambler_trial_day, .int z_gambler_trial_crossed, .ref a_gambler_trial_came, .ref a_gambler_trial_under, .ref a_gambler_trial_due])), (a_present, .inr (5, [.int z_present_day, .int z_present_crossed, .ref a_present_came, .ref a_present_under, .ref a_present_due])), (a_present_came, .inl (cI, 8, .inl z_present_came)), (a_gambler_trial_came, .inl (cI, 8, .inl z_gambler_trial_came)), (a_present_under, .inl (cI, 8, .inl z_present_under)), (a_gambler_trial_under, .inl (cI, 8, .inl z_gambler_trial_under)), (a_present_due, .inl (cI, 64, .inl z_present_due)), (a_gambler_trial_due, .inl (cI, 64, .inl z_gambler_trial_due)), (a_folk, .inr (0, [.int z_folk_planks, .int z_folk_size, .int z_folk_sworn, .ref a_folk_bank, .ref a_folk_kind, .ref a_folk_word, .ref a_folk_slow, .ref a_folk_told])), (a_folk_slow, .inl (cI, 8, .inl z_folk_slow)), (a_folk_bank, .inl (cI, 8, .inl z_folk_bank)), (a_strength, .inr (7, [.ref a_folk, .ref a_strength_borne])), (a_strength_borne, .inl (cI, 512, .inl z_strength_borne))]) := by
  refine Met.ofW (cc := cX8_winter) (maxL := 4) (ret := (some .int)) (by decide) rfl ?_
  intro p e s m args below meth c s₁ B hml hv
  obtain ⟨rfl, hP, hKW, hD0⟩ := hv
  have hx := B.exec
  have hb := B.bytes
  have hr := B.returns
  have hts : ∀ w ∈ TB, w.before ([.ref a_this, .int p1, .int p2, .int p3] : List Value).toArray s = true := fun w h => atoms_spec (ws := .code yX8_winter cX8_winter 4 (some .int) :: TB) B.pre w (List.mem_cons_of_mem _ h)
  have hown : s.vm.findClass RX8 = some m.cls := findClass_of_methodNamed B.named
  have hlocks := B.notSynchronized
  have hK := hKW.1
  have hD := inW_D hD0
  generalize hAe : inW [(a_this, .inr (8, [.ref a_letters, .int z_typed, .ref a_draft, .ref a_folk, .ref a_reader, .ref a_strength, .ref a_present, .ref a_history, .ref a_images, .ref a_kept, .ref a_planner, .ref a_gambler, .ref a_guesser, .long z_traced])), (a_gambler, .inr (1, [.ref a_folk, .ref a_strength, .ref a_present, .ref a_gambler_trial])), (a_gambler_trial, .inr (5, [.int z_gambler_trial_day, .int z_gambler_trial_crossed, .ref a_gambler_trial_came, .ref a_gambler_trial_under, .ref a_gambler_trial_due])), (a_present, .inr (5, [.int z_present_day, .int z_present_crossed, .ref a_present_came, .ref a_present_under, .ref a_present_due])), (a_present_came, .inl (cI, 8, .inl z_present_came)), (a_gambler_trial_came, .inl (cI, 8, .inl z_gambler_trial_came)), (a_present_under, .inl (cI, 8, .inl z_present_under)), (a_gambler_trial_under, .inl (cI, 8, .inl z_gambler_trial_under)), (a_present_due, .inl (cI, 64, .inl z_present_due)), (a_gambler_trial_due, .inl (cI, 64, .inl z_gambler_trial_due)), (a_folk, .inr (0, [.int z_folk_planks, .int z_folk_size, .int z_folk_sworn, .ref a_folk_bank, .ref a_folk_kind, .ref a_folk_word, .ref a_folk_slow, .ref a_folk_told])), (a_folk_slow, .inl (cI, 8, .inl z_folk_slow)), (a_folk_bank, .inl (cI, 8, .inl z_folk_bank)), (a_strength, .inr (7, [.ref a_folk, .ref a_strength_borne])), (a_strength_borne, .inl (cI, 512, .inl z_strength_borne))] = A at hD ⊢
  have hS : va_S A s.heap s.heap [] := va_S.rf
  have hl := lv_entry [.ref a_this, .int p1, .int p2, .int p3] (n := 4) (Nat.le_of_ble_eq_true rfl)
  rw [lg_entry_eq]
  generalize (lg_sl [.ref a_this, .int p1, .int p2, .int p3] ++ List.replicate (4 - (lg_sl [.ref a_this, .int p1, .int p2, .int p3]).length) Slot.unset).toArray = ls at hl ⊢
  have hl : lv_has ls 4 [(0, .ref a_this), (1, .int p1), (2, .int p2), (3, .int p3)] := hl
  show W p l e ({ frames := 5, cells := 0, slots := 0, locals := 120 } : Room) s m ([.ref a_this, .int p1, .int p2, .int p3] : List Value).toArray below meth c s.heap [] 0 0 (MQ below (rwQ D (some (.int r)) [(a_this, .inr (8, [.ref a_letters, .int z_typed, .ref a_draft, .ref a_folk, .ref a_reader, .ref a_strength, .ref a_present, .ref a_history, .ref a_images, .ref a_kept, .ref a_planner, .ref a_gambler, .ref a_guesser, .long z_traced])), (a_gambler, .inr (1, [.ref a_folk, .ref a_strength, .ref a_present, .ref a_gambler_trial])), (a_gambler_trial, .inr (5, [.int o_z_gambler_trial_day, .int o_z_gambler_trial_crossed, .ref a_gambler_trial_came, .ref a_gambler_trial_under, .ref a_gambler_trial_due])), (a_present, .inr (5, [.int z_present_day, .int z_present_crossed, .ref a_present_came, .ref a_present_under, .ref a_present_due])), (a_present_came, .inl (cI, 8, .inl z_present_came)), (a_gambler_trial_came, .inl (cI, 8, .inl o_z_gambler_trial_came)), (a_present_under, .inl (cI, 8, .inl z_present_under)), (a_gambler_trial_under, .inl (cI, 8, .inl o_z_gambler_trial_under)), (a_present_due, .inl (cI, 64, .inl z_present_due)), (a_gambler_trial_due, .inl (cI, 64, .inl o_z_gambler_trial_due)), (a_folk, .inr (0, [.int z_folk_planks, .int z_folk_size, .int z_folk_sworn, .ref a_folk_bank, .ref a_folk_kind, .ref a_folk_word, .ref a_folk_slow, .ref a_folk_told])), (a_folk_slow, .inl (cI, 8, .inl z_folk_slow)), (a_folk_bank, .inl (cI, 8, .inl z_folk_bank)), (a_strength, .inr (7, [.ref a_folk, .ref a_strength_borne])), (a_strength_borne, .inl (cI, 512, .inl z_strength_borne))] A) ([.ref a_this, .int p1, .int p2, .int p3] : List Value).toArray s 0 0 A) (F0 m 0 ls [])
  have hP : va_P D vwCl [(a_this, .inr (8, [.ref a_letters, .int z_typed, .ref a_draft, .ref a_folk, .ref a_reader, .ref a_strength, .ref a_present, .ref a_history, .ref a_images, .ref a_kept, .ref a_planner, .ref a_gambler, .ref a_guesser, .long z_traced])), (a_gambler, .inr (1, [.ref a_folk, .ref a_strength, .ref a_present, .ref a_gambler_trial])), (a_gambler_trial, .inr (5, [.int z_gambler_trial_day, .int z_gambler_trial_crossed, .ref a_gambler_trial_came, .ref a_gambler_trial_under, .ref a_gambler_trial_due])), (a_present, .inr (5, [.int z_present_day, .int z_present_crossed, .ref a_present_came, .ref a_present_under, .ref a_present_due])), (a_present_came, .inl (cI, 8, .inl z_present_came)), (a_gambler_trial_came, .inl (cI, 8, .inl z_gambler_trial_came)), (a_present_under, .inl (cI, 8, .inl z_present_under)), (a_gambler_trial_under, .inl (cI, 8, .inl z_gambler_trial_under)), (a_present_due, .inl (cI, 64, .inl z_present_due)), (a_gambler_trial_due, .inl (cI, 64, .inl z_gambler_trial_due)), (a_folk, .inr (0, [.int z_folk_planks, .int z_folk_size, .int z_folk_sworn, .ref a_folk_bank, .ref a_folk_kind, .ref a_folk_word, .ref a_folk_slow, .ref a_folk_told])), (a_folk_slow, .inl (cI, 8, .inl z_folk_slow)), (a_folk_bank, .inl (cI, 8, .inl z_folk_bank)), (a_strength, .inr (7, [.ref a_folk, .ref a_strength_borne])), (a_strength_borne, .inl (cI, 512, .inl z_strength_borne))] s.heap := hP
  have hD : va_D A [(a_this, .inr (8, [.ref a_letters, .int z_typed, .ref a_draft, .ref a_folk, .ref a_reader, .ref a_strength, .ref a_present, .ref a_history, .ref a_images, .ref a_kept, .ref a_planner, .ref a_gambler, .ref a_guesser, .long z_traced])), (a_gambler, .inr (1, [.ref a_folk, .ref a_strength, .ref a_present, .ref a_gambler_trial])), (a_gambler_trial, .inr (5, [.int z_gambler_trial_day, .int z_gambler_trial_crossed, .ref a_gambler_trial_came, .ref a_gambler_trial_under, .ref a_gambler_trial_due])), (a_present, .inr (5, [.int z_present_day, .int z_present_crossed, .ref a_present_came, .ref a_present_under, .ref a_present_due])), (a_present_came, .inl (cI, 8, .inl z_present_came)), (a_gambler_trial_came, .inl (cI, 8, .inl z_gambler_trial_came)), (a_present_under, .inl (cI, 8, .inl z_present_under)), (a_gambler_trial_under, .inl (cI, 8, .inl z_gambler_trial_under)), (a_present_due, .inl (cI, 64, .inl z_present_due)), (a_gambler_trial_due, .inl (cI, 64, .inl z_gambler_trial_due)), (a_folk, .inr (0, [.int z_folk_planks, .int z_folk_size, .int z_folk_sworn, .ref a_folk_bank, .ref a_folk_kind, .ref a_folk_word, .ref a_folk_slow, .ref a_folk_told])), (a_folk_slow, .inl (cI, 8, .inl z_folk_slow)), (a_folk_bank, .inl (cI, 8, .inl z_folk_bank)), (a_strength, .inr (7, [.ref a_folk, .ref a_strength_borne])), (a_strength_borne, .inl (cI, 512, .inl z_strength_borne))] := hD
  unfold fX8_winter at hf
  obtain ⟨H, hH⟩ : ∃ H, H = s.heap := ⟨_, rfl⟩
  obtain ⟨locs, hlo⟩ : ∃ q : List Loc, q = [] := ⟨_, rfl⟩
  have hS : va_S A s.heap H locs := by rw [hH, hlo]; exact hS
  rw [← hH] at hP
  suffices hgo : W p l e ({ frames := 5, cells := 0, slots := 0, locals := 120 } : Room) s m ([.ref a_this, .int p1, .int p2, .int p3] : List Value).toArray below meth c H locs 0 0 (MQ below (rwQ D (some (.int r)) [(a_this, .inr (8, [.ref a_letters, .int z_typed, .ref a_draft, .ref a_folk, .ref a_reader, .ref a_strength, .ref a_present, .ref a_history, .ref a_images, .ref a_kept, .ref a_planner, .ref a_gambler, .ref a_guesser, .long z_traced])), (a_gambler, .inr (1, [.ref a_folk, .ref a_strength, .ref a_present, .ref a_gambler_trial])), (a_gambler_trial, .inr (5, [.int o_z_gambler_trial_day, .int o_z_gambler_trial_crossed, .ref a_gambler_trial_came, .ref a_gambler_trial_under, .ref a_gambler_trial_due])), (a_present, .inr (5, [.int z_present_day, .int z_present_crossed, .ref a_present_came, .ref a_present_under, .ref a_present_due])), (a_present_came, .inl (cI, 8, .inl z_present_came)), (a_gambler_trial_came, .inl (cI, 8, .inl o_z_gambler_trial_came)), (a_present_under, .inl (cI, 8, .inl z_present_under)), (a_gambler_trial_under, .inl (cI, 8, .inl o_z_gambler_trial_under)), (a_present_due, .inl (cI, 64, .inl z_present_due)), (a_gambler_trial_due, .inl (cI, 64, .inl o_z_gambler_trial_due)), (a_folk, .inr (0, [.int z_folk_planks, .int z_folk_size, .int z_folk_sworn, .ref a_folk_bank, .ref a_folk_kind, .ref a_folk_word, .ref a_folk_slow, .ref a_folk_told])), (a_folk_slow, .inl (cI, 8, .inl z_folk_slow)), (a_folk_bank, .inl (cI, 8, .inl z_folk_bank)), (a_strength, .inr (7, [.ref a_folk, .ref a_strength_borne])), (a_strength_borne, .inl (cI, 512, .inl z_strength_borne))] A) ([.ref a_this, .int p1, .int p2, .int p3] : List Value).toArray s 0 0 A) (F0 m 0 ls []) by rw [hH, hlo] at hgo; exact hgo
  clear hH hlo
  refine lv_iload_n hx hb dX8_winter_0 rfl (lv_at hl 1 rfl) ?_
  refine lv_iconst (v := 0) hx hb dX8_winter_1 (by decide) ?_
  refine lv_bipush (v := 60) hx hb dX8_winter_2 (by decide) ?_
  obtain ⟨v1, hv1, hf⟩ := ob hf
  refine kX8_within hx hb hml hown hts hKW q334  hv1 hl.1 (Nat.le_of_ble_eq_true rfl) ⟨Nat.le_of_ble_eq_true rfl, Nat.le_of_ble_eq_true rfl⟩ ⟨Nat.zero_le _, Nat.zero_le _⟩ dX8_winter_4 ?_
  refine lv_if_eq (tgt := 27) hx hb dX8_winter_7 (by decide) (fun c2 => ?_) (fun c2 => ?_)
  · replace hf := it hf c2
    refine lv_iconst (v := -1) hx hb dX8_winter_27 (by decide) ?_
    cases hf
    exact W.iret hx hb hr (fun t ht _ => ⟨rfl, by rw [ht]; exact hP, hS.F ht⟩) hS.2.2 dX8_winter_28
  · replace hf := ie hf c2
    refine lv_iload_n hx hb dX8_winter_10 rfl (lv_at hl 2 rfl) ?_
    refine lv_iconst (v := 1) hx hb dX8_winter_11 (by decide) ?_
    refine lv_ldc (v := 999999) hx hb hown (hts _ q772) dX8_winter_12 ?_
    obtain ⟨v3, hv3, hf⟩ := ob hf
    refine kX8_within hx hb hml hown hts hKW q334  hv3 hl.1 (Nat.le_of_ble_eq_true rfl) ⟨Nat.le_of_ble_eq_true rfl, Nat.le_of_ble_eq_true rfl⟩ ⟨Nat.zero_le _, Nat.zero_le _⟩ dX8_winter_14 ?_
    refine lv_if_eq (tgt := 27) hx hb dX8_winter_17 (by decide) (fun c4 => ?_) (fun c4 => ?_)
    · replace hf := it hf c4
      refine lv_iconst (v := -1) hx hb dX8_winter_27 (by decide) ?_
      cases hf
      exact W.iret hx hb hr (fun t ht _ => ⟨rfl, by rw [ht]; exact hP, hS.F ht⟩) hS.2.2 dX8_winter_28
    · replace hf := ie hf c4
      refine lv_iload_n hx hb dX8_winter_20 rfl (lv_at hl 3 rfl) ?_
      obtain ⟨v5, hv5, hf⟩ := ob hf
      refine kX8_isLoad hx hb hml hown hts hKW q634  hv5 hl.1 (Nat.le_of_ble_eq_true rfl) ⟨Nat.le_of_ble_eq_true rfl, Nat.le_of_ble_eq_true rfl⟩ ⟨Nat.zero_le _, Nat.zero_le _⟩ dX8_winter_21 ?_
      refine lv_if_ne (tgt := 29) hx hb dX8_winter_24 (by decide) (fun c6 => ?_) (fun c6 => ?_)
      · replace hf := ie hf c6
        refine lv_aload_n hx hb dX8_winter_29 rfl (lv_at hl 0 rfl) ?_
        refine va_get (D := D) (ci := 8) (v := .ref a_gambler) (C := RX8) (T := TX8) (N := 14) hx hb hts inTX8 hown hK hP 0 rfl rfl 11 (by decide) (hts _ q298) (fun _ h9 => h9) rfl dX8_winter_30 ?_
        refine lv_iload_n hx hb dX8_winter_33 rfl (lv_at hl 1 rfl) ?_
        refine lv_iload_n hx hb dX8_winter_34 rfl (lv_at hl 2 rfl) ?_
        refine lv_iload_n hx hb dX8_winter_35 rfl (lv_at hl 3 rfl) ?_
        obtain ⟨⟨v7, g8, g9, g10, g11, g12⟩, hv7, hf⟩ := ob hf
        dsimp only at hf
        refine kX1_daysBorne hx hb hml hown hts hKW q773 hP hD hS [1, 2, 3, 4, 5, 6, 7, 8, 9, 10, 11, 12, 13, 14] rfl (by decide) hv7 hl.1 (Nat.le_of_ble_eq_true rfl) ⟨Nat.le_of_ble_eq_true rfl, Nat.le_of_ble_eq_true rfl⟩ ⟨Nat.zero_le _, Nat.zero_le _⟩ dX8_winter_36 (fun H locs hP hD hS => ?_)
        have hP : va_P D vwCl [(a_this, .inr (8, [.ref a_letters, .int z_typed, .ref a_draft, .ref a_folk, .ref a_reader, .ref a_strength, .ref a_present, .ref a_history, .ref a_images, .ref a_kept, .ref a_planner, .ref a_gambler, .ref a_guesser, .long z_traced])), (a_gambler, .inr (1, [.ref a_folk, .ref a_strength, .ref a_present, .ref a_gambler_trial])), (a_gambler_trial, .inr (5, [.int g11, .int g12, .ref a_gambler_trial_came, .ref a_gambler_trial_under, .ref a_gambler_trial_due])), (a_present, .inr (5, [.int z_present_day, .int z_present_crossed, .ref a_present_came, .ref a_present_under, .ref a_present_due])), (a_present_came, .inl (cI, 8, .inl z_present_came)), (a_gambler_trial_came, .inl (cI, 8, .inl g8)), (a_present_under, .inl (cI, 8, .inl z_present_under)), (a_gambler_trial_under, .inl (cI, 8, .inl g9)), (a_present_due, .inl (cI, 64, .inl z_present_due)), (a_gambler_trial_due, .inl (cI, 64, .inl g10)), (a_folk, .inr (0, [.int z_folk_planks, .int z_folk_size, .int z_folk_sworn, .ref a_folk_bank, .ref a_folk_kind, .ref a_folk_word, .ref a_folk_slow, .ref a_folk_told])), (a_folk_slow, .inl (cI, 8, .inl z_folk_slow)), (a_folk_bank, .inl (cI, 8, .inl z_folk_bank)), (a_strength, .inr (7, [.ref a_folk, .ref a_strength_borne])), (a_strength_borne, .inl (cI, 512, .inl z_strength_borne))] H := hP
        have hD : va_D A [(a_this, .inr (8, [.ref a_letters, .int z_typed, .ref a_draft, .ref a_folk, .ref a_reader, .ref a_strength, .ref a_present, .ref a_history, .ref a_images, .ref a_kept, .ref a_planner, .ref a_gambler, .ref a_guesser, .long z_traced])), (a_gambler, .inr (1, [.ref a_folk, .ref a_strength, .ref a_present, .ref a_gambler_trial])), (a_gambler_trial, .inr (5, [.int g11, .int g12, .ref a_gambler_trial_came, .ref a_gambler_trial_under, .ref a_gambler_trial_due])), (a_present, .inr (5, [.int z_present_day, .int z_present_crossed, .ref a_present_came, .ref a_present_under, .ref a_present_due])), (a_present_came, .inl (cI, 8, .inl z_present_came)), (a_gambler_trial_came, .inl (cI, 8, .inl g8)), (a_present_under, .inl (cI, 8, .inl z_present_under)), (a_gambler_trial_under, .inl (cI, 8, .inl g9)), (a_present_due, .inl (cI, 64, .inl z_present_due)), (a_gambler_trial_due, .inl (cI, 64, .inl g10)), (a_folk, .inr (0, [.int z_folk_planks, .int z_folk_size, .int z_folk_sworn, .ref a_folk_bank, .ref a_folk_kind, .ref a_folk_word, .ref a_folk_slow, .ref a_folk_told])), (a_folk_slow, .inl (cI, 8, .inl z_folk_slow)), (a_folk_bank, .inl (cI, 8, .inl z_folk_bank)), (a_strength, .inr (7, [.ref a_folk, .ref a_strength_borne])), (a_strength_borne, .inl (cI, 512, .inl z_strength_borne))] := hD
        cases hf
        exact W.iret hx hb hr (fun t ht _ => ⟨rfl, by rw [ht]; exact hP, hS.F ht⟩) hS.2.2 dX8_winter_39
      · replace hf := it hf c6
        refine lv_iconst (v := -1) hx hb dX8_winter_27 (by decide) ?_
        cases hf
        exact W.iret hx hb hr (fun t ht _ => ⟨rfl, by rw [ht]; exact hP, hS.F ht⟩) hS.2.2 dX8_winter_28
theorem kX8_winter {p : Program} {l : Launch} {e : Env} {R : Room} {s : State} {m : MethodId} {args : Array Value} {below : List Frame} {meth : Method} {c : Code} {H : Heap} {locs : List Loc} {cells slots : Nat} {Q : State → Prop} {cc : ByteArray} {nL pc index : Nat} {ls : Array Slot} {rest : List Value} {own : String} {D : va_G} {cI cZ cQ : ClassId} {a_this a_letters a_draft a_folk a_reader a_strength a_present a_history a_images a_kept a_planner a_gambler a_guesser a_gambler_trial a_gambler_trial_came a_gambler_trial_under a_gambler_trial_due a_present_came a_present_under a_present_due a_folk_bank a_folk_kind a_folk_word a_folk_slow a_folk_told a_strength_borne : Nat} {z_typed z_gambler_trial_day z_gambler_trial_crossed z_present_day z_present_crossed z_folk_planks z_folk_size z_folk_sworn p1 p2 p3 : Int32} {z_traced : Int64} {z_present_came z_gambler_trial_came z_present_under z_gambler_trial_under z_present_due z_gambler_trial_due z_folk_slow z_folk_bank z_strength_borne : Nat → Int32} {fu : Nat} {r : Int32} {o_z_gambler_trial_day o_z_gambler_trial_crossed : Int32} {o_z_gambler_trial_came o_z_gambler_trial_under o_z_gambler_trial_due : Nat → Int32} (hx : p.tables.exec = Jvm.exec) (hb : c.code = cc) (hml : c.maxLocals = nL) (hown : s.vm.findClass own = some m.cls) (hts : ∀ w ∈ TB, w.before args s = true) (hKW : KW D (TY cI cZ cQ) s) (hlk : Cond.methodLink own index yX8_winter ∈ TB) {ws : va_W} {A : Nat → Prop} {H0 : Heap} (hP : va_P D vwCl ws H) (hD : va_D A ws) (hS : va_S A H0 H locs) (is : List Nat) (hC : is.map (fun i => ws[i]?) = ([(a_this, .inr (8, [.ref a_letters, .int z_typed, .ref a_draft, .ref a_folk, .ref a_reader, .ref a_strength, .ref a_present, .ref a_history, .ref a_images, .ref a_kept, .ref a_planner, .ref a_gambler, .ref a_guesser, .long z_traced])), (a_gambler, .inr (1, [.ref a_folk, .ref a_strength, .ref a_present, .ref a_gambler_trial])), (a_gambler_trial, .inr (5, [.int z_gambler_trial_day, .int z_gambler_trial_crossed, .ref a_gambler_trial_came, .ref a_gambler_trial_under, .ref a_gambler_trial_due])), (a_present, .inr (5, [.int z_present_day, .int z_present_crossed, .ref a_present_came, .ref a_present_under, .ref a_present_due])), (a_present_came, .inl (cI, 8, .inl z_present_came)), (a_gambler_trial_came, .inl (cI, 8, .inl z_gambler_trial_came)), (a_present_under, .inl (cI, 8, .inl z_present_under)), (a_gambler_trial_under, .inl (cI, 8, .inl z_gambler_trial_under)), (a_present_due, .inl (cI, 64, .inl z_present_due)), (a_gambler_trial_due, .inl (cI, 64, .inl z_gambler_trial_due)), (a_folk, .inr (0, [.int z_folk_planks, .int z_folk_size, .int z_folk_sworn, .ref a_folk_bank, .ref a_folk_kind, .ref a_folk_word, .ref a_folk_slow, .ref a_folk_told])), (a_folk_slow, .inl (cI, 8, .inl z_folk_slow)), (a_folk_bank, .inl (cI, 8, .inl z_folk_bank)), (a_strength, .inr (7, [.ref a_folk, .ref a_strength_borne])), (a_strength_borne, .inl (cI, 512, .inl z_strength_borne))] : va_W).map some) (hnd : va_nd is = true) (hf : fX8_winter fu z_present_day z_present_crossed z_present_came z_present_under z_present_due z_folk_size z_folk_planks z_folk_slow z_folk_bank z_strength_borne z_gambler_trial_came z_gambler_trial_under z_gambler_trial_due z_gambler_trial_day z_gambler_trial_crossed p1 p2 p3 = some (r, o_z_gambler_trial_came, o_z_gambler_trial_under, o_z_gambler_trial_due, o_z_gambler_trial_day, o_z_gambler_trial_crossed)) (hn : ls.size = nL) (hW : (rest.map fun v => v.category).sum ≤ 8) (hR : 5 + 1 ≤ R.frames ∧ 8 + (4 + 11) + 120 ≤ R.locals) (hcs : cells ≤ R.cells ∧ slots ≤ R.slots) (hdg : decode cc pc = .ok (.invokevirtual index, 3)) (kk : ∀ (H1 : Heap) (locs1 : List Loc), va_P D vwCl (rpl ws is [(a_this, .inr (8, [.ref a_letters, .int z_typed, .ref a_draft, .ref a_folk, .ref a_reader, .ref a_strength, .ref a_present, .ref a_history, .ref a_images, .ref a_kept, .ref a_planner, .ref a_gambler, .ref a_guesser, .long z_traced])), (a_gambler, .inr (1, [.ref a_folk, .ref a_strength, .ref a_present, .ref a_gambler_trial])), (a_gambler_trial, .inr (5, [.int o_z_gambler_trial_day, .int o_z_gambler_trial_crossed, .ref a_gambler_trial_came, .ref a_gambler_trial_under, .ref a_gambler_trial_due])), (a_present, .inr (5, [.int z_present_day, .int z_present_crossed, .ref a_present_came, .ref a_present_under, .ref a_present_due])), (a_present_came, .inl (cI, 8, .inl z_present_came)), (a_gambler_trial_came, .inl (cI, 8, .inl o_z_gambler_trial_came)), (a_present_under, .inl (cI, 8, .inl z_present_under)), (a_gambler_trial_under, .inl (cI, 8, .inl o_z_gambler_trial_under)), (a_present_due, .inl (cI, 64, .inl z_present_due)), (a_gambler_trial_due, .inl (cI, 64, .inl o_z_gambler_trial_due)), (a_folk, .inr (0, [.int z_folk_planks, .int z_folk_size, .int z_folk_sworn, .ref a_folk_bank, .ref a_folk_kind, .ref a_folk_word, .ref a_folk_slow, .ref a_folk_told])), (a_folk_slow, .inl (cI, 8, .inl z_folk_slow)), (a_folk_bank, .inl (cI, 8, .inl z_folk_bank)), (a_strength, .inr (7, [.ref a_folk, .ref a_strength_borne])), (a_strength_borne, .inl (cI, 512, .inl z_strength_borne))]) H1 → va_D A (rpl ws is [(a_this, .inr (8, [.ref a_letters, .int z_typed, .ref a_draft, .ref a_folk, .ref a_reader, .ref a_strength, .ref a_present, .ref a_history, .ref a_images, .ref a_kept, .ref a_planner, .ref a_gambler, .ref a_guesser, .long z_traced])), (a_gambler, .inr (1, [.ref a_folk, .ref a_strength, .ref a_present, .ref a_gambler_trial])), (a_gambler_trial, .inr (5, [.int o_z_gambler_trial_day, .int o_z_gambler_trial_crossed, .ref a_gambler_trial_came, .ref a_gambler_trial_under, .ref a_gambler_trial_due])), (a_present, .inr (5, [.int z_present_day, .int z_present_crossed, .ref a_present_came, .ref a_present_under, .ref a_present_due])), (a_present_came, .inl (cI, 8, .inl z_present_came)), (a_gambler_trial_came, .inl (cI, 8, .inl o_z_gambler_trial_came)), (a_present_under, .inl (cI, 8, .inl z_present_under)), (a_gambler_trial_under, .inl (cI, 8, .inl o_z_gambler_trial_under)), (a_present_due, .inl (cI, 64, .inl z_present_due)), (a_gambler_trial_due, .inl (cI, 64, .inl o_z_gambler_trial_due)), (a_folk, .inr (0, [.int z_folk_planks, .int z_folk_size, .int z_folk_sworn, .ref a_folk_bank, .ref a_folk_kind, .ref a_folk_word, .ref a_folk_slow, .ref a_folk_told])), (a_folk_slow, .inl (cI, 8, .inl z_folk_slow)), (a_folk_bank, .inl (cI, 8, .inl z_folk_bank)), (a_strength, .inr (7, [.ref a_folk, .ref a_strength_borne])), (a_strength_borne, .inl (cI, 512, .inl z_strength_borne))]) → va_S A H0 H1 locs1 → W p l e R s m args below meth c H1 locs1 cells slots Q (F0 m (pc + 3) ls (.int r :: rest))) : W p l e R s m args below meth c H locs cells slots Q (F0 m pc ls (.int p3 :: .int p2 :: .int p1 :: .ref a_this :: rest)) :=
  x_rw (va_runV (As := [.int p1, .int p2, .int p3]) (rest := rest) ⟨hx, hb, hml, hown, hts⟩ (tX8_winter hf) (cwV 3 hts (tb_V hlk q769 q770 q39 q771) rfl rfl rfl (by decide +kernel) hR) ⟨rwB, va_recv hKW.1 (subP hP hC) (ci := 8) (q0 := 0) rfl rfl, fun U hU hW => ⟨rfl, by rw [hU]; exact subP hP hC, hKW.warm hW, subD hD hC hnd⟩⟩ rfl rfl hn rfl (lv_room hW) hdg hcs) hP hD hS is hC rfl kk

-- HalfPlanks.sees(II)I
def fX8_sees_b33 (fu : Nat) (s0 : Int32) (s1 : Int32) (z_guesser_seen : Int32) (z_guesser_load : Nat → Int32) (z_guesser_over : Nat → Int32) : Option (Int32 × Int32 × (Nat → Int32) × (Nat → Int32)) :=
  (fX2_see fu z_guesser_seen z_guesser_load z_guesser_over s1 s0).bind fun (v6, g7, g8, g9) =>
  (if v6 = 0 then
  some ((-3), g7, g8, g9)
  else
  some (g7, g7, g8, g9))
def fX8_sees (fu : Nat) (z_guesser_seen : Int32) (z_guesser_load : Nat → Int32) (z_guesser_over : Nat → Int32) (p1 : Int32) (p2 : Int32) : Option (Int32 × Int32 × (Nat → Int32) × (Nat → Int32)) :=
  (fX8_isLoad fu p1).bind fun v1 =>
  (if v1 = 0 then
  some ((-1), z_guesser_seen, z_guesser_load, z_guesser_over)
  else
  (fX8_within fu p2 0 1).bind fun v3 =>
  (if v3 = 0 then
  some ((-1), z_guesser_seen, z_guesser_load, z_guesser_over)
  else
  (if p2 = 1 then
  fX8_sees_b33 fu 1 p1 z_guesser_seen z_guesser_load z_guesser_over
  else
  fX8_sees_b33 fu 0 p1 z_guesser_seen z_guesser_load z_guesser_over)))
set_option maxHeartbeats 4000000 in
set_option maxRecDepth 100000 in
theorem tX8_sees {l : Launch} {D : va_G} {cI cZ cQ : ClassId} {a_this a_letters a_draft a_folk a_reader a_strength a_present a_history a_images a_kept a_planner a_gambler a_guesser a_guesser_load a_guesser_over a_guesser_borne : Nat} {z_typed z_guesser_seen z_guesser_least z_guesser_greatest p1 p2 : Int32} {z_traced : Int64} {z_guesser_load z_guesser_over : Nat → Int32} {fu : Nat} {r : Int32} {o_z_guesser_seen : Int32} {o_z_guesser_load o_z_guesser_over : Nat → Int32} (hf : fX8_sees fu z_guesser_seen z_guesser_load z_guesser_over p1 p2 = some (r, o_z_guesser_seen, o_z_guesser_load, o_z_guesser_over)) : Met l yX8_sees (.code yX8_sees cX8_sees 3 (some .int) :: TB) ({ frames := 2, cells := 0, slots := 0, locals := 42 } : Room) (rwP D (TY cI cZ cQ) [(a_this, .inr (8, [.ref a_letters, .int z_typed, .ref a_draft, .ref a_folk, .ref a_reader, .ref a_strength, .ref a_present, .ref a_history, .ref a_images, .ref a_kept, .ref a_planner, .ref a_gambler, .ref a_guesser, .long z_traced])), (a_guesser, .inr (2, [.ref a_folk, .ref a_strength, .ref a_present, .ref a_guesser_load, .ref a_guesser_over, .int z_guesser_seen, .ref a_guesser_borne, .int z_guesser_least, .int z_guesser_greatest])), (a_guesser_load, .inl (cI, 6, .inl z_guesser_load)), (a_guesser_over, .inl (cZ, 6, .inl z_guesser_over))] [.ref a_this, .int p1, .int p2]) (rwQ D (some (.int r)) [(a_this, .inr (8, [.ref a_letters, .int z_typed, .ref a_draft, .ref a_folk, .ref a_reader, .ref a_strength, .ref a_present, .ref a_history, .ref a_images, .ref a_kept, .ref a_planner, .ref a_gambler, .ref a_guesser, .long z_traced])), (a_guesser, .inr (2, [.ref a_folk, .ref a_strength, .ref a_present, .ref a_guesser_load, .ref a_guesser_over, .int o_z_guesser_seen, .ref a_guesser_borne, .int z_guesser_least, .int z_guesser_greatest])), (a_guesser_load, .inl (cI, 6, .inl o_z_guesser_load)), (a_guesser_over, .inl (cZ, 6, .inl o_z_guesser_over))] (inW [(a_this, .inr (8, [.ref a_letters, .int z_typed, .ref a_draft, .ref a_folk, .ref a_reader, .ref a_strength, .ref a_present, .ref a_history, .ref a_images, .ref a_kept, .ref a_planner, .ref a_gambler, .ref a_guesser, .long z_traced])), (a_guesser, .inr (2, [.ref a_folk, .ref a_strength, .ref a_present, .ref a_guesser_load, .ref a_guesser_over, .int z_guesser_seen, .ref a_guesser_borne, .int z_guesser_least, .int z_guesser_greatest])), (a_guesser_load, .inl (cI, 6, .inl z_guesser_load)), (a_guesser_over, .inl (cZ, 6, .inl z_guesser_over))])) 0 0 (inW [(a_this, .inr (8, [.ref a_letters, .int z_typed, .ref a_draft, .ref a_folk, .ref a_reader, .ref a_strength, .ref a_present, .ref a_history, .ref a_images, .ref a_kept, .ref a_planner, .ref a_gambler, .ref a_guesser, .long z_traced])), (a_guesser, .inr (2, [.ref a_folk, .ref a_strength, .ref a_present, .ref a_guesser_load, .ref a_guesser_over, .int z_guesser_seen, .ref a_guesser_borne, .int z_guesser_least, .int z_guesser_greatest])), (a_guesser_load, .inl (cI, 6, .inl z_guesser_load)), (a_guesser_over, .inl (cZ, 6, .inl z_guesser_over))]) := by
  refine Met.ofW (cc := cX8_sees) (maxL := 3) (ret := (some .int)) (by decide) rfl ?_
  intro p e s m args below meth c s₁ B hml hv
  obtain ⟨rfl, hP, hKW, hD0⟩ := hv
  have hx := B.exec
  have hb := B.bytes
  have hr := B.returns
  have hts : ∀ w ∈ TB, w.before ([.ref a_this, .int p1, .int p2] : List Value).toArray s = true := fun w h => atoms_spec (ws := .code yX8_sees cX8_sees 3 (some .int) :: TB) B.pre w (List.mem_cons_of_mem _ h)
  have hown : s.vm.findClass RX8 = some m.cls := findClass_of_methodNamed B.named
  have hlocks := B.notSynchronized
  have hK := hKW.1
  have hD := inW_D hD0
  generalize hAe : inW [(a_this, .inr (8, [.ref a_letters, .int z_typed, .ref a_draft, .ref a_folk, .ref a_reader, .ref a_strength, .ref a_present, .ref a_history, .ref a_images, .ref a_kept, .ref a_planner, .ref a_gambler, .ref a_guesser, .long z_traced])), (a_guesser, .inr (2, [.ref a_folk, .ref a_strength, .ref a_present, .ref a_guesser_load, .ref a_guesser_over, .int z_guesser_seen, .ref a_guesser_borne, .int z_guesser_least, .int z_guesser_greatest])), (a_guesser_load, .inl (cI, 6, .inl z_guesser_load)), (a_guesser_over, .inl (cZ, 6, .inl z_guesser_over))] = A at hD ⊢
  have hS : va_S A s.heap s.heap [] := va_S.rf
  have hl := lv_entry [.ref a_this, .int p1, .int p2] (n := 3) (Nat.le_of_ble_eq_true rfl)
  rw [lg_entry_eq]
  generalize (lg_sl [.ref a_this, .int p1, .int p2] ++ List.replicate (3 - (lg_sl [.ref a_this, .int p1, .int p2]).length) Slot.unset).toArray = ls at hl ⊢
  have hl : lv_has ls 3 [(0, .ref a_this), (1, .int p1), (2, .int p2)] := hl
  show W p l e ({ frames := 2, cells := 0, slots := 0, locals := 42 } : Room) s m ([.ref a_this, .int p1, .int p2] : List Value).toArray below meth c s.heap [] 0 0 (MQ below (rwQ D (some (.int r)) [(a_this, .inr (8, [.ref a_letters, .int z_typed, .ref a_draft, .ref a_folk, .ref a_reader, .ref a_strength, .ref a_present, .ref a_history, .ref a_images, .ref a_kept, .ref a_planner, .ref a_gambler, .ref a_guesser, .long z_traced])), (a_guesser, .inr (2, [.ref a_folk, .ref a_strength, .ref a_present, .ref a_guesser_load, .ref a_guesser_over, .int o_z_guesser_seen, .ref a_guesser_borne, .int z_guesser_least, .int z_guesser_greatest])), (a_guesser_load, .inl (cI, 6, .inl o_z_guesser_load)), (a_guesser_over, .inl (cZ, 6, .inl o_z_guesser_over))] A) ([.ref a_this, .int p1, .int p2] : List Value).toArray s 0 0 A) (F0 m 0 ls [])
  have hP : va_P D vwCl [(a_this, .inr (8, [.ref a_letters, .int z_typed, .ref a_draft, .ref a_folk, .ref a_reader, .ref a_strength, .ref a_present, .ref a_history, .ref a_images, .ref a_kept, .ref a_planner, .ref a_gambler, .ref a_guesser, .long z_traced])), (a_guesser, .inr (2, [.ref a_folk, .ref a_strength, .ref a_present, .ref a_guesser_load, .ref a_guesser_over, .int z_guesser_seen, .ref a_guesser_borne, .int z_guesser_least, .int z_guesser_greatest])), (a_guesser_load, .inl (cI, 6, .inl z_guesser_load)), (a_guesser_over, .inl (cZ, 6, .inl z_guesser_over))] s.heap := hP
  have hD : va_D A [(a_this, .inr (8, [.ref a_letters, .int z_typed, .ref a_draft, .ref a_folk, .ref a_reader, .ref a_strength, .ref a_present, .ref a_history, .ref a_images, .ref a_kept, .ref a_planner, .ref a_gambler, .ref a_guesser, .long z_traced])), (a_guesser, .inr (2, [.ref a_folk, .ref a_strength, .ref a_present, .ref a_guesser_load, .ref a_guesser_over, .int z_guesser_seen, .ref a_guesser_borne, .int z_guesser_least, .int z_guesser_greatest])), (a_guesser_load, .inl (cI, 6, .inl z_guesser_load)), (a_guesser_over, .inl (cZ, 6, .inl z_guesser_over))] := hD
  have hB33 : ∀ (s0 : Int32) (s1 : Int32) (z_guesser_seen : Int32) (z_guesser_load : Nat → Int32) (z_guesser_over : Nat → Int32) (H : Heap) (locs : List Loc) (ls : Array Slot), va_P D vwCl [(a_this, .inr (8, [.ref a_letters, .int z_typed, .ref a_draft, .ref a_folk, .ref a_reader, .ref a_strength, .ref a_present, .ref a_history, .ref a_images, .ref a_kept, .ref a_planner, .ref a_gambler, .ref a_guesser, .long z_traced])), (a_guesser, .inr (2, [.ref a_folk, .ref a_strength, .ref a_present, .ref a_guesser_load, .ref a_guesser_over, .int z_guesser_seen, .ref a_guesser_borne, .int z_guesser_least, .int z_guesser_greatest])), (a_guesser_load, .inl (cI, 6, .inl z_guesser_load)), (a_guesser_over, .inl (cZ, 6, .inl z_guesser_over))] H → va_D A [(a_this, .inr (8, [.ref a_letters, .int z_typed, .ref a_draft, .ref a_folk, .ref a_reader, .ref a_strength, .ref a_present, .ref a_history, .ref a_images, .ref a_kept, .ref a_planner, .ref a_gambler, .ref a_guesser, .long z_traced])), (a_guesser, .inr (2, [.ref a_folk, .ref a_strength, .ref a_present, .ref a_guesser_load, .ref a_guesser_over, .int z_guesser_seen, .ref a_guesser_borne, .int z_guesser_least, .int z_guesser_greatest])), (a_guesser_load, .inl (cI, 6, .inl z_guesser_load)), (a_guesser_over, .inl (cZ, 6, .inl z_guesser_over))] → va_S A s.heap H locs → lv_has ls 3 [(0, .ref a_this)] → fX8_sees_b33 fu s0 s1 z_guesser_seen z_guesser_load z_guesser_over = some (r, o_z_guesser_seen, o_z_guesser_load, o_z_guesser_over) → W p l e ({ frames := 2, cells := 0, slots := 0, locals := 42 } : Room) s m ([.ref a_this, .int p1, .int p2] : List Value).toArray below meth c H locs 0 0 (MQ below (rwQ D (some (.int r)) [(a_this, .inr (8, [.ref a_letters, .int z_typed, .ref a_draft, .ref a_folk, .ref a_reader, .ref a_strength, .ref a_present, .ref a_history, .ref a_images, .ref a_kept, .ref a_planner, .ref a_gambler, .ref a_guesser, .long z_traced])), (a_guesser, .inr (2, [.ref a_folk, .ref a_strength, .ref a_present, .ref a_guesser_load, .ref a_guesser_over, .int o_z_guesser_seen, .ref a_guesser_borne, .int z_guesser_least, .int z_guesser_greatest])), (a_guesser_load, .inl (cI, 6, .inl o_z_guesser_load)), (a_guesser_over, .inl (cZ, 6, .inl o_z_guesser_over))] A) ([.ref a_this, .int p1, .int p2] : List Value).toArray s 0 0 A) (F0 m 33 ls [.int s0, .int s1, .ref a_guesser]) := by
    intro s0 s1 z_guesser_seen z_guesser_load z_guesser_over H locs ls hP hD hS hl hf
    unfold fX8_sees_b33 at hf
    obtain ⟨⟨v6, g7, g8, g9⟩, hv6, hf⟩ := ob hf
    dsimp only at hf
    refine kX2_see hx hb hml hown hts hKW q791 hP hD hS [1, 2, 3] rfl (by decide) hv6 hl.1 (Nat.le_of_ble_eq_true rfl) ⟨Nat.le_of_ble_eq_true rfl, Nat.le_of_ble_eq_true rfl⟩ ⟨Nat.zero_le _, Nat.zero_le _⟩ dX8_sees_33 (fun H locs hP hD hS => ?_)
    have hP : va_P D vwCl [(a_this, .inr (8, [.ref a_letters, .int z_typed, .ref a_draft, .ref a_folk, .ref a_reader, .ref a_strength, .ref a_present, .ref a_history, .ref a_images, .ref a_kept, .ref a_planner, .ref a_gambler, .ref a_guesser, .long z_traced])), (a_guesser, .inr (2, [.ref a_folk, .ref a_strength, .ref a_present, .ref a_guesser_load, .ref a_guesser_over, .int g7, .ref a_guesser_borne, .int z_guesser_least, .int z_guesser_greatest])), (a_guesser_load, .inl (cI, 6, .inl g8)), (a_guesser_over, .inl (cZ, 6, .inl g9))] H := hP
    have hD : va_D A [(a_this, .inr (8, [.ref a_letters, .int z_typed, .ref a_draft, .ref a_folk, .ref a_reader, .ref a_strength, .ref a_present, .ref a_history, .ref a_images, .ref a_kept, .ref a_planner, .ref a_gambler, .ref a_guesser, .long z_traced])), (a_guesser, .inr (2, [.ref a_folk, .ref a_strength, .ref a_present, .ref a_guesser_load, .ref a_guesser_over, .int g7, .ref a_guesser_borne, .int z_guesser_least, .int z_guesser_greatest])), (a_guesser_load, .inl (cI, 6, .inl g8)), (a_guesser_over, .inl (cZ, 6, .inl g9))] := hD
    refine lv_if_eq (tgt := 49) hx hb dX8_sees_36 (by decide) (fun c10 => ?_) (fun c10 => ?_)
    · replace hf := it hf c10
      refine lv_bipush (v := -3) hx hb dX8_sees_49 (by decide) ?_
      cases hf
      exact W.iret hx hb hr (fun t ht _ => ⟨rfl, by rw [ht]; exact hP, hS.F ht⟩) hS.2.2 dX8_sees_51
    · replace hf := ie hf c10
      refine lv_aload_n hx hb dX8_sees_39 rfl (lv_at hl 0 rfl) ?_
      refine va_get (D := D) (ci := 8) (v := .ref a_guesser) (C := RX8) (T := TX8) (N := 14) hx hb hts inTX8 hown hK hP 0 rfl rfl 12 (by decide) (hts _ q299) (fun _ h9 => h9) rfl dX8_sees_40 ?_
      refine va_get (D := D) (ci := 2) (v := .int g7) (C := RX2) (T := TX2) (N := 9) hx hb hts inTX2 hown hK hP 1 rfl rfl 5 (by decide) (hts _ q264) (fun _ h9 => h9) rfl dX8_sees_43 ?_
      refine lv_goto (tgt := 51) hx hb dX8_sees_46 (by decide) ?_
      cases hf
      exact W.iret hx hb hr (fun t ht _ => ⟨rfl, by rw [ht]; exact hP, hS.F ht⟩) hS.2.2 dX8_sees_51
  unfold fX8_sees at hf
  obtain ⟨H, hH⟩ : ∃ H, H = s.heap := ⟨_, rfl⟩
  obtain ⟨locs, hlo⟩ : ∃ q : List Loc, q = [] := ⟨_, rfl⟩
  have hS : va_S A s.heap H locs := by rw [hH, hlo]; exact hS
  rw [← hH] at hP
  suffices hgo : W p l e ({ frames := 2, cells := 0, slots := 0, locals := 42 } : Room) s m ([.ref a_this, .int p1, .int p2] : List Value).toArray below meth c H locs 0 0 (MQ below (rwQ D (some (.int r)) [(a_this, .inr (8, [.ref a_letters, .int z_typed, .ref a_draft, .ref a_folk, .ref a_reader, .ref a_strength, .ref a_present, .ref a_history, .ref a_images, .ref a_kept, .ref a_planner, .ref a_gambler, .ref a_guesser, .long z_traced])), (a_guesser, .inr (2, [.ref a_folk, .ref a_strength, .ref a_present, .ref a_guesser_load, .ref a_guesser_over, .int o_z_guesser_seen, .ref a_guesser_borne, .int z_guesser_least, .int z_guesser_greatest])), (a_guesser_load, .inl (cI, 6, .inl o_z_guesser_load)), (a_guesser_over, .inl (cZ, 6, .inl o_z_guesser_over))] A) ([.ref a_this, .int p1, .int p2] : List Value).toArray s 0 0 A) (F0 m 0 ls []) by rw [hH, hlo] at hgo; exact hgo
  clear hH hlo
  refine lv_iload_n hx hb dX8_sees_0 rfl (lv_at hl 1 rfl) ?_
  obtain ⟨v1, hv1, hf⟩ := ob hf
  refine kX8_isLoad hx hb hml hown hts hKW q634  hv1 hl.1 (Nat.le_of_ble_eq_true rfl) ⟨Nat.le_of_ble_eq_true rfl, Nat.le_of_ble_eq_true rfl⟩ ⟨Nat.zero_le _, Nat.zero_le _⟩ dX8_sees_1 ?_
  refine lv_if_eq (tgt := 16) hx hb dX8_sees_4 (by decide) (fun c2 => ?_) (fun c2 => ?_)
  · replace hf := it hf c2
    refine lv_iconst (v := -1) hx hb dX8_sees_16 (by decide) ?_
    cases hf
    exact W.iret hx hb hr (fun t ht _ => ⟨rfl, by rw [ht]; exact hP, hS.F ht⟩) hS.2.2 dX8_sees_17
  · replace hf := ie hf c2
    refine lv_iload_n hx hb dX8_sees_7 rfl (lv_at hl 2 rfl) ?_
    refine lv_iconst (v := 0) hx hb dX8_sees_8 (by decide) ?_
    refine lv_iconst (v := 1) hx hb dX8_sees_9 (by decide) ?_
    obtain ⟨v3, hv3, hf⟩ := ob hf
    refine kX8_within hx hb hml hown hts hKW q334  hv3 hl.1 (Nat.le_of_ble_eq_true rfl) ⟨Nat.le_of_ble_eq_true rfl, Nat.le_of_ble_eq_true rfl⟩ ⟨Nat.zero_le _, Nat.zero_le _⟩ dX8_sees_10 ?_
    refine lv_if_ne (tgt := 18) hx hb dX8_sees_13 (by decide) (fun c4 => ?_) (fun c4 => ?_)
    · replace hf := ie hf c4
      refine lv_aload_n hx hb dX8_sees_18 rfl (lv_at hl 0 rfl) ?_
      refine va_get (D := D) (ci := 8) (v := .ref a_guesser) (C := RX8) (T := TX8) (N := 14) hx hb hts inTX8 hown hK hP 0 rfl rfl 12 (by decide) (hts _ q299) (fun _ h9 => h9) rfl dX8_sees_19 ?_
      refine lv_iload_n hx hb dX8_sees_22 rfl (lv_at hl 1 rfl) ?_
      refine lv_iload_n hx hb dX8_sees_23 rfl (lv_at hl 2 rfl) ?_
      refine lv_iconst (v := 1) hx hb dX8_sees_24 (by decide) ?_
      refine lv_icmp_ne (tgt := 32) hx hb dX8_sees_25 (by decide) (fun c5 => ?_) (fun c5 => ?_)
      · replace hf := ie hf c5
        refine lv_iconst (v := 0) hx hb dX8_sees_32 (by decide) ?_
        exact hB33 0 p1 z_guesser_seen z_guesser_load z_guesser_over H locs ls hP hD hS (lv_sub hl [0] rfl) hf
      · replace hf := it hf c5
        refine lv_iconst (v := 1) hx hb dX8_sees_28 (by decide) ?_
        refine lv_goto (tgt := 33) hx hb dX8_sees_29 (by decide) ?_
        exact hB33 1 p1 z_guesser_seen z_guesser_load z_guesser_over H locs ls hP hD hS (lv_sub hl [0] rfl) hf
    · replace hf := it hf c4
      refine lv_iconst (v := -1) hx hb dX8_sees_16 (by decide) ?_
      cases hf
      exact W.iret hx hb hr (fun t ht _ => ⟨rfl, by rw [ht]; exact hP, hS.F ht⟩) hS.2.2 dX8_sees_17
theorem kX8_sees {p : Program} {l : Launch} {e : Env} {R : Room} {s : State} {m : MethodId} {args : Array Value} {below : List Frame} {meth : Method} {c : Code} {H : Heap} {locs : List Loc} {cells slots : Nat} {Q : State → Prop} {cc : ByteArray} {nL pc index : Nat} {ls : Array Slot} {rest : List Value} {own : String} {D : va_G} {cI cZ cQ : ClassId} {a_this a_letters a_draft a_folk a_reader a_strength a_present a_history a_images a_kept a_planner a_gambler a_guesser a_guesser_load a_guesser_over a_guesser_borne : Nat} {z_typed z_guesser_seen z_guesser_least z_guesser_greatest p1 p2 : Int32} {z_traced : Int64} {z_guesser_load z_guesser_over : Nat → Int32} {fu : Nat} {r : Int32} {o_z_guesser_seen : Int32} {o_z_guesser_load o_z_guesser_over : Nat → Int32} (hx : p.tables.exec = Jvm.exec) (hb : c.code = cc) (hml : c.maxLocals = nL) (hown : s.vm.findClass own = some m.cls) (hts : ∀ w ∈ TB, w.before args s = true) (hKW : KW D (TY cI cZ cQ) s) (hlk : Cond.methodLink own index yX8_sees ∈ TB) {ws : va_W} {A : Nat → Prop} {H0 : Heap} (hP : va_P D vwCl ws H) (hD : va_D A ws) (hS : va_S A H0 H locs) (is : List Nat) (hC : is.map (fun i => ws[i]?) = ([(a_this, .inr (8, [.ref a_letters, .int z_typed, .ref a_draft, .ref a_folk, .ref a_reader, .ref a_strength, .ref a_present, .ref a_history, .ref a_images, .ref a_kept, .ref a_planner, .ref a_gambler, .ref a_guesser, .long z_traced])), (a_guesser, .inr (2, [.ref a_folk, .ref a_strength, .ref a_present, .ref a_guesser_load, .ref a_guesser_over, .int z_guesser_seen, .ref a_guesser_borne, .int z_guesser_least, .int z_guesser_greatest])), (a_guesser_load, .inl (cI, 6, .inl z_guesser_load)), (a_guesser_over, .inl (cZ, 6, .inl z_guesser_over))] : va_W).map some) (hnd : va_nd is = true) (hf : fX8_sees fu z_guesser_seen z_guesser_load z_guesser_over p1 p2 = some (r, o_z_guesser_seen, o_z_guesser_load, o_z_guesser_over)) (hn : ls.size = nL) (hW : (rest.map fun v => v.category).sum ≤ 8) (hR : 2 + 1 ≤ R.frames ∧ 8 + (3 + 11) + 42 ≤ R.locals) (hcs : cells ≤ R.cells ∧ slots ≤ R.slots) (hdg : decode cc pc = .ok (.invokevirtual index, 3)) (kk : ∀ (H1 : Heap) (locs1 : List Loc), va_P D vwCl (rpl ws is [(a_this, .inr (8, [.ref a_letters, .int z_typed, .ref a_draft, .ref a_folk, .ref a_reader, .ref a_strength, .ref a_present, .ref a_history, .ref a_images, .ref a_kept, .ref a_planner, .ref a_gambler, .ref a_guesser, .long z_traced])), (a_guesser, .inr (2, [.ref a_folk, .ref a_strength, .ref a_present, .ref a_guesser_load, .ref a_guesser_over, .int o_z_guesser_seen, .ref a_guesser_borne, .int z_guesser_least, .int z_guesser_greatest])), (a_guesser_load, .inl (cI, 6, .inl o_z_guesser_load)), (a_guesser_over, .inl (cZ, 6, .inl o_z_guesser_over))]) H1 → va_D A (rpl ws is [(a_this, .inr (8, [.ref a_letters, .int z_typed, .ref a_draft, .ref a_folk, .ref a_reader, .ref a_strength, .ref a_present, .ref a_history, .ref a_images, .ref a_kept, .ref a_planner, .ref a_gambler, .ref a_guesser, .long z_traced])), (a_guesser, .inr (2, [.ref a_folk, .ref a_strength, .ref a_present, .ref a_guesser_load, .ref a_guesser_over, .int o_z_guesser_seen, .ref a_guesser_borne, .int z_guesser_least, .int z_guesser_greatest])), (a_guesser_load, .inl (cI, 6, .inl o_z_guesser_load)), (a_guesser_over, .inl (cZ, 6, .inl o_z_guesser_over))]) → va_S A H0 H1 locs1 → W p l e R s m args below meth c H1 locs1 cells slots Q (F0 m (pc + 3) ls (.int r :: rest))) : W p l e R s m args below meth c H locs cells slots Q (F0 m pc ls (.int p2 :: .int p1 :: .ref a_this :: rest)) :=
  x_rw (va_runV (As := [.int p1, .int p2]) (rest := rest) ⟨hx, hb, hml, hown, hts⟩ (tX8_sees hf) (cwV 2 hts (tb_V hlk q788 q789 q39 q790) rfl rfl rfl (by decide +kernel) hR) ⟨rwB, va_recv hKW.1 (subP hP hC) (ci := 8) (q0 := 0) rfl rfl, fun U hU hW => ⟨rfl, by rw [hU]; exact subP hP hC, hKW.warm hW, subD hD hC hnd⟩⟩ rfl rfl hn rfl (lv_room hW) hdg hcs) hP hD hS is hC rfl kk

-- HalfPlanks.forget()I
def fX8_forget (fu : Nat) (z_guesser_seen : Int32) : Option (Int32 × Int32) :=
  some (z_guesser_seen, 0)
set_option maxHeartbeats 4000000 in
set_option maxRecDepth 100000 in
theorem tX8_forget {l : Launch} {D : va_G} {cI cZ cQ : ClassId} {a_this a_letters a_draft a_folk a_reader a_strength a_present a_history a_images a_kept a_planner a_gambler a_guesser a_guesser_load a_guesser_over a_guesser_borne : Nat} {z_typed z_guesser_seen z_guesser_least z_guesser_greatest : Int32} {z_traced : Int64} {fu : Nat} {r : Int32} {o_z_guesser_seen : Int32} (hf : fX8_forget fu z_guesser_seen = some (r, o_z_guesser_seen)) : Met l yX8_forget (.code yX8_forget cX8_forget 2 (some .int) :: TB) ({ frames := 0, cells := 0, slots := 0, locals := 0 } : Room) (rwP D (TY cI cZ cQ) [(a_this, .inr (8, [.ref a_letters, .int z_typed, .ref a_draft, .ref a_folk, .ref a_reader, .ref a_strength, .ref a_present, .ref a_history, .ref a_images, .ref a_kept, .ref a_planner, .ref a_gambler, .ref a_guesser, .long z_traced])), (a_guesser, .inr (2, [.ref a_folk, .ref a_strength, .ref a_present, .ref a_guesser_load, .ref a_guesser_over, .int z_guesser_seen, .ref a_guesser_borne, .int z_guesser_least, .int z_guesser_greatest]))] [.ref a_this]) (rwQ D (some (.int r)) [(a_this, .inr (8, [.ref a_letters, .int z_typed, .ref a_draft, .ref a_folk, .ref a_reader, .ref a_strength, .ref a_present, .ref a_history, .ref a_images, .ref a_kept, .ref a_planner, .ref a_gambler, .ref a_guesser, .long z_traced])), (a_guesser, .inr (2, [.ref a_folk, .ref a_strength, .ref a_present, .ref a_guesser_load, .ref a_guesser_over, .int o_z_guesser_seen, .ref a_guesser_borne, .int z_guesser_least, .int z_guesser_greatest]))] (inW [(a_this, .inr (8, [.ref a_letters, .int z_typed, .ref a_draft, .ref a_folk, .ref a_reader, .ref a_strength, .ref a_present, .ref a_history, .ref a_images, .ref a_kept, .ref a_planner, .ref a_gambler, .ref a_guesser, .long z_traced])), (a_guesser, .inr (2, [.ref a_folk, .ref a_strength, .ref a_present, .ref a_guesser_load, .ref a_guesser_over, .int z_guesser_seen, .ref a_guesser_borne, .int z_guesser_least, .int z_guesser_greatest]))])) 0 0 (inW [(a_this, .inr (8, [.ref a_letters, .int z_typed, .ref a_draft, .ref a_folk, .ref a_reader, .ref a_strength, .ref a_present, .ref a_history, .ref a_images, .ref a_kept, .ref a_planner, .ref a_gambler, .ref a_guesser, .long z_traced])), (a_guesser, .inr (2, [.ref a_folk, .ref a_strength, .ref a_present, .ref a_guesser_load, .ref a_guesser_over, .int z_guesser_seen, .ref a_guesser_borne, .int z_guesser_least, .int z_guesser_greatest]))]) := by
  refine Met.ofW (cc := cX8_forget) (maxL := 2) (ret := (some .int)) (by decide) rfl ?_
  intro p e s m args below meth c s₁ B hml hv
  obtain ⟨rfl, hP, hKW, hD0⟩ := hv
  have hx := B.exec
  have hb := B.bytes
  have hr := B.returns
  have hts : ∀ w ∈ TB, w.before ([.ref a_this] : List Value).toArray s = true := fun w h => atoms_spec (ws := .code yX8_forget cX8_forget 2 (some .int) :: TB) B.pre w (List.mem_cons_of_mem _ h)
  have hown : s.vm.findClass RX8 = some m.cls := findClass_of_methodNamed B.named
  have hlocks := B.notSynchronized
  have hK := hKW.1
  have hD := inW_D hD0
  generalize hAe : inW [(a_this, .inr (8, [.ref a_letters, .int z_typed, .ref a_draft, .ref a_folk, .ref a_reader, .ref a_strength, .ref a_present, .ref a_history, .ref a_images, .ref a_kept, .ref a_planner, .ref a_gambler, .ref a_guesser, .long z_traced])), (a_guesser, .inr (2, [.ref a_folk, .ref a_strength, .ref a_present, .ref a_guesser_load, .ref a_guesser_over, .int z_guesser_seen, .ref a_guesser_borne, .int z_guesser_least, .int z_guesser_greatest]))] = A at hD ⊢
  have hS : va_S A s.heap s.heap [] := va_S.rf
  have hl := lv_entry [.ref a_this] (n := 2) (Nat.le_of_ble_eq_true rfl)
  rw [lg_entry_eq]
  generalize (lg_sl [.ref a_this] ++ List.replicate (2 - (lg_sl [.ref a_this]).length) Slot.unset).toArray = ls at hl ⊢
  have hl : lv_has ls 2 [(0, .ref a_this)] := hl
  show W p l e ({ frames := 0, cells := 0, slots := 0, locals := 0 } : Room) s m ([.ref a_this] : List Value).toArray below meth c s.heap [] 0 0 (MQ below (rwQ D (some (.int r)) [(a_this, .inr (8, [.ref a_letters, .int z_typed, .ref a_draft, .ref a_folk, .ref a_reader, .ref a_strength, .ref a_present, .ref a_history, .ref a_images, .ref a_kept, .ref a_planner, .ref a_gambler, .ref a_guesser, .long z_traced])), (a_guesser, .inr (2, [.ref a_folk, .ref a_strength, .ref a_present, .ref a_guesser_load, .ref a_guesser_over, .int o_z_guesser_seen, .ref a_guesser_borne, .int z_guesser_least, .int z_guesser_greatest]))] A) ([.ref a_this] : List Value).toArray s 0 0 A) (F0 m 0 ls [])
  have hP : va_P D vwCl [(a_this, .inr (8, [.ref a_letters, .int z_typed, .ref a_draft, .ref a_folk, .ref a_reader, .ref a_strength, .ref a_present, .ref a_history, .ref a_images, .ref a_kept, .ref a_planner, .ref a_gambler, .ref a_guesser, .long z_traced])), (a_guesser, .inr (2, [.ref a_folk, .ref a_strength, .ref a_present, .ref a_guesser_load, .ref a_guesser_over, .int z_guesser_seen, .ref a_guesser_borne, .int z_guesser_least, .int z_guesser_greatest]))] s.heap := hP
  have hD : va_D A [(a_this, .inr (8, [.ref a_letters, .int z_typed, .ref a_draft, .ref a_folk, .ref a_reader, .ref a_strength, .ref a_present, .ref a_history, .ref a_images, .ref a_kept, .ref a_planner, .ref a_gambler, .ref a_guesser, .long z_traced])), (a_guesser, .inr (2, [.ref a_folk, .ref a_strength, .ref a_present, .ref a_guesser_load, .ref a_guesser_over, .int z_guesser_seen, .ref a_guesser_borne, .int z_guesser_least, .int z_guesser_greatest]))] := hD
  unfold fX8_forget at hf
  obtain ⟨H, hH⟩ : ∃ H, H = s.heap := ⟨_, rfl⟩
  obtain ⟨locs, hlo⟩ : ∃ q : List Loc, q = [] := ⟨_, rfl⟩
  have hS : va_S A s.heap H locs := by rw [hH, hlo]; exact hS
  rw [← hH] at hP
  suffices hgo : W p l e ({ frames := 0, cells := 0, slots := 0, locals := 0 } : Room) s m ([.ref a_this] : List Value).toArray below meth c H locs 0 0 (MQ below (rwQ D (some (.int r)) [(a_this, .inr (8, [.ref a_letters, .int z_typed, .ref a_draft, .ref a_folk, .ref a_reader, .ref a_strength, .ref a_present, .ref a_history, .ref a_images, .ref a_kept, .ref a_planner, .ref a_gambler, .ref a_guesser, .long z_traced])), (a_guesser, .inr (2, [.ref a_folk, .ref a_strength, .ref a_present, .ref a_guesser_load, .ref a_guesser_over, .int o_z_guesser_seen, .ref a_guesser_borne, .int z_guesser_least, .int z_guesser_greatest]))] A) ([.ref a_this] : List Value).toArray s 0 0 A) (F0 m 0 ls []) by rw [hH, hlo] at hgo; exact hgo
  clear hH hlo
  refine lv_aload_n hx hb dX8_forget_0 rfl (lv_at hl 0 rfl) ?_
  refine va_get (D := D) (ci := 8) (v := .ref a_guesser) (C := RX8) (T := TX8) (N := 14) hx hb hts inTX8 hown hK hP 0 rfl rfl 12 (by decide) (hts _ q299) (fun _ h9 => h9) rfl dX8_forget_1 ?_
  refine va_get (D := D) (ci := 2) (v := .int z_guesser_seen) (C := RX2) (T := TX2) (N := 9) hx hb hts inTX2 hown hK hP 1 rfl rfl 5 (by decide) (hts _ q264) (fun _ h9 => h9) rfl dX8_forget_4 ?_
  refine lv_istore_n (lv' := [(1, .int z_guesser_seen), (0, .ref a_this)]) hx hb dX8_forget_7 rfl hl (by decide) rfl (fun ls hl => ?_)
  refine lv_aload_n hx hb dX8_forget_8 rfl (lv_at hl 1 rfl) ?_
  refine va_get (D := D) (ci := 8) (v := .ref a_guesser) (C := RX8) (T := TX8) (N := 14) hx hb hts inTX8 hown hK hP 0 rfl rfl 12 (by decide) (hts _ q299) (fun _ h9 => h9) rfl dX8_forget_9 ?_
  refine lv_iconst (v := 0) hx hb dX8_forget_12 (by decide) ?_
  refine va_put (D := D) (ci := 2) (v := .int 0) (ty := .int) (C := RX2) (T := TX2) (N := 9) hx hb hts inTX2 tyX2 tyX2_ok nmX2 hown hK hP hD hS 1 rfl rfl 5 (by decide) (hts _ q264) (fun _ h9 => h9) rfl (by decide +kernel) rfl rfl (Nat.le_of_ble_eq_true rfl) dX8_forget_13 (fun H locs hP hD hS => ?_)
  have hP : va_P D vwCl [(a_this, .inr (8, [.ref a_letters, .int z_typed, .ref a_draft, .ref a_folk, .ref a_reader, .ref a_strength, .ref a_present, .ref a_history, .ref a_images, .ref a_kept, .ref a_planner, .ref a_gambler, .ref a_guesser, .long z_traced])), (a_guesser, .inr (2, [.ref a_folk, .ref a_strength, .ref a_present, .ref a_guesser_load, .ref a_guesser_over, .int 0, .ref a_guesser_borne, .int z_guesser_least, .int z_guesser_greatest]))] H := hP
  have hD : va_D A [(a_this, .inr (8, [.ref a_letters, .int z_typed, .ref a_draft, .ref a_folk, .ref a_reader, .ref a_strength, .ref a_present, .ref a_history, .ref a_images, .ref a_kept, .ref a_planner, .ref a_gambler, .ref a_guesser, .long z_traced])), (a_guesser, .inr (2, [.ref a_folk, .ref a_strength, .ref a_present, .ref a_guesser_load, .ref a_guesser_over, .int 0, .ref a_guesser_borne, .int z_guesser_least, .int z_guesser_greatest]))] := hD
  refine lv_iload_n hx hb dX8_forget_16 rfl (lv_at hl 0 rfl) ?_
  cases hf
  exact W.iret hx hb hr (fun t ht _ => ⟨rfl, by rw [ht]; exact hP, hS.F ht⟩) hS.2.2 dX8_forget_17
theorem kX8_forget {p : Program} {l : Launch} {e : Env} {R : Room} {s : State} {m : MethodId} {args : Array Value} {below : List Frame} {meth : Method} {c : Code} {H : Heap} {locs : List Loc} {cells slots : Nat} {Q : State → Prop} {cc : ByteArray} {nL pc index : Nat} {ls : Array Slot} {rest : List Value} {own : String} {D : va_G} {cI cZ cQ : ClassId} {a_this a_letters a_draft a_folk a_reader a_strength a_present a_history a_images a_kept a_planner a_gambler a_guesser a_guesser_load a_guesser_over a_guesser_borne : Nat} {z_typed z_guesser_seen z_guesser_least z_guesser_greatest : Int32} {z_traced : Int64} {fu : Nat} {r : Int32} {o_z_guesser_seen : Int32} (hx : p.tables.exec = Jvm.exec) (hb : c.code = cc) (hml : c.maxLocals = nL) (hown : s.vm.findClass own = some m.cls) (hts : ∀ w ∈ TB, w.before args s = true) (hKW : KW D (TY cI cZ cQ) s) (hlk : Cond.methodLink own index yX8_forget ∈ TB) {ws : va_W} {A : Nat → Prop} {H0 : Heap} (hP : va_P D vwCl ws H) (hD : va_D A ws) (hS : va_S A H0 H locs) (is : List Nat) (hC : is.map (fun i => ws[i]?) = ([(a_this, .inr (8, [.ref a_letters, .int z_typed, .ref a_draft, .ref a_folk, .ref a_reader, .ref a_strength, .ref a_present, .ref a_history, .ref a_images, .ref a_kept, .ref a_planner, .ref a_gambler, .ref a_guesser, .long z_traced])), (a_guesser, .inr (2, [.ref a_folk, .ref a_strength, .ref a_present, .ref a_guesser_load, .ref a_guesser_over, .int z_guesser_seen, .ref a_guesser_borne, .int z_guesser_least, .int z_guesser_greatest]))] : va_W).map some) (hnd : va_nd is = true) (hf : fX8_forget fu z_guesser_seen = some (r, o_z_guesser_seen)) (hn : ls.size = nL) (hW : (rest.map fun v => v.category).sum ≤ 8) (hR : 0 + 1 ≤ R.frames ∧ 8 + (2 + 11) + 0 ≤ R.locals) (hcs : cells ≤ R.cells ∧ slots ≤ R.slots) (hdg : decode cc pc = .ok (.invokevirtual index, 3)) (kk : ∀ (H1 : Heap) (locs1 : List Loc), va_P D vwCl (rpl ws is [(a_this, .inr (8, [.ref a_letters, .int z_typed, .ref a_draft, .ref a_folk, .ref a_reader, .ref a_strength, .ref a_present, .ref a_history, .ref a_images, .ref a_kept, .ref a_planner, .ref a_gambler, .ref a_guesser, .long z_traced])), (a_guesser, .inr (2, [.ref a_folk, .ref a_strength, .ref a_present, .ref a_guesser_load, .ref a_guesser_over, .int o_z_guesser_seen, .ref a_guesser_borne, .int z_guesser_least, .int z_guesser_greatest]))]) H1 → va_D A (rpl ws is [(a_this, .inr (8, [.ref a_letters, .int z_typed, .ref a_draft, .ref a_folk, .ref a_reader, .ref a_strength, .ref a_present, .ref a_history, .ref a_images, .ref a_kept, .ref a_planner, .ref a_gambler, .ref a_guesser, .long z_traced])), (a_guesser, .inr (2, [.ref a_folk, .ref a_strength, .ref a_present, .ref a_guesser_load, .ref a_guesser_over, .int o_z_guesser_seen, .ref a_guesser_borne, .int z_guesser_least, .int z_guesser_greatest]))]) → va_S A H0 H1 locs1 → W p l e R s m args below meth c H1 locs1 cells slots Q (F0 m (pc + 3) ls (.int r :: rest))) : W p l e R s m args below meth c H locs cells slots Q (F0 m pc ls (.ref a_this :: rest)) :=
  x_rw (va_runV (As := []) (rest := rest) ⟨hx, hb, hml, hown, hts⟩ (tX8_forget hf) (cwV 0 hts (tb_V hlk q796 q797 q39 q798) rfl rfl rfl (by decide +kernel) hR) ⟨rwB, va_recv hKW.1 (subP hP hC) (ci := 8) (q0 := 0) rfl rfl, fun U hU hW => ⟨rfl, by rw [hU]; exact subP hP hC, hKW.warm hW, subD hD hC hnd⟩⟩ rfl rfl hn rfl (lv_room hW) hdg hcs) hP hD hS is hC rfl kk

-- HalfPlanks.words(II)I
def fX8_words (fu : Nat) (z_folk_size : Int32) (z_folk_planks : Int32) (z_present_came : Nat → Int32) (z_folk_kind : Nat → Int32) (z_folk_sworn : Int32) (z_folk_bank : Nat → Int32) (z_folk_word : Nat → Int32) (z_guesser_seen : Int32) (z_guesser_load : Nat → Int32) (z_guesser_over : Nat → Int32) (z_guesser_borne : Nat → Int32) (z_guesser_least : Int32) (z_guesser_greatest : Int32) (p1 : Int32) (p2 : Int32) : Option (Int32 × (Nat → Int32) × Int32 × Int32) :=
  (fX0_hasPerson fu z_folk_size p1).bind fun v1 =>
  (if v1 = 0 then
  some ((-1), z_guesser_borne, z_guesser_least, z_guesser_greatest)
  else
  (if p2 = 0 then
  (fX2_gather fu z_folk_planks z_present_came z_folk_size z_folk_kind z_folk_sworn z_folk_bank z_folk_word z_guesser_seen z_guesser_load z_guesser_over z_guesser_borne z_guesser_least z_guesser_greatest p1).bind fun (v3, g4, g5, g6) =>
  some (v3, g4, g5, g6)
  else if p2 = 1 then
  (fX2_leastWord fu z_folk_planks z_present_came z_folk_size z_folk_kind z_folk_sworn z_folk_bank z_folk_word z_guesser_seen z_guesser_load z_guesser_over z_guesser_borne z_guesser_least z_guesser_greatest p1).bind fun (v8, g9, g10, g11) =>
  some (v8, g9, g10, g11)
  else if p2 = 2 then
  (fX2_greatestWord fu z_folk_planks z_present_came z_folk_size z_folk_kind z_folk_sworn z_folk_bank z_folk_word z_guesser_seen z_guesser_load z_guesser_over z_guesser_borne z_guesser_least z_guesser_greatest p1).bind fun (v13, g14, g15, g16) =>
  some (v13, g14, g15, g16)
  else some ((-1), z_guesser_borne, z_guesser_least, z_guesser_greatest)))
set_option maxHeartbeats 4000000 in
set_option maxRecDepth 100000 in
theorem tX8_words {l : Launch} {D : va_G} {cI cZ cQ : ClassId} {a_this a_letters a_draft a_folk a_reader a_strength a_present a_history a_images a_kept a_planner a_gambler a_guesser a_folk_bank a_folk_kind a_folk_word a_folk_slow a_folk_told a_guesser_load a_guesser_over a_guesser_borne a_present_came a_present_under a_present_due a_strength_borne : Nat} {z_typed z_folk_planks z_folk_size z_folk_sworn z_guesser_seen z_guesser_least z_guesser_greatest z_present_day z_present_crossed p1 p2 : Int32} {z_traced : Int64} {z_present_came z_folk_kind z_folk_bank z_folk_word z_guesser_load z_guesser_over z_guesser_borne : Nat → Int32} {fu : Nat} {r : Int32} {o_z_guesser_least o_z_guesser_greatest : Int32} {o_z_guesser_borne : Nat → Int32} (hf : fX8_words fu z_folk_size z_folk_planks z_present_came z_folk_kind z_folk_sworn z_folk_bank z_folk_word z_guesser_seen z_guesser_load z_guesser_over z_guesser_borne z_guesser_least z_guesser_greatest p1 p2 = some (r, o_z_guesser_borne, o_z_guesser_least, o_z_guesser_greatest)) : Met l yX8_words (.code yX8_words cX8_words 3 (some .int) :: TB) ({ frames := 6, cells := 0, slots := 0, locals := 144 } : Room) (rwP D (TY cI cZ cQ) [(a_this, .inr (8, [.ref a_letters, .int z_typed, .ref a_draft, .ref a_folk, .ref a_reader, .ref a_strength, .ref a_present, .ref a_history, .ref a_images, .ref a_kept, .ref a_planner, .ref a_gambler, .ref a_guesser, .long z_traced])), (a_folk, .inr (0, [.int z_folk_planks, .int z_folk_size, .int z_folk_sworn, .ref a_folk_bank, .ref a_folk_kind, .ref a_folk_word, .ref a_folk_slow, .ref a_folk_told])), (a_guesser, .inr (2, [.ref a_folk, .ref a_strength, .ref a_present, .ref a_guesser_load, .ref a_guesser_over, .int z_guesser_seen, .ref a_guesser_borne, .int z_guesser_least, .int z_guesser_greatest])), (a_present, .inr (5, [.int z_present_day, .int z_present_crossed, .ref a_present_came, .ref a_present_under, .ref a_present_due])), (a_present_came, .inl (cI, 8, .inl z_present_came)), (a_strength, .inr (7, [.ref a_folk, .ref a_strength_borne])), (a_folk_kind, .inl (cI, 8, .inl z_folk_kind)), (a_folk_bank, .inl (cI, 8, .inl z_folk_bank)), (a_folk_word, .inl (cI, 8, .inl z_folk_word)), (a_guesser_load, .inl (cI, 6, .inl z_guesser_load)), (a_guesser_over, .inl (cZ, 6, .inl z_guesser_over)), (a_guesser_borne, .inl (cI, 9, .inl z_guesser_borne))] [.ref a_this, .int p1, .int p2]) (rwQ D (some (.int r)) [(a_this, .inr (8, [.ref a_letters, .int z_typed, .ref a_draft, .ref a_folk, .ref a_reader, .ref a_strength, .ref a_present, .ref a_history, .ref a_images, .ref a_kept, .ref a_planner, .ref a_gambler, .ref a_guesser, .long z_traced])), (a_folk, .inr (0, [.int z_folk_planks, .int z_folk_size, .int z_folk_sworn, .ref a_folk_bank, .ref a_folk_kind, .ref a_folk_word, .ref a_folk_slow, .ref a_folk_told])), (a_guesser, .inr (2, [.ref a_folk, .ref a_strength, .ref a_present, .ref a_guesser_load, .ref a_guesser_over, .int z_guesser_seen, .ref a_guesser_borne, .int o_z_guesser_least, .int o_z_guesser_greatest])), (a_present, .inr (5, [.int z_present_day, .int z_present_crossed, .ref a_present_came, .ref a_present_under, .ref a_present_due])), (a_present_came, .inl (cI, 8, .inl z_present_came)), (a_strength, .inr (7, [.ref a_folk, .ref a_strength_borne])), (a_folk_kind, .inl (cI, 8, .inl z_folk_kind)), (a_folk_bank, .inl (cI, 8, .inl z_folk_bank)), (a_folk_word, .inl (cI, 8, .inl z_folk_word)), (a_guesser_load, .inl (cI, 6, .inl z_guesser_load)), (a_guesser_over, .inl (cZ, 6, .inl z_guesser_over)), (a_guesser_borne, .inl (cI, 9, .inl o_z_guesser_borne))] (inW [(a_this, .inr (8, [.ref a_letters, .int z_typed, .ref a_draft, .ref a_folk, .ref a_reader, .ref a_strength, .ref a_present, .ref a_history, .ref a_images, .ref a_kept, .ref a_planner, .ref a_gambler, .ref a_guesser, .long z_traced])), (a_folk, .inr (0, [.int z_folk_planks, .int z_folk_size, .int z_folk_sworn, .ref a_folk_bank, .ref a_folk_kind, .ref a_folk_word, .ref a_folk_slow, .ref a_folk_told])), (a_guesser, .inr (2, [.ref a_folk, .ref a_strength, .ref a_present, .ref a_guesser_load, .ref a_guesser_over, .int z_guesser_seen, .ref a_guesser_borne, .int z_guesser_least, .int z_guesser_greatest])), (a_present, .inr (5, [.int z_present_day, .int z_present_crossed, .ref a_present_came, .ref a_present_under, .ref a_present_due])), (a_present_came, .inl (cI, 8, .inl z_present_came)), (a_strength, .inr (7, [.ref a_folk, .ref a_strength_borne])), (a_folk_kind, .inl (cI, 8, .inl z_folk_kind)), (a_folk_bank, .inl (cI, 8, .inl z_folk_bank)), (a_folk_word, .inl (cI, 8, .inl z_folk_word)), (a_guesser_load, .inl (cI, 6, .inl z_guesser_load)), (a_guesser_over, .inl (cZ, 6, .inl z_guesser_over)), (a_guesser_borne, .inl (cI, 9, .inl z_guesser_borne))])) 0 0 (inW [(a_this, .inr (8, [.ref a_letters, .int z_typed, .ref a_draft, .ref a_folk, .ref a_reader, .ref a_strength, .ref a_present, .ref a_history, .ref a_images, .ref a_kept, .ref a_planner, .ref a_gambler, .ref a_guesser, .long z_traced])), (a_folk, .inr (0, [.int z_folk_planks, .int z_folk_size, .int z_folk_sworn, .ref a_folk_bank, .ref a_folk_kind, .ref a_folk_word, .ref a_folk_slow, .ref a_folk_told])), (a_guesser, .inr (2, [.ref a_folk, .ref a_strength, .ref a_present, .ref a_guesser_load, .ref a_guesser_over, .int z_guesser_seen, .ref a_guesser_borne, .int z_guesser_least, .int z_guesser_greatest])), (a_present, .inr (5, [.int z_present_day, .int z_present_crossed, .ref a_present_came, .ref a_present_under, .ref a_present_due])), (a_present_came, .inl (cI, 8, .inl z_present_came)), (a_strength, .inr (7, [.ref a_folk, .ref a_strength_borne])), (a_folk_kind, .inl (cI, 8, .inl z_folk_kind)), (a_folk_bank, .inl (cI, 8, .inl z_folk_bank)), (a_folk_word, .inl (cI, 8, .inl z_folk_word)), (a_guesser_load, .inl (cI, 6, .inl z_guesser_load)), (a_guesser_over, .inl (cZ, 6, .inl z_guesser_over)), (a_guesser_borne, .inl (cI, 9, .inl z_guesser_borne))]) := by
  refine Met.ofW (cc := cX8_words) (maxL := 3) (ret := (some .int)) (by decide) rfl ?_
  intro p e s m args below meth c s₁ B hml hv
  obtain ⟨rfl, hP, hKW, hD0⟩ := hv
  have hx := B.exec
  have hb := B.bytes
  have hr := B.returns
  have hts : ∀ w ∈ TB, w.before ([.ref a_this, .int p1, .int p2] : List Value).toArray s = true := fun w h => atoms_spec (ws := .code yX8_words cX8_words 3 (some .int) :: TB) B.pre w (List.mem_cons_of_mem _ h)
  have hown : s.vm.findClass RX8 = some m.cls := findClass_of_methodNamed B.named
  have hlocks := B.notSynchronized
  have hK := hKW.1
  have hD := inW_D hD0
  generalize hAe : inW [(a_this, .inr (8, [.ref a_letters, .int z_typed, .ref a_draft, .ref a_folk, .ref a_reader, .ref a_strength, .ref a_present, .ref a_history, .ref a_images, .ref a_kept, .ref a_planner, .ref a_gambler, .ref a_guesser, .long z_traced])), (a_folk, .inr (0, [.int z_folk_planks, .int z_folk_size, .int z_folk_sworn, .ref a_folk_bank, .ref a_folk_kind, .ref a_folk_word, .ref a_folk_slow, .ref a_folk_told])), (a_guesser, .inr (2, [.ref a_folk, .ref a_strength, .ref a_present, .ref a_guesser_load, .ref a_guesser_over, .int z_guesser_seen, .ref a_guesser_borne, .int z_guesser_least, .int z_guesser_greatest])), (a_present, .inr (5, [.int z_present_day, .int z_present_crossed, .ref a_present_came, .ref a_present_under, .ref a_present_due])), (a_present_came, .inl (cI, 8, .inl z_present_came)), (a_strength, .inr (7, [.ref a_folk, .ref a_strength_borne])), (a_folk_kind, .inl (cI, 8, .inl z_folk_kind)), (a_folk_bank, .inl (cI, 8, .inl z_folk_bank)), (a_folk_word, .inl (cI, 8, .inl z_folk_word)), (a_guesser_load, .inl (cI, 6, .inl z_guesser_load)), (a_guesser_over, .inl (cZ, 6, .inl z_guesser_over)), (a_guesser_borne, .inl (cI, 9, .inl z_guesser_borne))] = A at hD ⊢
  have hS : va_S A s.heap s.heap [] := va_S.rf
  have hl := lv_entry [.ref a_this, .int p1, .int p2] (n := 3) (Nat.le_of_ble_eq_true rfl)
  rw [lg_entry_eq]
  generalize (lg_sl [.ref a_this, .int p1, .int p2] ++ List.replicate (3 - (lg_sl [.ref a_this, .int p1, .int p2]).length) Slot.unset).toArray = ls at hl ⊢
  have hl : lv_has ls 3 [(0, .ref a_this), (1, .int p1), (2, .int p2)] := hl
  show W p l e ({ frames := 6, cells := 0, slots := 0, locals := 144 } : Room) s m ([.ref a_this, .int p1, .int p2] : List Value).toArray below meth c s.heap [] 0 0 (MQ below (rwQ D (some (.int r)) [(a_this, .inr (8, [.ref a_letters, .int z_typed, .ref a_draft, .ref a_folk, .ref a_reader, .ref a_strength, .ref a_present, .ref a_history, .ref a_images, .ref a_kept, .ref a_planner, .ref a_gambler, .ref a_guesser, .long z_traced])), (a_folk, .inr (0, [.int z_folk_planks, .int z_folk_size, .int z_folk_sworn, .ref a_folk_bank, .ref a_folk_kind, .ref a_folk_word, .ref a_folk_slow, .ref a_folk_told])), (a_guesser, .inr (2, [.ref a_folk, .ref a_strength, .ref a_present, .ref a_guesser_load, .ref a_guesser_over, .int z_guesser_seen, .ref a_guesser_borne, .int o_z_guesser_least, .int o_z_guesser_greatest])), (a_present, .inr (5, [.int z_present_day, .int z_present_crossed, .ref a_present_came, .ref a_present_under, .ref a_present_due])), (a_present_came, .inl (cI, 8, .inl z_present_came)), (a_strength, .inr (7, [.ref a_folk, .ref a_strength_borne])), (a_folk_kind, .inl (cI, 8, .inl z_folk_kind)), (a_folk_bank, .inl (cI, 8, .inl z_folk_bank)), (a_folk_word, .inl (cI, 8, .inl z_folk_word)), (a_guesser_load, .inl (cI, 6, .inl z_guesser_load)), (a_guesser_over, .inl (cZ, 6, .inl z_guesser_over)), (a_guesser_borne, .inl (cI, 9, .inl o_z_guesser_borne))] A) ([.ref a_this, .int p1, .int p2] : List Value).toArray s 0 0 A) (F0 m 0 ls [])
  have hP : va_P D vwCl [(a_this, .inr (8, [.ref a_letters, .int z_typed, .ref a_draft, .ref a_folk, .ref a_reader, .ref a_strength, .ref a_present, .ref a_history, .ref a_images, .ref a_kept, .ref a_planner, .ref a_gambler, .ref a_guesser, .long z_traced])), (a_folk, .inr (0, [.int z_folk_planks, .int z_folk_size, .int z_folk_sworn, .ref a_folk_bank, .ref a_folk_kind, .ref a_folk_word, .ref a_folk_slow, .ref a_folk_told])), (a_guesser, .inr (2, [.ref a_folk, .ref a_strength, .ref a_present, .ref a_guesser_load, .ref a_guesser_over, .int z_guesser_seen, .ref a_guesser_borne, .int z_guesser_least, .int z_guesser_greatest])), (a_present, .inr (5, [.int z_present_day, .int z_present_crossed, .ref a_present_came, .ref a_present_under, .ref a_present_due])), (a_present_came, .inl (cI, 8, .inl z_present_came)), (a_strength, .inr (7, [.ref a_folk, .ref a_strength_borne])), (a_folk_kind, .inl (cI, 8, .inl z_folk_kind)), (a_folk_bank, .inl (cI, 8, .inl z_folk_bank)), (a_folk_word, .inl (cI, 8, .inl z_folk_word)), (a_guesser_load, .inl (cI, 6, .inl z_guesser_load)), (a_guesser_over, .inl (cZ, 6, .inl z_guesser_over)), (a_guesser_borne, .inl (cI, 9, .inl z_guesser_borne))] s.heap := hP
  have hD : va_D A [(a_this, .inr (8, [.ref a_letters, .int z_typed, .ref a_draft, .ref a_folk, .ref a_reader, .ref a_strength, .ref a_present, .ref a_history, .ref a_images, .ref a_kept, .ref a_planner, .ref a_gambler, .ref a_guesser, .long z_traced])), (a_folk, .inr (0, [.int z_folk_planks, .int z_folk_size, .int z_folk_sworn, .ref a_folk_bank, .ref a_folk_kind, .ref a_folk_word, .ref a_folk_slow, .ref a_folk_told])), (a_guesser, .inr (2, [.ref a_folk, .ref a_strength, .ref a_present, .ref a_guesser_load, .ref a_guesser_over, .int z_guesser_seen, .ref a_guesser_borne, .int z_guesser_least, .int z_guesser_greatest])), (a_present, .inr (5, [.int z_present_day, .int z_present_crossed, .ref a_present_came, .ref a_present_under, .ref a_present_due])), (a_present_came, .inl (cI, 8, .inl z_present_came)), (a_strength, .inr (7, [.ref a_folk, .ref a_strength_borne])), (a_folk_kind, .inl (cI, 8, .inl z_folk_kind)), (a_folk_bank, .inl (cI, 8, .inl z_folk_bank)), (a_folk_word, .inl (cI, 8, .inl z_folk_word)), (a_guesser_load, .inl (cI, 6, .inl z_guesser_load)), (a_guesser_over, .inl (cZ, 6, .inl z_guesser_over)), (a_guesser_borne, .inl (cI, 9, .inl z_guesser_borne))] := hD
  unfold fX8_words at hf
  obtain ⟨H, hH⟩ : ∃ H, H = s.heap := ⟨_, rfl⟩
  obtain ⟨locs, hlo⟩ : ∃ q : List Loc, q = [] := ⟨_, rfl⟩
  have hS : va_S A s.heap H locs := by rw [hH, hlo]; exact hS
  rw [← hH] at hP
  suffices hgo : W p l e ({ frames := 6, cells := 0, slots := 0, locals := 144 } : Room) s m ([.ref a_this, .int p1, .int p2] : List Value).toArray below meth c H locs 0 0 (MQ below (rwQ D (some (.int r)) [(a_this, .inr (8, [.ref a_letters, .int z_typed, .ref a_draft, .ref a_folk, .ref a_reader, .ref a_strength, .ref a_present, .ref a_history, .ref a_images, .ref a_kept, .ref a_planner, .ref a_gambler, .ref a_guesser, .long z_traced])), (a_folk, .inr (0, [.int z_folk_planks, .int z_folk_size, .int z_folk_sworn, .ref a_folk_bank, .ref a_folk_kind, .ref a_folk_word, .ref a_folk_slow, .ref a_folk_told])), (a_guesser, .inr (2, [.ref a_folk, .ref a_strength, .ref a_present, .ref a_guesser_load, .ref a_guesser_over, .int z_guesser_seen, .ref a_guesser_borne, .int o_z_guesser_least, .int o_z_guesser_greatest])), (a_present, .inr (5, [.int z_present_day, .int z_present_crossed, .ref a_present_came, .ref a_present_under, .ref a_present_due])), (a_present_came, .inl (cI, 8, .inl z_present_came)), (a_strength, .inr (7, [.ref a_folk, .ref a_strength_borne])), (a_folk_kind, .inl (cI, 8, .inl z_folk_kind)), (a_folk_bank, .inl (cI, 8, .inl z_folk_bank)), (a_folk_word, .inl (cI, 8, .inl z_folk_word)), (a_guesser_load, .inl (cI, 6, .inl z_guesser_load)), (a_guesser_over, .inl (cZ, 6, .inl z_guesser_over)), (a_guesser_borne, .inl (cI, 9, .inl o_z_guesser_borne))] A) ([.ref a_this, .int p1, .int p2] : List Value).toArray s 0 0 A) (F0 m 0 ls []) by rw [hH, hlo] at hgo; exact hgo
  clear hH hlo
  refine lv_aload_n hx hb dX8_words_0 rfl (lv_at hl 0 rfl) ?_
  refine va_get (D := D) (ci := 8) (v := .ref a_folk) (C := RX8) (T := TX8) (N := 14) hx hb hts inTX8 hown hK hP 0 rfl rfl 3 (by decide) (hts _ q290) (fun _ h9 => h9) rfl dX8_words_1 ?_
  refine lv_iload_n hx hb dX8_words_4 rfl (lv_at hl 1 rfl) ?_
  obtain ⟨v1, hv1, hf⟩ := ob hf
  refine kX0_hasPerson hx hb hml hown hts hKW q525 (hP.sub [1] rfl) hv1 hl.1 (Nat.le_of_ble_eq_true rfl) ⟨Nat.le_of_ble_eq_true rfl, Nat.le_of_ble_eq_true rfl⟩ ⟨Nat.zero_le _, Nat.zero_le _⟩ dX8_words_5 ?_
  refine lv_if_ne (tgt := 13) hx hb dX8_words_8 (by decide) (fun c2 => ?_) (fun c2 => ?_)
  · replace hf := ie hf c2
    refine lv_iload_n hx hb dX8_words_13 rfl (lv_at hl 2 rfl) ?_
    by_cases c7 : p2 = 0
    · replace hf := it hf c7
      refine lv_tableIn (off := 26) (tgt := 40) hx hb dX8_words_14 (by rw [c7]; decide) (by rw [c7]; decide) (by rw [c7]; decide +kernel) (by decide) ?_
      refine lv_aload_n hx hb dX8_words_40 rfl (lv_at hl 0 rfl) ?_
      refine va_get (D := D) (ci := 8) (v := .ref a_guesser) (C := RX8) (T := TX8) (N := 14) hx hb hts inTX8 hown hK hP 0 rfl rfl 12 (by decide) (hts _ q299) (fun _ h9 => h9) rfl dX8_words_41 ?_
      refine lv_iload_n hx hb dX8_words_44 rfl (lv_at hl 1 rfl) ?_
      obtain ⟨⟨v3, g4, g5, g6⟩, hv3, hf⟩ := ob hf
      dsimp only at hf
      refine kX2_gather hx hb hml hown hts hKW q803 hP hD hS [2, 1, 3, 4, 5, 6, 7, 8, 9, 10, 11] rfl (by decide) hv3 hl.1 (Nat.le_of_ble_eq_true rfl) ⟨Nat.le_of_ble_eq_true rfl, Nat.le_of_ble_eq_true rfl⟩ ⟨Nat.zero_le _, Nat.zero_le _⟩ dX8_words_45 (fun H locs hP hD hS => ?_)
      have hP : va_P D vwCl [(a_this, .inr (8, [.ref a_letters, .int z_typed, .ref a_draft, .ref a_folk, .ref a_reader, .ref a_strength, .ref a_present, .ref a_history, .ref a_images, .ref a_kept, .ref a_planner, .ref a_gambler, .ref a_guesser, .long z_traced])), (a_folk, .inr (0, [.int z_folk_planks, .int z_folk_size, .int z_folk_sworn, .ref a_folk_bank, .ref a_folk_kind, .ref a_folk_word, .ref a_folk_slow, .ref a_folk_told])), (a_guesser, .inr (2, [.ref a_folk, .ref a_strength, .ref a_present, .ref a_guesser_load, .ref a_guesser_over, .int z_guesser_seen, .ref a_guesser_borne, .int g5, .int g6])), (a_present, .inr (5, [.int z_present_day, .int z_present_crossed, .ref a_present_came, .ref a_present_under, .ref a_present_due])), (a_present_came, .inl (cI, 8, .inl z_present_came)), (a_strength, .inr (7, [.ref a_folk, .ref a_strength_borne])), (a_folk_kind, .inl (cI, 8, .inl z_folk_kind)), (a_folk_bank, .inl (cI, 8, .inl z_folk_bank)), (a_folk_word, .inl (cI, 8, .inl z_folk_word)), (a_guesser_load, .inl (cI, 6, .inl z_guesser_load)), (a_guesser_over, .inl (cZ, 6, .inl z_guesser_over)), (a_guesser_borne, .inl (cI, 9, .inl g4))] H := hP
      have hD : va_D A [(a_this, .inr (8, [.ref a_letters, .int z_typed, .ref a_draft, .ref a_folk, .ref a_reader, .ref a_strength, .ref a_present, .ref a_history, .ref a_images, .ref a_kept, .ref a_planner, .ref a_gambler, .ref a_guesser, .long z_traced])), (a_folk, .inr (0, [.int z_folk_planks, .int z_folk_size, .int z_folk_sworn, .ref a_folk_bank, .ref a_folk_kind, .ref a_folk_word, .ref a_folk_slow, .ref a_folk_told])), (a_guesser, .inr (2, [.ref a_folk, .ref a_strength, .ref a_present, .ref a_guesser_load, .ref a_guesser_over, .int z_guesser_seen, .ref a_guesser_borne, .int g5, .int g6])), (a_present, .inr (5, [.int z_present_day, .int z_present_crossed, .ref a_present_came, .ref a_present_under, .ref a_present_due])), (a_present_came, .inl (cI, 8, .inl z_present_came)), (a_strength, .inr (7, [.ref a_folk, .ref a_strength_borne])), (a_folk_kind, .inl (cI, 8, .inl z_folk_kind)), (a_folk_bank, .inl (cI, 8, .inl z_folk_bank)), (a_folk_word, .inl (cI, 8, .inl z_folk_word)), (a_guesser_load, .inl (cI, 6, .inl z_guesser_load)), (a_guesser_over, .inl (cZ, 6, .inl z_guesser_over)), (a_guesser_borne, .inl (cI, 9, .inl g4))] := hD
      cases hf
      exact W.iret hx hb hr (fun t ht _ => ⟨rfl, by rw [ht]; exact hP, hS.F ht⟩) hS.2.2 dX8_words_48
    replace hf := ie hf c7
    by_cases c12 : p2 = 1
    · replace hf := it hf c12
      refine lv_tableIn (off := 35) (tgt := 49) hx hb dX8_words_14 (by rw [c12]; decide) (by rw [c12]; decide) (by rw [c12]; decide +kernel) (by decide) ?_
      refine lv_aload_n hx hb dX8_words_49 rfl (lv_at hl 0 rfl) ?_
      refine va_get (D := D) (ci := 8) (v := .ref a_guesser) (C := RX8) (T := TX8) (N := 14) hx hb hts inTX8 hown hK hP 0 rfl rfl 12 (by decide) (hts _ q299) (fun _ h9 => h9) rfl dX8_words_50 ?_
      refine lv_iload_n hx hb dX8_words_53 rfl (lv_at hl 1 rfl) ?_
      obtain ⟨⟨v8, g9, g10, g11⟩, hv8, hf⟩ := ob hf
      dsimp only at hf
      refine kX2_leastWord hx hb hml hown hts hKW q817 hP hD hS [2, 1, 3, 4, 5, 6, 7, 8, 9, 10, 11] rfl (by decide) hv8 hl.1 (Nat.le_of_ble_eq_true rfl) ⟨Nat.le_of_ble_eq_true rfl, Nat.le_of_ble_eq_true rfl⟩ ⟨Nat.zero_le _, Nat.zero_le _⟩ dX8_words_54 (fun H locs hP hD hS => ?_)
      have hP : va_P D vwCl [(a_this, .inr (8, [.ref a_letters, .int z_typed, .ref a_draft, .ref a_folk, .ref a_reader, .ref a_strength, .ref a_present, .ref a_history, .ref a_images, .ref a_kept, .ref a_planner, .ref a_gambler, .ref a_guesser, .long z_traced])), (a_folk, .inr (0, [.int z_folk_planks, .int z_folk_size, .int z_folk_sworn, .ref a_folk_bank, .ref a_folk_kind, .ref a_folk_word, .ref a_folk_slow, .ref a_folk_told])), (a_guesser, .inr (2, [.ref a_folk, .ref a_strength, .ref a_present, .ref a_guesser_load, .ref a_guesser_over, .int z_guesser_seen, .ref a_guesser_borne, .int g10, .int g11])), (a_present, .inr (5, [.int z_present_day, .int z_present_crossed, .ref a_present_came, .ref a_present_under, .ref a_present_due])), (a_present_came, .inl (cI, 8, .inl z_present_came)), (a_strength, .inr (7, [.ref a_folk, .ref a_strength_borne])), (a_folk_kind, .inl (cI, 8, .inl z_folk_kind)), (a_folk_bank, .inl (cI, 8, .inl z_folk_bank)), (a_folk_word, .inl (cI, 8, .inl z_folk_word)), (a_guesser_load, .inl (cI, 6, .inl z_guesser_load)), (a_guesser_over, .inl (cZ, 6, .inl z_guesser_over)), (a_guesser_borne, .inl (cI, 9, .inl g9))] H := hP
      have hD : va_D A [(a_this, .inr (8, [.ref a_letters, .int z_typed, .ref a_draft, .ref a_folk, .ref a_reader, .ref a_strength, .ref a_present, .ref a_history, .ref a_images, .ref a_kept, .ref a_planner, .ref a_gambler, .ref a_guesser, .long z_traced])), (a_folk, .inr (0, [.int z_folk_planks, .int z_folk_size, .int z_folk_sworn, .ref a_folk_bank, .ref a_folk_kind, .ref a_folk_word, .ref a_folk_slow, .ref a_folk_told])), (a_guesser, .inr (2, [.ref a_folk, .ref a_strength, .ref a_present, .ref a_guesser_load, .ref a_guesser_over, .int z_guesser_seen, .ref a_guesser_borne, .int g10, .int g11])), (a_present, .inr (5, [.int z_present_day, .int z_present_crossed, .ref a_present_came, .ref a_present_under, .ref a_present_due])), (a_present_came, .inl (cI, 8, .inl z_present_came)), (a_strength, .inr (7, [.ref a_folk, .ref a_strength_borne])), (a_folk_kind, .inl (cI, 8, .inl z_folk_kind)), (a_folk_bank, .inl (cI, 8, .inl z_folk_bank)), (a_folk_word, .inl (cI, 8, .inl z_folk_word)), (a_guesser_load, .inl (cI, 6, .inl z_guesser_load)), (a_guesser_over, .inl (cZ, 6, .inl z_guesser_over)), (a_guesser_borne, .inl (cI, 9, .inl g9))] := hD
      cases hf
      exact W.iret hx hb hr (fun t ht _ => ⟨rfl, by rw [ht]; exact hP, hS.F ht⟩) hS.2.2 dX8_words_57
    replace hf := ie hf c12
    by_cases c17 : p2 = 2
    · replace hf := it hf c17
      refine lv_tableIn (off := 44) (tgt := 58) hx hb dX8_words_14 (by rw [c17]; decide) (by rw [c17]; decide) (by rw [c17]; decide +kernel) (by decide) ?_
      refine lv_aload_n hx hb dX8_words_58 rfl (lv_at hl 0 rfl) ?_
      refine va_get (D := D) (ci := 8) (v := .ref a_guesser) (C := RX8) (T := TX8) (N := 14) hx hb hts inTX8 hown hK hP 0 rfl rfl 12 (by decide) (hts _ q299) (fun _ h9 => h9) rfl dX8_words_59 ?_
      refine lv_iload_n hx hb dX8_words_62 rfl (lv_at hl 1 rfl) ?_
      obtain ⟨⟨v13, g14, g15, g16⟩, hv13, hf⟩ := ob hf
      dsimp only at hf
      refine kX2_greatestWord hx hb hml hown hts hKW q822 hP hD hS [2, 1, 3, 4, 5, 6, 7, 8, 9, 10, 11] rfl (by decide) hv13 hl.1 (Nat.le_of_ble_eq_true rfl) ⟨Nat.le_of_ble_eq_true rfl, Nat.le_of_ble_eq_true rfl⟩ ⟨Nat.zero_le _, Nat.zero_le _⟩ dX8_words_63 (fun H locs hP hD hS => ?_)
      have hP : va_P D vwCl [(a_this, .inr (8, [.ref a_letters, .int z_typed, .ref a_draft, .ref a_folk, .ref a_reader, .ref a_strength, .ref a_present, .ref a_history, .ref a_images, .ref a_kept, .ref a_planner, .ref a_gambler, .ref a_guesser, .long z_traced])), (a_folk, .inr (0, [.int z_folk_planks, .int z_folk_size, .int z_folk_sworn, .ref a_folk_bank, .ref a_folk_kind, .ref a_folk_word, .ref a_folk_slow, .ref a_folk_told])), (a_guesser, .inr (2, [.ref a_folk, .ref a_strength, .ref a_present, .ref a_guesser_load, .ref a_guesser_over, .int z_guesser_seen, .ref a_guesser_borne, .int g15, .int g16])), (a_present, .inr (5, [.int z_present_day, .int z_present_crossed, .ref a_present_came, .ref a_present_under, .ref a_present_due])), (a_present_came, .inl (cI, 8, .inl z_present_came)), (a_strength, .inr (7, [.ref a_folk, .ref a_strength_borne])), (a_folk_kind, .inl (cI, 8, .inl z_folk_kind)), (a_folk_bank, .inl (cI, 8, .inl z_folk_bank)), (a_folk_word, .inl (cI, 8, .inl z_folk_word)), (a_guesser_load, .inl (cI, 6, .inl z_guesser_load)), (a_guesser_over, .inl (cZ, 6, .inl z_guesser_over)), (a_guesser_borne, .inl (cI, 9, .inl g14))] H := hP
      have hD : va_D A [(a_this, .inr (8, [.ref a_letters, .int z_typed, .ref a_draft, .ref a_folk, .ref a_reader, .ref a_strength, .ref a_present, .ref a_history, .ref a_images, .ref a_kept, .ref a_planner, .ref a_gambler, .ref a_guesser, .long z_traced])), (a_folk, .inr (0, [.int z_folk_planks, .int z_folk_size, .int z_folk_sworn, .ref a_folk_bank, .ref a_folk_kind, .ref a_folk_word, .ref a_folk_slow, .ref a_folk_told])), (a_guesser, .inr (2, [.ref a_folk, .ref a_strength, .ref a_present, .ref a_guesser_load, .ref a_guesser_over, .int z_guesser_seen, .ref a_guesser_borne, .int g15, .int g16])), (a_present, .inr (5, [.int z_present_day, .int z_present_crossed, .ref a_present_came, .ref a_present_under, .ref a_present_due])), (a_present_came, .inl (cI, 8, .inl z_present_came)), (a_strength, .inr (7, [.ref a_folk, .ref a_strength_borne])), (a_folk_kind, .inl (cI, 8, .inl z_folk_kind)), (a_folk_bank, .inl (cI, 8, .inl z_folk_bank)), (a_folk_word, .inl (cI, 8, .inl z_folk_word)), (a_guesser_load, .inl (cI, 6, .inl z_guesser_load)), (a_guesser_over, .inl (cZ, 6, .inl z_guesser_over)), (a_guesser_borne, .inl (cI, 9, .inl g14))] := hD
      cases hf
      exact W.iret hx hb hr (fun t ht _ => ⟨rfl, by rw [ht]; exact hP, hS.F ht⟩) hS.2.2 dX8_words_66
    replace hf := ie hf c17
    refine lv_tableOut (tgt := 67) hx hb dX8_words_14 (by have := lv_neT (a := 0) c7 (by decide); have := lv_neT (a := 1) c12 (by decide); have := lv_neT (a := 2) c17 (by decide); omega) (by decide) ?_
    refine lv_iconst (v := -1) hx hb dX8_words_67 (by decide) ?_
    cases hf
    exact W.iret hx hb hr (fun t ht _ => ⟨rfl, by rw [ht]; exact hP, hS.F ht⟩) hS.2.2 dX8_words_68
  · replace hf := it hf c2
    refine lv_iconst (v := -1) hx hb dX8_words_11 (by decide) ?_
    cases hf
    exact W.iret hx hb hr (fun t ht _ => ⟨rfl, by rw [ht]; exact hP, hS.F ht⟩) hS.2.2 dX8_words_12
theorem kX8_words {p : Program} {l : Launch} {e : Env} {R : Room} {s : State} {m : MethodId} {args : Array Value} {below : List Frame} {meth : Method} {c : Code} {H : Heap} {locs : List Loc} {cells slots : Nat} {Q : State → Prop} {cc : ByteArray} {nL pc index : Nat} {ls : Array Slot} {rest : List Value} {own : String} {D : va_G} {cI cZ cQ : ClassId} {a_this a_letters a_draft a_folk a_reader a_strength a_present a_history a_images a_kept a_planner a_gambler a_guesser a_folk_bank a_folk_kind a_folk_word a_folk_slow a_folk_told a_guesser_load a_guesser_over a_guesser_borne a_present_came a_present_under a_present_due a_strength_borne : Nat} {z_typed z_folk_planks z_folk_size z_folk_sworn z_guesser_seen z_guesser_least z_guesser_greatest z_present_day z_present_crossed p1 p2 : Int32} {z_traced : Int64} {z_present_came z_folk_kind z_folk_bank z_folk_word z_guesser_load z_guesser_over z_guesser_borne : Nat → Int32} {fu : Nat} {r : Int32} {o_z_guesser_least o_z_guesser_greatest : Int32} {o_z_guesser_borne : Nat → Int32} (hx : p.tables.exec = Jvm.exec) (hb : c.code = cc) (hml : c.maxLocals = nL) (hown : s.vm.findClass own = some m.cls) (hts : ∀ w ∈ TB, w.before args s = true) (hKW : KW D (TY cI cZ cQ) s) (hlk : Cond.methodLink own index yX8_words ∈ TB) {ws : va_W} {A : Nat → Prop} {H0 : Heap} (hP : va_P D vwCl ws H) (hD : va_D A ws) (hS : va_S A H0 H locs) (is : List Nat) (hC : is.map (fun i => ws[i]?) = ([(a_this, .inr (8, [.ref a_letters, .int z_typed, .ref a_draft, .ref a_folk, .ref a_reader, .ref a_strength, .ref a_present, .ref a_history, .ref a_images, .ref a_kept, .ref a_planner, .ref a_gambler, .ref a_guesser, .long z_traced])), (a_folk, .inr (0, [.int z_folk_planks, .int z_folk_size, .int z_folk_sworn, .ref a_folk_bank, .ref a_folk_kind, .ref a_folk_word, .ref a_folk_slow, .ref a_folk_told])), (a_guesser, .inr (2, [.ref a_folk, .ref a_strength, .ref a_present, .ref a_guesser_load, .ref a_guesser_over, .int z_guesser_seen, .ref a_guesser_borne, .int z_guesser_least, .int z_guesser_greatest])), (a_present, .inr (5, [.int z_present_day, .int z_present_crossed, .ref a_present_came, .ref a_present_under, .ref a_present_due])), (a_present_came, .inl (cI, 8, .inl z_present_came)), (a_strength, .inr (7, [.ref a_folk, .ref a_strength_borne])), (a_folk_kind, .inl (cI, 8, .inl z_folk_kind)), (a_folk_bank, .inl (cI, 8, .inl z_folk_bank)), (a_folk_word, .inl (cI, 8, .inl z_folk_word)), (a_guesser_load, .inl (cI, 6, .inl z_guesser_load)), (a_guesser_over, .inl (cZ, 6, .inl z_guesser_over)), (a_guesser_borne, .inl (cI, 9, .inl z_guesser_borne))] : va_W).map some) (hnd : va_nd is = true) (hf : fX8_words fu z_folk_size z_folk_planks z_present_came z_folk_kind z_folk_sworn z_folk_bank z_folk_word z_guesser_seen z_guesser_load z_guesser_over z_guesser_borne z_guesser_least z_guesser_greatest p1 p2 = some (r, o_z_guesser_borne, o_z_guesser_least, o_z_guesser_greatest)) (hn : ls.size = nL) (hW : (rest.map fun v => v.category).sum ≤ 8) (hR : 6 + 1 ≤ R.frames ∧ 8 + (3 + 11) + 144 ≤ R.locals) (hcs : cells ≤ R.cells ∧ slots ≤ R.slots) (hdg : decode cc pc = .ok (.invokevirtual index, 3)) (kk : ∀ (H1 : Heap) (locs1 : List Loc), va_P D vwCl (rpl ws is [(a_this, .inr (8, [.ref a_letters, .int z_typed, .ref a_draft, .ref a_folk, .ref a_reader, .ref a_strength, .ref a_present, .ref a_history, .ref a_images, .ref a_kept, .ref a_planner, .ref a_gambler, .ref a_guesser, .long z_traced])), (a_folk, .inr (0, [.int z_folk_planks, .int z_folk_size, .int z_folk_sworn, .ref a_folk_bank, .ref a_folk_kind, .ref a_folk_word, .ref a_folk_slow, .ref a_folk_told])), (a_guesser, .inr (2, [.ref a_folk, .ref a_strength, .ref a_present, .ref a_guesser_load, .ref a_guesser_over, .int z_guesser_seen, .ref a_guesser_borne, .int o_z_guesser_least, .int o_z_guesser_greatest])), (a_present, .inr (5, [.int z_present_day, .int z_present_crossed, .ref a_present_came, .ref a_present_under, .ref a_present_due])), (a_present_came, .inl (cI, 8, .inl z_present_came)), (a_strength, .inr (7, [.ref a_folk, .ref a_strength_borne])), (a_folk_kind, .inl (cI, 8, .inl z_folk_kind)), (a_folk_bank, .inl (cI, 8, .inl z_folk_bank)), (a_folk_word, .inl (cI, 8, .inl z_folk_word)), (a_guesser_load, .inl (cI, 6, .inl z_guesser_load)), (a_guesser_over, .inl (cZ, 6, .inl z_guesser_over)), (a_guesser_borne, .inl (cI, 9, .inl o_z_guesser_borne))]) H1 → va_D A (rpl ws is [(a_this, .inr (8, [.ref a_letters, .int z_typed, .ref a_draft, .ref a_folk, .ref a_reader, .ref a_strength, .ref a_present, .ref a_history, .ref a_images, .ref a_kept, .ref a_planner, .ref a_gambler, .ref a_guesser, .long z_traced])), (a_folk, .inr (0, [.int z_folk_planks, .int z_folk_size, .int z_folk_sworn, .ref a_folk_bank, .ref a_folk_kind, .ref a_folk_word, .ref a_folk_slow, .ref a_folk_told])), (a_guesser, .inr (2, [.ref a_folk, .ref a_strength, .ref a_present, .ref a_guesser_load, .ref a_guesser_over, .int z_guesser_seen, .ref a_guesser_borne, .int o_z_guesser_least, .int o_z_guesser_greatest])), (a_present, .inr (5, [.int z_present_day, .int z_present_crossed, .ref a_present_came, .ref a_present_under, .ref a_present_due])), (a_present_came, .inl (cI, 8, .inl z_present_came)), (a_strength, .inr (7, [.ref a_folk, .ref a_strength_borne])), (a_folk_kind, .inl (cI, 8, .inl z_folk_kind)), (a_folk_bank, .inl (cI, 8, .inl z_folk_bank)), (a_folk_word, .inl (cI, 8, .inl z_folk_word)), (a_guesser_load, .inl (cI, 6, .inl z_guesser_load)), (a_guesser_over, .inl (cZ, 6, .inl z_guesser_over)), (a_guesser_borne, .inl (cI, 9, .inl o_z_guesser_borne))]) → va_S A H0 H1 locs1 → W p l e R s m args below meth c H1 locs1 cells slots Q (F0 m (pc + 3) ls (.int r :: rest))) : W p l e R s m args below meth c H locs cells slots Q (F0 m pc ls (.int p2 :: .int p1 :: .ref a_this :: rest)) :=
  x_rw (va_runV (As := [.int p1, .int p2]) (rest := rest) ⟨hx, hb, hml, hown, hts⟩ (tX8_words hf) (cwV 2 hts (tb_V hlk q800 q801 q39 q802) rfl rfl rfl (by decide +kernel) hR) ⟨rwB, va_recv hKW.1 (subP hP hC) (ci := 8) (q0 := 0) rfl rfl, fun U hU hW => ⟨rfl, by rw [hU]; exact subP hP hC, hKW.warm hW, subD hD hC hnd⟩⟩ rfl rfl hn rfl (lv_room hW) hdg hcs) hP hD hS is hC rfl kk

-- HalfPlanks.next(I)I
def fX8_next (fu : Nat) (z_folk_size : Int32) (z_folk_planks : Int32) (z_present_came : Nat → Int32) (z_folk_kind : Nat → Int32) (z_folk_sworn : Int32) (z_folk_bank : Nat → Int32) (z_folk_word : Nat → Int32) (z_guesser_seen : Int32) (z_guesser_load : Nat → Int32) (z_guesser_over : Nat → Int32) (z_guesser_borne : Nat → Int32) (z_guesser_least : Int32) (z_guesser_greatest : Int32) (p1 : Int32) : Option (Int32 × (Nat → Int32) × Int32 × Int32) :=
  (fX0_hasPerson fu z_folk_size p1).bind fun v1 =>
  (if v1 = 0 then
  some ((-1), z_guesser_borne, z_guesser_least, z_guesser_greatest)
  else
  (fX2_bestTry fu z_folk_planks z_present_came z_folk_size z_folk_kind z_folk_sworn z_folk_bank z_folk_word z_guesser_seen z_guesser_load z_guesser_over z_guesser_borne z_guesser_least z_guesser_greatest p1).bind fun (v3, g4, g5, g6) =>
  some (v3, g4, g5, g6))
set_option maxHeartbeats 4000000 in
set_option maxRecDepth 100000 in
theorem tX8_next {l : Launch} {D : va_G} {cI cZ cQ : ClassId} {a_this a_letters a_draft a_folk a_reader a_strength a_present a_history a_images a_kept a_planner a_gambler a_guesser a_folk_bank a_folk_kind a_folk_word a_folk_slow a_folk_told a_guesser_load a_guesser_over a_guesser_borne a_present_came a_present_under a_present_due a_strength_borne : Nat} {z_typed z_folk_planks z_folk_size z_folk_sworn z_guesser_seen z_guesser_least z_guesser_greatest z_present_day z_present_crossed p1 : Int32} {z_traced : Int64} {z_present_came z_folk_kind z_folk_bank z_folk_word z_guesser_load z_guesser_over z_guesser_borne : Nat → Int32} {fu : Nat} {r : Int32} {o_z_guesser_least o_z_guesser_greatest : Int32} {o_z_guesser_borne : Nat → Int32} (hf : fX8_next fu z_folk_size z_folk_planks z_present_came z_folk_kind z_folk_sworn z_folk_bank z_folk_word z_guesser_seen z_guesser_load z_guesser_over z_guesser_borne z_guesser_least z_guesser_greatest p1 = some (r, o_z_guesser_borne, o_z_guesser_least, o_z_guesser_greatest)) : Met l yX8_next (.code yX8_next cX8_next 2 (some .int) :: TB) ({ frames := 6, cells := 0, slots := 0, locals := 150 } : Room) (rwP D (TY cI cZ cQ) [(a_this, .inr (8, [.ref a_letters, .int z_typed, .ref a_draft, .ref a_folk, .ref a_reader, .ref a_strength, .ref a_present, .ref a_history, .ref a_images, .ref a_kept, .ref a_planner, .ref a_gambler, .ref a_guesser, .long z_traced])), (a_folk, .inr (0, [.int z_folk_planks, .int z_folk_size, .int z_folk_sworn, .ref a_folk_bank, .ref a_folk_kind, .ref a_folk_word, .ref a_folk_slow, .ref a_folk_told])), (a_guesser, .inr (2, [.ref a_folk, .ref a_strength, .ref a_present, .ref a_guesser_load, .ref a_guesser_over, .int z_guesser_seen, .ref a_guesser_borne, .int z_guesser_least, .int z_guesser_greatest])), (a_present, .inr (5, [.int z_present_day, .int z_present_crossed, .ref a_present_came, .ref a_present_under, .ref a_present_due])), (a_present_came, .inl (cI, 8, .inl z_present_came)), (a_strength, .inr (7, [.ref a_folk, .ref a_strength_borne])), (a_folk_kind, .inl (cI, 8, .inl z_folk_kind)), (a_folk_bank, .inl (cI, 8, .inl z_folk_bank)), (a_folk_word, .inl (cI, 8, .inl z_folk_word)), (a_guesser_load, .inl (cI, 6, .inl z_guesser_load)), (a_guesser_over, .inl (cZ, 6, .inl z_guesser_over)), (a_guesser_borne, .inl (cI, 9, .inl z_guesser_borne))] [.ref a_this, .int p1]) (rwQ D (some (.int r)) [(a_this, .inr (8, [.ref a_letters, .int z_typed, .ref a_draft, .ref a_folk, .ref a_reader, .ref a_strength, .ref a_present, .ref a_history, .ref a_images, .ref a_kept, .ref a_planner, .ref a_gambler, .ref a_guesser, .long z_traced])), (a_folk, .inr (0, [.int z_folk_planks, .int z_folk_size, .int z_folk_sworn, .ref a_folk_bank, .ref a_folk_kind, .ref a_folk_word, .ref a_folk_slow, .ref a_folk_told])), (a_guesser, .inr (2, [.ref a_folk, .ref a_strength, .ref a_present, .ref a_guesser_load, .ref a_guesser_over, .int z_guesser_seen, .ref a_guesser_borne, .int o_z_guesser_least, .int o_z_guesser_greatest])), (a_present, .inr (5, [.int z_present_day, .int z_present_crossed, .ref a_present_came, .ref a_present_under, .ref a_present_due])), (a_present_came, .inl (cI, 8, .inl z_present_came)), (a_strength, .inr (7, [.ref a_folk, .ref a_strength_borne])), (a_folk_kind, .inl (cI, 8, .inl z_folk_kind)), (a_folk_bank, .inl (cI, 8, .inl z_folk_bank)), (a_folk_word, .inl (cI, 8, .inl z_folk_word)), (a_guesser_load, .inl (cI, 6, .inl z_guesser_load)), (a_guesser_over, .inl (cZ, 6, .inl z_guesser_over)), (a_guesser_borne, .inl (cI, 9, .inl o_z_guesser_borne))] (inW [(a_this, .inr (8, [.ref a_letters, .int z_typed, .ref a_draft, .ref a_folk, .ref a_reader, .ref a_strength, .ref a_present, .ref a_history, .ref a_images, .ref a_kept, .ref a_planner, .ref a_gambler, .ref a_guesser, .long z_traced])), (a_folk, .inr (0, [.int z_folk_planks, .int z_folk_size, .int z_folk_sworn, .ref a_folk_bank, .ref a_folk_kind, .ref a_folk_word, .ref a_folk_slow, .ref a_folk_told])), (a_guesser, .inr (2, [.ref a_folk, .ref a_strength, .ref a_present, .ref a_guesser_load, .ref a_guesser_over, .int z_guesser_seen, .ref a_guesser_borne, .int z_guesser_least, .int z_guesser_greatest])), (a_present, .inr (5, [.int z_present_day, .int z_present_crossed, .ref a_present_came, .ref a_present_under, .ref a_present_due])), (a_present_came, .inl (cI, 8, .inl z_present_came)), (a_strength, .inr (7, [.ref a_folk, .ref a_strength_borne])), (a_folk_kind, .inl (cI, 8, .inl z_folk_kind)), (a_folk_bank, .inl (cI, 8, .inl z_folk_bank)), (a_folk_word, .inl (cI, 8, .inl z_folk_word)), (a_guesser_load, .inl (cI, 6, .inl z_guesser_load)), (a_guesser_over, .inl (cZ, 6, .inl z_guesser_over)), (a_guesser_borne, .inl (cI, 9, .inl z_guesser_borne))])) 0 0 (inW [(a_this, .inr (8, [.ref a_letters, .int z_typed, .ref a_draft, .ref a_folk, .ref a_reader, .ref a_strength, .ref a_present, .ref a_history, .ref a_images, .ref a_kept, .ref a_planner, .ref a_gambler, .ref a_guesser, .long z_traced])), (a_folk, .inr (0, [.int z_folk_planks, .int z_folk_size, .int z_folk_sworn, .ref a_folk_bank, .ref a_folk_kind, .ref a_folk_word, .ref a_folk_slow, .ref a_folk_told])), (a_guesser, .inr (2, [.ref a_folk, .ref a_strength, .ref a_present, .ref a_guesser_load, .ref a_guesser_over, .int z_guesser_seen, .ref a_guesser_borne, .int z_guesser_least, .int z_guesser_greatest])), (a_present, .inr (5, [.int z_present_day, .int z_present_crossed, .ref a_present_came, .ref a_present_under, .ref a_present_due])), (a_present_came, .inl (cI, 8, .inl z_present_came)), (a_strength, .inr (7, [.ref a_folk, .ref a_strength_borne])), (a_folk_kind, .inl (cI, 8, .inl z_folk_kind)), (a_folk_bank, .inl (cI, 8, .inl z_folk_bank)), (a_folk_word, .inl (cI, 8, .inl z_folk_word)), (a_guesser_load, .inl (cI, 6, .inl z_guesser_load)), (a_guesser_over, .inl (cZ, 6, .inl z_guesser_over)), (a_guesser_borne, .inl (cI, 9, .inl z_guesser_borne))]) := by
  refine Met.ofW (cc := cX8_next) (maxL := 2) (ret := (some .int)) (by decide) rfl ?_
  intro p e s m args below meth c s₁ B hml hv
  obtain ⟨rfl, hP, hKW, hD0⟩ := hv
  have hx := B.exec
  have hb := B.bytes
  have hr := B.returns
  have hts : ∀ w ∈ TB, w.before ([.ref a_this, .int p1] : List Value).toArray s = true := fun w h => atoms_spec (ws := .code yX8_next cX8_next 2 (some .int) :: TB) B.pre w (List.mem_cons_of_mem _ h)
  have hown : s.vm.findClass RX8 = some m.cls := findClass_of_methodNamed B.named
  have hlocks := B.notSynchronized
  have hK := hKW.1
  have hD := inW_D hD0
  generalize hAe : inW [(a_this, .inr (8, [.ref a_letters, .int z_typed, .ref a_draft, .ref a_folk, .ref a_reader, .ref a_strength, .ref a_present, .ref a_history, .ref a_images, .ref a_kept, .ref a_planner, .ref a_gambler, .ref a_guesser, .long z_traced])), (a_folk, .inr (0, [.int z_folk_planks, .int z_folk_size, .int z_folk_sworn, .ref a_folk_bank, .ref a_folk_kind, .ref a_folk_word, .ref a_folk_slow, .ref a_folk_told])), (a_guesser, .inr (2, [.ref a_folk, .ref a_strength, .ref a_present, .ref a_guesser_load, .ref a_guesser_over, .int z_guesser_seen, .ref a_guesser_borne, .int z_guesser_least, .int z_guesser_greatest])), (a_present, .inr (5, [.int z_present_day, .int z_present_crossed, .ref a_present_came, .ref a_present_under, .ref a_present_due])), (a_present_came, .inl (cI, 8, .inl z_present_came)), (a_strength, .inr (7, [.ref a_folk, .ref a_strength_borne])), (a_folk_kind, .inl (cI, 8, .inl z_folk_kind)), (a_folk_bank, .inl (cI, 8, .inl z_folk_bank)), (a_folk_word, .inl (cI, 8, .inl z_folk_word)), (a_guesser_load, .inl (cI, 6, .inl z_guesser_load)), (a_guesser_over, .inl (cZ, 6, .inl z_guesser_over)), (a_guesser_borne, .inl (cI, 9, .inl z_guesser_borne))] = A at hD ⊢
  have hS : va_S A s.heap s.heap [] := va_S.rf
  have hl := lv_entry [.ref a_this, .int p1] (n := 2) (Nat.le_of_ble_eq_true rfl)
  rw [lg_entry_eq]
  generalize (lg_sl [.ref a_this, .int p1] ++ List.replicate (2 - (lg_sl [.ref a_this, .int p1]).length) Slot.unset).toArray = ls at hl ⊢
  have hl : lv_has ls 2 [(0, .ref a_this), (1, .int p1)] := hl
  show W p l e ({ frames := 6, cells := 0, slots := 0, locals := 150 } : Room) s m ([.ref a_this, .int p1] : List Value).toArray below meth c s.heap [] 0 0 (MQ below (rwQ D (some (.int r)) [(a_this, .inr (8, [.ref a_letters, .int z_typed, .ref a_draft, .ref a_folk, .ref a_reader, .ref a_strength, .ref a_present, .ref a_history, .ref a_images, .ref a_kept, .ref a_planner, .ref a_gambler, .ref a_guesser, .long z_traced])), (a_folk, .inr (0, [.int z_folk_planks, .int z_folk_size, .int z_folk_sworn, .ref a_folk_bank, .ref a_folk_kind, .ref a_folk_word, .ref a_folk_slow, .ref a_folk_told])), (a_guesser, .inr (2, [.ref a_folk, .ref a_strength, .ref a_present, .ref a_guesser_load, .ref a_guesser_over, .int z_guesser_seen, .ref a_guesser_borne, .int o_z_guesser_least, .int o_z_guesser_greatest])), (a_present, .inr (5, [.int z_present_day, .int z_present_crossed, .ref a_present_came, .ref a_present_under, .ref a_present_due])), (a_present_came, .inl (cI, 8, .inl z_present_came)), (a_strength, .inr (7, [.ref a_folk, .ref a_strength_borne])), (a_folk_kind, .inl (cI, 8, .inl z_folk_kind)), (a_folk_bank, .inl (cI, 8, .inl z_folk_bank)), (a_folk_word, .inl (cI, 8, .inl z_folk_word)), (a_guesser_load, .inl (cI, 6, .inl z_guesser_load)), (a_guesser_over, .inl (cZ, 6, .inl z_guesser_over)), (a_guesser_borne, .inl (cI, 9, .inl o_z_guesser_borne))] A) ([.ref a_this, .int p1] : List Value).toArray s 0 0 A) (F0 m 0 ls [])
  have hP : va_P D vwCl [(a_this, .inr (8, [.ref a_letters, .int z_typed, .ref a_draft, .ref a_folk, .ref a_reader, .ref a_strength, .ref a_present, .ref a_history, .ref a_images, .ref a_kept, .ref a_planner, .ref a_gambler, .ref a_guesser, .long z_traced])), (a_folk, .inr (0, [.int z_folk_planks, .int z_folk_size, .int z_folk_sworn, .ref a_folk_bank, .ref a_folk_kind, .ref a_folk_word, .ref a_folk_slow, .ref a_folk_told])), (a_guesser, .inr (2, [.ref a_folk, .ref a_strength, .ref a_present, .ref a_guesser_load, .ref a_guesser_over, .int z_guesser_seen, .ref a_guesser_borne, .int z_guesser_least, .int z_guesser_greatest])), (a_present, .inr (5, [.int z_present_day, .int z_present_crossed, .ref a_present_came, .ref a_present_under, .ref a_present_due])), (a_present_came, .inl (cI, 8, .inl z_present_came)), (a_strength, .inr (7, [.ref a_folk, .ref a_strength_borne])), (a_folk_kind, .inl (cI, 8, .inl z_folk_kind)), (a_folk_bank, .inl (cI, 8, .inl z_folk_bank)), (a_folk_word, .inl (cI, 8, .inl z_folk_word)), (a_guesser_load, .inl (cI, 6, .inl z_guesser_load)), (a_guesser_over, .inl (cZ, 6, .inl z_guesser_over)), (a_guesser_borne, .inl (cI, 9, .inl z_guesser_borne))] s.heap := hP
  have hD : va_D A [(a_this, .inr (8, [.ref a_letters, .int z_typed, .ref a_draft, .ref a_folk, .ref a_reader, .ref a_strength, .ref a_present, .ref a_history, .ref a_images, .ref a_kept, .ref a_planner, .ref a_gambler, .ref a_guesser, .long z_traced])), (a_folk, .inr (0, [.int z_folk_planks, .int z_folk_size, .int z_folk_sworn, .ref a_folk_bank, .ref a_folk_kind, .ref a_folk_word, .ref a_folk_slow, .ref a_folk_told])), (a_guesser, .inr (2, [.ref a_folk, .ref a_strength, .ref a_present, .ref a_guesser_load, .ref a_guesser_over, .int z_guesser_seen, .ref a_guesser_borne, .int z_guesser_least, .int z_guesser_greatest])), (a_present, .inr (5, [.int z_present_day, .int z_present_crossed, .ref a_present_came, .ref a_present_under, .ref a_present_due])), (a_present_came, .inl (cI, 8, .inl z_present_came)), (a_strength, .inr (7, [.ref a_folk, .ref a_strength_borne])), (a_folk_kind, .inl (cI, 8, .inl z_folk_kind)), (a_folk_bank, .inl (cI, 8, .inl z_folk_bank)), (a_folk_word, .inl (cI, 8, .inl z_folk_word)), (a_guesser_load, .inl (cI, 6, .inl z_guesser_load)), (a_guesser_over, .inl (cZ, 6, .inl z_guesser_over)), (a_guesser_borne, .inl (cI, 9, .inl z_guesser_borne))] := hD
  unfold fX8_next at hf
  obtain ⟨H, hH⟩ : ∃ H, H = s.heap := ⟨_, rfl⟩
  obtain ⟨locs, hlo⟩ : ∃ q : List Loc, q = [] := ⟨_, rfl⟩
  have hS : va_S A s.heap H locs := by rw [hH, hlo]; exact hS
  rw [← hH] at hP
  suffices hgo : W p l e ({ frames := 6, cells := 0, slots := 0, locals := 150 } : Room) s m ([.ref a_this, .int p1] : List Value).toArray below meth c H locs 0 0 (MQ below (rwQ D (some (.int r)) [(a_this, .inr (8, [.ref a_letters, .int z_typed, .ref a_draft, .ref a_folk, .ref a_reader, .ref a_strength, .ref a_present, .ref a_history, .ref a_images, .ref a_kept, .ref a_planner, .ref a_gambler, .ref a_guesser, .long z_traced])), (a_folk, .inr (0, [.int z_folk_planks, .int z_folk_size, .int z_folk_sworn, .ref a_folk_bank, .ref a_folk_kind, .ref a_folk_word, .ref a_folk_slow, .ref a_folk_told])), (a_guesser, .inr (2, [.ref a_folk, .ref a_strength, .ref a_present, .ref a_guesser_load, .ref a_guesser_over, .int z_guesser_seen, .ref a_guesser_borne, .int o_z_guesser_least, .int o_z_guesser_greatest])), (a_present, .inr (5, [.int z_present_day, .int z_present_crossed, .ref a_present_came, .ref a_present_under, .ref a_present_due])), (a_present_came, .inl (cI, 8, .inl z_present_came)), (a_strength, .inr (7, [.ref a_folk, .ref a_strength_borne])), (a_folk_kind, .inl (cI, 8, .inl z_folk_kind)), (a_folk_bank, .inl (cI, 8, .inl z_folk_bank)), (a_folk_word, .inl (cI, 8, .inl z_folk_word)), (a_guesser_load, .inl (cI, 6, .inl z_guesser_load)), (a_guesser_over, .inl (cZ, 6, .inl z_guesser_over)), (a_guesser_borne, .inl (cI, 9, .inl o_z_guesser_borne))] A) ([.ref a_this, .int p1] : List Value).toArray s 0 0 A) (F0 m 0 ls []) by rw [hH, hlo] at hgo; exact hgo
  clear hH hlo
  refine lv_aload_n hx hb dX8_next_0 rfl (lv_at hl 0 rfl) ?_
  refine va_get (D := D) (ci := 8) (v := .ref a_folk) (C := RX8) (T := TX8) (N := 14) hx hb hts inTX8 hown hK hP 0 rfl rfl 3 (by decide) (hts _ q290) (fun _ h9 => h9) rfl dX8_next_1 ?_
  refine lv_iload_n hx hb dX8_next_4 rfl (lv_at hl 1 rfl) ?_
  obtain ⟨v1, hv1, hf⟩ := ob hf
  refine kX0_hasPerson hx hb hml hown hts hKW q525 (hP.sub [1] rfl) hv1 hl.1 (Nat.le_of_ble_eq_true rfl) ⟨Nat.le_of_ble_eq_true rfl, Nat.le_of_ble_eq_true rfl⟩ ⟨Nat.zero_le _, Nat.zero_le _⟩ dX8_next_5 ?_
  refine lv_if_eq (tgt := 22) hx hb dX8_next_8 (by decide) (fun c2 => ?_) (fun c2 => ?_)
  · replace hf := it hf c2
    refine lv_iconst (v := -1) hx hb dX8_next_22 (by decide) ?_
    cases hf
    exact W.iret hx hb hr (fun t ht _ => ⟨rfl, by rw [ht]; exact hP, hS.F ht⟩) hS.2.2 dX8_next_23
  · replace hf := ie hf c2
    refine lv_aload_n hx hb dX8_next_11 rfl (lv_at hl 0 rfl) ?_
    refine va_get (D := D) (ci := 8) (v := .ref a_guesser) (C := RX8) (T := TX8) (N := 14) hx hb hts inTX8 hown hK hP 0 rfl rfl 12 (by decide) (hts _ q299) (fun _ h9 => h9) rfl dX8_next_12 ?_
    refine lv_iload_n hx hb dX8_next_15 rfl (lv_at hl 1 rfl) ?_
    obtain ⟨⟨v3, g4, g5, g6⟩, hv3, hf⟩ := ob hf
    dsimp only at hf
    refine kX2_bestTry hx hb hml hown hts hKW q830 hP hD hS [2, 1, 3, 4, 5, 6, 7, 8, 9, 10, 11] rfl (by decide) hv3 hl.1 (Nat.le_of_ble_eq_true rfl) ⟨Nat.le_of_ble_eq_true rfl, Nat.le_of_ble_eq_true rfl⟩ ⟨Nat.zero_le _, Nat.zero_le _⟩ dX8_next_16 (fun H locs hP hD hS => ?_)
    have hP : va_P D vwCl [(a_this, .inr (8, [.ref a_letters, .int z_typed, .ref a_draft, .ref a_folk, .ref a_reader, .ref a_strength, .ref a_present, .ref a_history, .ref a_images, .ref a_kept, .ref a_planner, .ref a_gambler, .ref a_guesser, .long z_traced])), (a_folk, .inr (0, [.int z_folk_planks, .int z_folk_size, .int z_folk_sworn, .ref a_folk_bank, .ref a_folk_kind, .ref a_folk_word, .ref a_folk_slow, .ref a_folk_told])), (a_guesser, .inr (2, [.ref a_folk, .ref a_strength, .ref a_present, .ref a_guesser_load, .ref a_guesser_over, .int z_guesser_seen, .ref a_guesser_borne, .int g5, .int g6])), (a_present, .inr (5, [.int z_present_day, .int z_present_crossed, .ref a_present_came, .ref a_present_under, .ref a_present_due])), (a_present_came, .inl (cI, 8, .inl z_present_came)), (a_strength, .inr (7, [.ref a_folk, .ref a_strength_borne])), (a_folk_kind, .inl (cI, 8, .inl z_folk_kind)), (a_folk_bank, .inl (cI, 8, .inl z_folk_bank)), (a_folk_word, .inl (cI, 8, .inl z_folk_word)), (a_guesser_load, .inl (cI, 6, .inl z_guesser_load)), (a_guesser_over, .inl (cZ, 6, .inl z_guesser_over)), (a_guesser_borne, .inl (cI, 9, .inl g4))] H := hP
    have hD : va_D A [(a_this, .inr (8, [.ref a_letters, .int z_typed, .ref a_draft, .ref a_folk, .ref a_reader, .ref a_strength, .ref a_present, .ref a_history, .ref a_images, .ref a_kept, .ref a_planner, .ref a_gambler, .ref a_guesser, .long z_traced])), (a_folk, .inr (0, [.int z_folk_planks, .int z_folk_size, .int z_folk_sworn, .ref a_folk_bank, .ref a_folk_kind, .ref a_folk_word, .ref a_folk_slow, .ref a_folk_told])), (a_guesser, .inr (2, [.ref a_folk, .ref a_strength, .ref a_present, .ref a_guesser_load, .ref a_guesser_over, .int z_guesser_seen, .ref a_guesser_borne, .int g5, .int g6])), (a_present, .inr (5, [.int z_present_day, .int z_present_crossed, .ref a_present_came, .ref a_present_under, .ref a_present_due])), (a_present_came, .inl (cI, 8, .inl z_present_came)), (a_strength, .inr (7, [.ref a_folk, .ref a_strength_borne])), (a_folk_kind, .inl (cI, 8, .inl z_folk_kind)), (a_folk_bank, .inl (cI, 8, .inl z_folk_bank)), (a_folk_word, .inl (cI, 8, .inl z_folk_word)), (a_guesser_load, .inl (cI, 6, .inl z_guesser_load)), (a_guesser_over, .inl (cZ, 6, .inl z_guesser_over)), (a_guesser_borne, .inl (cI, 9, .inl g4))] := hD
    refine lv_goto (tgt := 23) hx hb dX8_next_19 (by decide) ?_
    cases hf
    exact W.iret hx hb hr (fun t ht _ => ⟨rfl, by rw [ht]; exact hP, hS.F ht⟩) hS.2.2 dX8_next_23
theorem kX8_next {p : Program} {l : Launch} {e : Env} {R : Room} {s : State} {m : MethodId} {args : Array Value} {below : List Frame} {meth : Method} {c : Code} {H : Heap} {locs : List Loc} {cells slots : Nat} {Q : State → Prop} {cc : ByteArray} {nL pc index : Nat} {ls : Array Slot} {rest : List Value} {own : String} {D : va_G} {cI cZ cQ : ClassId} {a_this a_letters a_draft a_folk a_reader a_strength a_present a_history a_images a_kept a_planner a_gambler a_guesser a_folk_bank a_folk_kind a_folk_word a_folk_slow a_folk_told a_guesser_load a_guesser_over a_guesser_borne a_present_came a_present_under a_present_due a_strength_borne : Nat} {z_typed z_folk_planks z_folk_size z_folk_sworn z_guesser_seen z_guesser_least z_guesser_greatest z_present_day z_present_crossed p1 : Int32} {z_traced : Int64} {z_present_came z_folk_kind z_folk_bank z_folk_word z_guesser_load z_guesser_over z_guesser_borne : Nat → Int32} {fu : Nat} {r : Int32} {o_z_guesser_least o_z_guesser_greatest : Int32} {o_z_guesser_borne : Nat → Int32} (hx : p.tables.exec = Jvm.exec) (hb : c.code = cc) (hml : c.maxLocals = nL) (hown : s.vm.findClass own = some m.cls) (hts : ∀ w ∈ TB, w.before args s = true) (hKW : KW D (TY cI cZ cQ) s) (hlk : Cond.methodLink own index yX8_next ∈ TB) {ws : va_W} {A : Nat → Prop} {H0 : Heap} (hP : va_P D vwCl ws H) (hD : va_D A ws) (hS : va_S A H0 H locs) (is : List Nat) (hC : is.map (fun i => ws[i]?) = ([(a_this, .inr (8, [.ref a_letters, .int z_typed, .ref a_draft, .ref a_folk, .ref a_reader, .ref a_strength, .ref a_present, .ref a_history, .ref a_images, .ref a_kept, .ref a_planner, .ref a_gambler, .ref a_guesser, .long z_traced])), (a_folk, .inr (0, [.int z_folk_planks, .int z_folk_size, .int z_folk_sworn, .ref a_folk_bank, .ref a_folk_kind, .ref a_folk_word, .ref a_folk_slow, .ref a_folk_told])), (a_guesser, .inr (2, [.ref a_folk, .ref a_strength, .ref a_present, .ref a_guesser_load, .ref a_guesser_over, .int z_guesser_seen, .ref a_guesser_borne, .int z_guesser_least, .int z_guesser_greatest])), (a_present, .inr (5, [.int z_present_day, .int z_present_crossed, .ref a_present_came, .ref a_present_under, .ref a_present_due])), (a_present_came, .inl (cI, 8, .inl z_present_came)), (a_strength, .inr (7, [.ref a_folk, .ref a_strength_borne])), (a_folk_kind, .inl (cI, 8, .inl z_folk_kind)), (a_folk_bank, .inl (cI, 8, .inl z_folk_bank)), (a_folk_word, .inl (cI, 8, .inl z_folk_word)), (a_guesser_load, .inl (cI, 6, .inl z_guesser_load)), (a_guesser_over, .inl (cZ, 6, .inl z_guesser_over)), (a_guesser_borne, .inl (cI, 9, .inl z_guesser_borne))] : va_W).map some) (hnd : va_nd is = true) (hf : fX8_next fu z_folk_size z_folk_planks z_present_came z_folk_kind z_folk_sworn z_folk_bank z_folk_word z_guesser_seen z_guesser_load z_guesser_over z_guesser_borne z_guesser_least z_guesser_greatest p1 = some (r, o_z_guesser_borne, o_z_guesser_least, o_z_guesser_greatest)) (hn : ls.size = nL) (hW : (rest.map fun v => v.category).sum ≤ 8) (hR : 6 + 1 ≤ R.frames ∧ 8 + (2 + 11) + 150 ≤ R.locals) (hcs : cells ≤ R.cells ∧ slots ≤ R.slots) (hdg : decode cc pc = .ok (.invokevirtual index, 3)) (kk : ∀ (H1 : Heap) (locs1 : List Loc), va_P D vwCl (rpl ws is [(a_this, .inr (8, [.ref a_letters, .int z_typed, .ref a_draft, .ref a_folk, .ref a_reader, .ref a_strength, .ref a_present, .ref a_history, .ref a_images, .ref a_kept, .ref a_planner, .ref a_gambler, .ref a_guesser, .long z_traced])), (a_folk, .inr (0, [.int z_folk_planks, .int z_folk_size, .int z_folk_sworn, .ref a_folk_bank, .ref a_folk_kind, .ref a_folk_word, .ref a_folk_slow, .ref a_folk_told])), (a_guesser, .inr (2, [.ref a_folk, .ref a_strength, .ref a_present, .ref a_guesser_load, .ref a_guesser_over, .int z_guesser_seen, .ref a_guesser_borne, .int o_z_guesser_least, .int o_z_guesser_greatest])), (a_present, .inr (5, [.int z_present_day, .int z_present_crossed, .ref a_present_came, .ref a_present_under, .ref a_present_due])), (a_present_came, .inl (cI, 8, .inl z_present_came)), (a_strength, .inr (7, [.ref a_folk, .ref a_strength_borne])), (a_folk_kind, .inl (cI, 8, .inl z_folk_kind)), (a_folk_bank, .inl (cI, 8, .inl z_folk_bank)), (a_folk_word, .inl (cI, 8, .inl z_folk_word)), (a_guesser_load, .inl (cI, 6, .inl z_guesser_load)), (a_guesser_over, .inl (cZ, 6, .inl z_guesser_over)), (a_guesser_borne, .inl (cI, 9, .inl o_z_guesser_borne))]) H1 → va_D A (rpl ws is [(a_this, .inr (8, [.ref a_letters, .int z_typed, .ref a_draft, .ref a_folk, .ref a_reader, .ref a_strength, .ref a_present, .ref a_history, .ref a_images, .ref a_kept, .ref a_planner, .ref a_gambler, .ref a_guesser, .long z_traced])), (a_folk, .inr (0, [.int z_folk_planks, .int z_folk_size, .int z_folk_sworn, .ref a_folk_bank, .ref a_folk_kind, .ref a_folk_word, .ref a_folk_slow, .ref a_folk_told])), (a_guesser, .inr (2, [.ref a_folk, .ref a_strength, .ref a_present, .ref a_guesser_load, .ref a_guesser_over, .int z_guesser_seen, .ref a_guesser_borne, .int o_z_guesser_least, .int o_z_guesser_greatest])), (a_present, .inr (5, [.int z_present_day, .int z_present_crossed, .ref a_present_came, .ref a_present_under, .ref a_present_due])), (a_present_came, .inl (cI, 8, .inl z_present_came)), (a_strength, .inr (7, [.ref a_folk, .ref a_strength_borne])), (a_folk_kind, .inl (cI, 8, .inl z_folk_kind)), (a_folk_bank, .inl (cI, 8, .inl z_folk_bank)), (a_folk_word, .inl (cI, 8, .inl z_folk_word)), (a_guesser_load, .inl (cI, 6, .inl z_guesser_load)), (a_guesser_over, .inl (cZ, 6, .inl z_guesser_over)), (a_guesser_borne, .inl (cI, 9, .inl o_z_guesser_borne))]) → va_S A H0 H1 locs1 → W p l e R s m args below meth c H1 locs1 cells slots Q (F0 m (pc + 3) ls (.int r :: rest))) : W p l e R s m args below meth c H locs cells slots Q (F0 m pc ls (.int p1 :: .ref a_this :: rest)) :=
  x_rw (va_runV (As := [.int p1]) (rest := rest) ⟨hx, hb, hml, hown, hts⟩ (tX8_next hf) (cwV 1 hts (tb_V hlk q827 q828 q39 q829) rfl rfl rfl (by decide +kernel) hR) ⟨rwB, va_recv hKW.1 (subP hP hC) (ci := 8) (q0 := 0) rfl rfl, fun U hU hW => ⟨rfl, by rw [hU]; exact subP hP hC, hKW.warm hW, subD hD hC hnd⟩⟩ rfl rfl hn rfl (lv_room hW) hdg hcs) hP hD hS is hC rfl kk

-- HalfPlanks.rateAsPerson(I)I
def fX8_rateAsPerson (fu : Nat) (z_folk_word : Nat → Int32) (z_traced : Int64) (p1 : Int32) : Option (Int32 × Int64) :=
  (rd 8 z_folk_word p1).bind fun v1 =>
  some (v1, (z_traced + 1))
set_option maxHeartbeats 4000000 in
set_option maxRecDepth 100000 in
theorem tX8_rateAsPerson {l : Launch} {D : va_G} {cI cZ cQ : ClassId} {a_this a_letters a_draft a_folk a_reader a_strength a_present a_history a_images a_kept a_planner a_gambler a_guesser a_folk_bank a_folk_kind a_folk_word a_folk_slow a_folk_told : Nat} {z_typed z_folk_planks z_folk_size z_folk_sworn p1 : Int32} {z_traced : Int64} {z_folk_word : Nat → Int32} {fu : Nat} {r : Int32} {o_z_traced : Int64} (hf : fX8_rateAsPerson fu z_folk_word z_traced p1 = some (r, o_z_traced)) : Met l yX8_rateAsPerson (.code yX8_rateAsPerson cX8_rateAsPerson 2 (some .int) :: TB) ({ frames := 0, cells := 0, slots := 0, locals := 0 } : Room) (rwP D (TY cI cZ cQ) [(a_this, .inr (8, [.ref a_letters, .int z_typed, .ref a_draft, .ref a_folk, .ref a_reader, .ref a_strength, .ref a_present, .ref a_history, .ref a_images, .ref a_kept, .ref a_planner, .ref a_gambler, .ref a_guesser, .long z_traced])), (a_folk, .inr (0, [.int z_folk_planks, .int z_folk_size, .int z_folk_sworn, .ref a_folk_bank, .ref a_folk_kind, .ref a_folk_word, .ref a_folk_slow, .ref a_folk_told])), (a_folk_word, .inl (cI, 8, .inl z_folk_word))] [.ref a_this, .int p1]) (rwQ D (some (.int r)) [(a_this, .inr (8, [.ref a_letters, .int z_typed, .ref a_draft, .ref a_folk, .ref a_reader, .ref a_strength, .ref a_present, .ref a_history, .ref a_images, .ref a_kept, .ref a_planner, .ref a_gambler, .ref a_guesser, .long o_z_traced])), (a_folk, .inr (0, [.int z_folk_planks, .int z_folk_size, .int z_folk_sworn, .ref a_folk_bank, .ref a_folk_kind, .ref a_folk_word, .ref a_folk_slow, .ref a_folk_told])), (a_folk_word, .inl (cI, 8, .inl z_folk_word))] (inW [(a_this, .inr (8, [.ref a_letters, .int z_typed, .ref a_draft, .ref a_folk, .ref a_reader, .ref a_strength, .ref a_present, .ref a_history, .ref a_images, .ref a_kept, .ref a_planner, .ref a_gambler, .ref a_guesser, .long z_traced])), (a_folk, .inr (0, [.int z_folk_planks, .int z_folk_size, .int z_folk_sworn, .ref a_folk_bank, .ref a_folk_kind, .ref a_folk_word, .ref a_folk_slow, .ref a_folk_told])), (a_folk_word, .inl (cI, 8, .inl z_folk_word))])) 0 0 (inW [(a_this, .inr (8, [.ref a_letters, .int z_typed, .ref a_draft, .ref a_folk, .ref a_reader, .ref a_strength, .ref a_present, .ref a_history, .ref a_images, .ref a_kept, .ref a_planner, .ref a_gambler, .ref a_guesser, .long z_traced])), (a_folk, .inr (0, [.int z_folk_planks, .int z_folk_size, .int z_folk_sworn, .ref a_folk_bank, .ref a_folk_kind, .ref a_folk_word, .ref a_folk_slow, .ref a_folk_told])), (a_folk_word, .inl (cI, 8, .inl z_folk_word))]) := by
  refine Met.ofW (cc := cX8_rateAsPerson) (maxL := 2) (ret := (some .int)) (by decide) rfl ?_
  intro p e s m args below meth c s₁ B hml hv
  obtain ⟨rfl, hP, hKW, hD0⟩ := hv
  have hx := B.exec
  have hb := B.bytes
  have hr := B.returns
  have hts : ∀ w ∈ TB, w.before ([.ref a_this, .int p1] : List Value).toArray s = true := fun w h => atoms_spec (ws := .code yX8_rateAsPerson cX8_rateAsPerson 2 (some .int) :: TB) B.pre w (List.mem_cons_of_mem _ h)
  have hown : s.vm.findClass RX8 = some m.cls := findClass_of_methodNamed B.named
  have hlocks := B.notSynchronized
  have hK := hKW.1
  have hD := inW_D hD0
  generalize hAe : inW [(a_this, .inr (8, [.ref a_letters, .int z_typed, .ref a_draft, .ref a_folk, .ref a_reader, .ref a_strength, .ref a_present, .ref a_history, .ref a_images, .ref a_kept, .ref a_planner, .ref a_gambler, .ref a_guesser, .long z_traced])), (a_folk, .inr (0, [.int z_folk_planks, .int z_folk_size, .int z_folk_sworn, .ref a_folk_bank, .ref a_folk_kind, .ref a_folk_word, .ref a_folk_slow, .ref a_folk_told])), (a_folk_word, .inl (cI, 8, .inl z_folk_word))] = A at hD ⊢
  have hS : va_S A s.heap s.heap [] := va_S.rf
  have hl := lv_entry [.ref a_this, .int p1] (n := 2) (Nat.le_of_ble_eq_true rfl)
  rw [lg_entry_eq]
  generalize (lg_sl [.ref a_this, .int p1] ++ List.replicate (2 - (lg_sl [.ref a_this, .int p1]).length) Slot.unset).toArray = ls at hl ⊢
  have hl : lv_has ls 2 [(0, .ref a_this), (1, .int p1)] := hl
  show W p l e ({ frames := 0, cells := 0, slots := 0, locals := 0 } : Room) s m ([.ref a_this, .int p1] : List Value).toArray below meth c s.heap [] 0 0 (MQ below (rwQ D (some (.int r)) [(a_this, .inr (8, [.ref a_letters, .int z_typed, .ref a_draft, .ref a_folk, .ref a_reader, .ref a_strength, .ref a_present, .ref a_history, .ref a_images, .ref a_kept, .ref a_planner, .ref a_gambler, .ref a_guesser, .long o_z_traced])), (a_folk, .inr (0, [.int z_folk_planks, .int z_folk_size, .int z_folk_sworn, .ref a_folk_bank, .ref a_folk_kind, .ref a_folk_word, .ref a_folk_slow, .ref a_folk_told])), (a_folk_word, .inl (cI, 8, .inl z_folk_word))] A) ([.ref a_this, .int p1] : List Value).toArray s 0 0 A) (F0 m 0 ls [])
  have hP : va_P D vwCl [(a_this, .inr (8, [.ref a_letters, .int z_typed, .ref a_draft, .ref a_folk, .ref a_reader, .ref a_strength, .ref a_present, .ref a_history, .ref a_images, .ref a_kept, .ref a_planner, .ref a_gambler, .ref a_guesser, .long z_traced])), (a_folk, .inr (0, [.int z_folk_planks, .int z_folk_size, .int z_folk_sworn, .ref a_folk_bank, .ref a_folk_kind, .ref a_folk_word, .ref a_folk_slow, .ref a_folk_told])), (a_folk_word, .inl (cI, 8, .inl z_folk_word))] s.heap := hP
  have hD : va_D A [(a_this, .inr (8, [.ref a_letters, .int z_typed, .ref a_draft, .ref a_folk, .ref a_reader, .ref a_strength, .ref a_present, .ref a_history, .ref a_images, .ref a_kept, .ref a_planner, .ref a_gambler, .ref a_guesser, .long z_traced])), (a_folk, .inr (0, [.int z_folk_planks, .int z_folk_size, .int z_folk_sworn, .ref a_folk_bank, .ref a_folk_kind, .ref a_folk_word, .ref a_folk_slow, .ref a_folk_told])), (a_folk_word, .inl (cI, 8, .inl z_folk_word))] := hD
  unfold fX8_rateAsPerson at hf
  obtain ⟨H, hH⟩ : ∃ H, H = s.heap := ⟨_, rfl⟩
  obtain ⟨locs, hlo⟩ : ∃ q : List Loc, q = [] := ⟨_, rfl⟩
  have hS : va_S A s.heap H locs := by rw [hH, hlo]; exact hS
  rw [← hH] at hP
  suffices hgo : W p l e ({ frames := 0, cells := 0, slots := 0, locals := 0 } : Room) s m ([.ref a_this, .int p1] : List Value).toArray below meth c H locs 0 0 (MQ below (rwQ D (some (.int r)) [(a_this, .inr (8, [.ref a_letters, .int z_typed, .ref a_draft, .ref a_folk, .ref a_reader, .ref a_strength, .ref a_present, .ref a_history, .ref a_images, .ref a_kept, .ref a_planner, .ref a_gambler, .ref a_guesser, .long o_z_traced])), (a_folk, .inr (0, [.int z_folk_planks, .int z_folk_size, .int z_folk_sworn, .ref a_folk_bank, .ref a_folk_kind, .ref a_folk_word, .ref a_folk_slow, .ref a_folk_told])), (a_folk_word, .inl (cI, 8, .inl z_folk_word))] A) ([.ref a_this, .int p1] : List Value).toArray s 0 0 A) (F0 m 0 ls []) by rw [hH, hlo] at hgo; exact hgo
  clear hH hlo
  refine lv_aload_n hx hb dX8_rateAsPerson_0 rfl (lv_at hl 0 rfl) ?_
  refine lv_dup hx hb dX8_rateAsPerson_1 rfl ?_
  refine va_get (D := D) (ci := 8) (v := .long z_traced) (C := RX8) (T := TX8) (N := 14) hx hb hts inTX8 hown hK hP 0 rfl rfl 13 (by decide) (hts _ q300) (fun _ h9 => h9) rfl dX8_rateAsPerson_2 ?_
  refine lv_lconst (v := 1) hx hb dX8_rateAsPerson_5 (by decide) ?_
  refine lv_ladd hx hb dX8_rateAsPerson_6 ?_
  refine va_put (D := D) (ci := 8) (v := .long (z_traced + 1)) (ty := .long) (C := RX8) (T := TX8) (N := 14) hx hb hts inTX8 tyX8 tyX8_ok nmX8 hown hK hP hD hS 0 rfl rfl 13 (by decide) (hts _ q300) (fun _ h9 => h9) rfl (by decide +kernel) rfl rfl (Nat.le_of_ble_eq_true rfl) dX8_rateAsPerson_7 (fun H locs hP hD hS => ?_)
  have hP : va_P D vwCl [(a_this, .inr (8, [.ref a_letters, .int z_typed, .ref a_draft, .ref a_folk, .ref a_reader, .ref a_strength, .ref a_present, .ref a_history, .ref a_images, .ref a_kept, .ref a_planner, .ref a_gambler, .ref a_guesser, .long (z_traced + 1)])), (a_folk, .inr (0, [.int z_folk_planks, .int z_folk_size, .int z_folk_sworn, .ref a_folk_bank, .ref a_folk_kind, .ref a_folk_word, .ref a_folk_slow, .ref a_folk_told])), (a_folk_word, .inl (cI, 8, .inl z_folk_word))] H := hP
  have hD : va_D A [(a_this, .inr (8, [.ref a_letters, .int z_typed, .ref a_draft, .ref a_folk, .ref a_reader, .ref a_strength, .ref a_present, .ref a_history, .ref a_images, .ref a_kept, .ref a_planner, .ref a_gambler, .ref a_guesser, .long (z_traced + 1)])), (a_folk, .inr (0, [.int z_folk_planks, .int z_folk_size, .int z_folk_sworn, .ref a_folk_bank, .ref a_folk_kind, .ref a_folk_word, .ref a_folk_slow, .ref a_folk_told])), (a_folk_word, .inl (cI, 8, .inl z_folk_word))] := hD
  refine lv_aload_n hx hb dX8_rateAsPerson_10 rfl (lv_at hl 0 rfl) ?_
  refine va_get (D := D) (ci := 8) (v := .ref a_folk) (C := RX8) (T := TX8) (N := 14) hx hb hts inTX8 hown hK hP 0 rfl rfl 3 (by decide) (hts _ q290) (fun _ h9 => h9) rfl dX8_rateAsPerson_11 ?_
  refine va_get (D := D) (ci := 0) (v := .ref a_folk_word) (C := RX0) (T := TX0) (N := 8) hx hb hts inTX0 hown hK hP 1 rfl rfl 5 (by decide) (hts _ q95) (fun _ h9 => h9) rfl dX8_rateAsPerson_14 ?_
  refine lv_iload_n hx hb dX8_rateAsPerson_17 rfl (lv_at hl 1 rfl) ?_
  obtain ⟨v1, hv1, hf⟩ := ob hf
  refine x_iald hx hb hK hP 2 0 rfl rfl hv1 dX8_rateAsPerson_18 ?_
  cases hf
  exact W.iret hx hb hr (fun t ht _ => ⟨rfl, by rw [ht]; exact hP, hS.F ht⟩) hS.2.2 dX8_rateAsPerson_19
theorem kX8_rateAsPerson {p : Program} {l : Launch} {e : Env} {R : Room} {s : State} {m : MethodId} {args : Array Value} {below : List Frame} {meth : Method} {c : Code} {H : Heap} {locs : List Loc} {cells slots : Nat} {Q : State → Prop} {cc : ByteArray} {nL pc index : Nat} {ls : Array Slot} {rest : List Value} {own : String} {D : va_G} {cI cZ cQ : ClassId} {a_this a_letters a_draft a_folk a_reader a_strength a_present a_history a_images a_kept a_planner a_gambler a_guesser a_folk_bank a_folk_kind a_folk_word a_folk_slow a_folk_told : Nat} {z_typed z_folk_planks z_folk_size z_folk_sworn p1 : Int32} {z_traced : Int64} {z_folk_word : Nat → Int32} {fu : Nat} {r : Int32} {o_z_traced : Int64} (hx : p.tables.exec = Jvm.exec) (hb : c.code = cc) (hml : c.maxLocals = nL) (hown : s.vm.findClass own = some m.cls) (hts : ∀ w ∈ TB, w.before args s = true) (hKW : KW D (TY cI cZ cQ) s) (hlk : Cond.methodLink own index yX8_rateAsPerson ∈ TB) {ws : va_W} {A : Nat → Prop} {H0 : Heap} (hP : va_P D vwCl ws H) (hD : va_D A ws) (hS : va_S A H0 H locs) (is : List Nat) (hC : is.map (fun i => ws[i]?) = ([(a_this, .inr (8, [.ref a_letters, .int z_typed, .ref a_draft, .ref a_folk, .ref a_reader, .ref a_strength, .ref a_present, .ref a_history, .ref a_images, .ref a_kept, .ref a_planner, .ref a_gambler, .ref a_guesser, .long z_traced])), (a_folk, .inr (0, [.int z_folk_planks, .int z_folk_size, .int z_folk_sworn, .ref a_folk_bank, .ref a_folk_kind, .ref a_folk_word, .ref a_folk_slow, .ref a_folk_told])), (a_folk_word, .inl (cI, 8, .inl z_folk_word))] : va_W).map some) (hnd : va_nd is = true) (hf : fX8_rateAsPerson fu z_folk_word z_traced p1 = some (r, o_z_traced)) (hn : ls.size = nL) (hW : (rest.map fun v => v.category).sum ≤ 8) (hR : 0 + 1 ≤ R.frames ∧ 8 + (2 + 11) + 0 ≤ R.locals) (hcs : cells ≤ R.cells ∧ slots ≤ R.slots) (hdg : decode cc pc = .ok (.invokevirtual index, 3)) (kk : ∀ (H1 : Heap) (locs1 : List Loc), va_P D vwCl (rpl ws is [(a_this, .inr (8, [.ref a_letters, .int z_typed, .ref a_draft, .ref a_folk, .ref a_reader, .ref a_strength, .ref a_present, .ref a_history, .ref a_images, .ref a_kept, .ref a_planner, .ref a_gambler, .ref a_guesser, .long o_z_traced])), (a_folk, .inr (0, [.int z_folk_planks, .int z_folk_size, .int z_folk_sworn, .ref a_folk_bank, .ref a_folk_kind, .ref a_folk_word, .ref a_folk_slow, .ref a_folk_told])), (a_folk_word, .inl (cI, 8, .inl z_folk_word))]) H1 → va_D A (rpl ws is [(a_this, .inr (8, [.ref a_letters, .int z_typed, .ref a_draft, .ref a_folk, .ref a_reader, .ref a_strength, .ref a_present, .ref a_history, .ref a_images, .ref a_kept, .ref a_planner, .ref a_gambler, .ref a_guesser, .long o_z_traced])), (a_folk, .inr (0, [.int z_folk_planks, .int z_folk_size, .int z_folk_sworn, .ref a_folk_bank, .ref a_folk_kind, .ref a_folk_word, .ref a_folk_slow, .ref a_folk_told])), (a_folk_word, .inl (cI, 8, .inl z_folk_word))]) → va_S A H0 H1 locs1 → W p l e R s m args below meth c H1 locs1 cells slots Q (F0 m (pc + 3) ls (.int r :: rest))) : W p l e R s m args below meth c H locs cells slots Q (F0 m pc ls (.int p1 :: .ref a_this :: rest)) :=
  x_rw (va_runV (As := [.int p1]) (rest := rest) ⟨hx, hb, hml, hown, hts⟩ (tX8_rateAsPerson hf) (cwV 1 hts (tb_V hlk q846 q1 q39 q847) rfl rfl rfl (by decide +kernel) hR) ⟨rwB, va_recv hKW.1 (subP hP hC) (ci := 8) (q0 := 0) rfl rfl, fun U hU hW => ⟨rfl, by rw [hU]; exact subP hP hC, hKW.warm hW, subD hD hC hnd⟩⟩ rfl rfl hn rfl (lv_room hW) hdg hcs) hP hD hS is hC rfl kk

-- HalfPlanks.rateAsPlain(I)I
def fX8_rateAsPlain (fu : Nat) (z_folk_word : Nat → Int32) (z_folk_slow : Nat → Int32) (z_traced : Int64) (p1 : Int32) : Option (Int32 × Int64) :=
  (fX8_rateAsPerson fu z_folk_word (z_traced + 10) p1).bind fun (v1, g2) =>
  (rd 8 z_folk_slow p1).bind fun v3 =>
  some ((v1 + v3), g2)
set_option maxHeartbeats 4000000 in
set_option maxRecDepth 100000 in
theorem tX8_rateAsPlain {l : Launch} {D : va_G} {cI cZ cQ : ClassId} {a_this a_letters a_draft a_folk a_reader a_strength a_present a_history a_images a_kept a_planner a_gambler a_guesser a_folk_bank a_folk_kind a_folk_word a_folk_slow a_folk_told : Nat} {z_typed z_folk_planks z_folk_size z_folk_sworn p1 : Int32} {z_traced : Int64} {z_folk_word z_folk_slow : Nat → Int32} {fu : Nat} {r : Int32} {o_z_traced : Int64} (hf : fX8_rateAsPlain fu z_folk_word z_folk_slow z_traced p1 = some (r, o_z_traced)) : Met l yX8_rateAsPlain (.code yX8_rateAsPlain cX8_rateAsPlain 2 (some .int) :: TB) ({ frames := 1, cells := 0, slots := 0, locals := 21 } : Room) (rwP D (TY cI cZ cQ) [(a_this, .inr (8, [.ref a_letters, .int z_typed, .ref a_draft, .ref a_folk, .ref a_reader, .ref a_strength, .ref a_present, .ref a_history, .ref a_images, .ref a_kept, .ref a_planner, .ref a_gambler, .ref a_guesser, .long z_traced])), (a_folk, .inr (0, [.int z_folk_planks, .int z_folk_size, .int z_folk_sworn, .ref a_folk_bank, .ref a_folk_kind, .ref a_folk_word, .ref a_folk_slow, .ref a_folk_told])), (a_folk_word, .inl (cI, 8, .inl z_folk_word)), (a_folk_slow, .inl (cI, 8, .inl z_folk_slow))] [.ref a_this, .int p1]) (rwQ D (some (.int r)) [(a_this, .inr (8, [.ref a_letters, .int z_typed, .ref a_draft, .ref a_folk, .ref a_reader, .ref a_strength, .ref a_present, .ref a_history, .ref a_images, .ref a_kept, .ref a_planner, .ref a_gambler, .ref a_guesser, .long o_z_traced])), (a_folk, .inr (0, [.int z_folk_planks, .int z_folk_size, .int z_folk_sworn, .ref a_folk_bank, .ref a_folk_kind, .ref a_folk_word, .ref a_folk_slow, .ref a_folk_told])), (a_folk_word, .inl (cI, 8, .inl z_folk_word)), (a_folk_slow, .inl (cI, 8, .inl z_folk_slow))] (inW [(a_this, .inr (8, [.ref a_letters, .int z_typed, .ref a_draft, .ref a_folk, .ref a_reader, .ref a_strength, .ref a_present, .ref a_history, .ref a_images, .ref a_kept, .ref a_planner, .ref a_gambler, .ref a_guesser, .long z_traced])), (a_folk, .inr (0, [.int z_folk_planks, .int z_folk_size, .int z_folk_sworn, .ref a_folk_bank, .ref a_folk_kind, .ref a_folk_word, .ref a_folk_slow, .ref a_folk_told])), (a_folk_word, .inl (cI, 8, .inl z_folk_word)), (a_folk_slow, .inl (cI, 8, .inl z_folk_slow))])) 0 0 (inW [(a_this, .inr (8, [.ref a_letters, .int z_typed, .ref a_draft, .ref a_folk, .ref a_reader, .ref a_strength, .ref a_present, .ref a_history, .ref a_images, .ref a_kept, .ref a_planner, .ref a_gambler, .ref a_guesser, .long z_traced])), (a_folk, .inr (0, [.int z_folk_planks, .int z_folk_size, .int z_folk_sworn, .ref a_folk_bank, .ref a_folk_kind, .ref a_folk_word, .ref a_folk_slow, .ref a_folk_told])), (a_folk_word, .inl (cI, 8, .inl z_folk_word)), (a_folk_slow, .inl (cI, 8, .inl z_folk_slow))]) := by
  refine Met.ofW (cc := cX8_rateAsPlain) (maxL := 2) (ret := (some .int)) (by decide) rfl ?_
  intro p e s m args below meth c s₁ B hml hv
  obtain ⟨rfl, hP, hKW, hD0⟩ := hv
  have hx := B.exec
  have hb := B.bytes
  have hr := B.returns
  have hts : ∀ w ∈ TB, w.before ([.ref a_this, .int p1] : List Value).toArray s = true := fun w h => atoms_spec (ws := .code yX8_rateAsPlain cX8_rateAsPlain 2 (some .int) :: TB) B.pre w (List.mem_cons_of_mem _ h)
  have hown : s.vm.findClass RX8 = some m.cls := findClass_of_methodNamed B.named
  have hlocks := B.notSynchronized
  have hK := hKW.1
  have hD := inW_D hD0
  generalize hAe : inW [(a_this, .inr (8, [.ref a_letters, .int z_typed, .ref a_draft, .ref a_folk, .ref a_reader, .ref a_strength, .ref a_present, .ref a_history, .ref a_images, .ref a_kept, .ref a_planner, .ref a_gambler, .ref a_guesser, .long z_traced])), (a_folk, .inr (0, [.int z_folk_planks, .int z_folk_size, .int z_folk_sworn, .ref a_folk_bank, .ref a_folk_kind, .ref a_folk_word, .ref a_folk_slow, .ref a_folk_told])), (a_folk_word, .inl (cI, 8, .inl z_folk_word)), (a_folk_slow, .inl (cI, 8, .inl z_folk_slow))] = A at hD ⊢
  have hS : va_S A s.heap s.heap [] := va_S.rf
  have hl := lv_entry [.ref a_this, .int p1] (n := 2) (Nat.le_of_ble_eq_true rfl)
  rw [lg_entry_eq]
  generalize (lg_sl [.ref a_this, .int p1] ++ List.replicate (2 - (lg_sl [.ref a_this, .int p1]).length) Slot.unset).toArray = ls at hl ⊢
  have hl : lv_has ls 2 [(0, .ref a_this), (1, .int p1)] := hl
  show W p l e ({ frames := 1, cells := 0, slots := 0, locals := 21 } : Room) s m ([.ref a_this, .int p1] : List Value).toArray below meth c s.heap [] 0 0 (MQ below (rwQ D (some (.int r)) [(a_this, .inr (8, [.ref a_letters, .int z_typed, .ref a_draft, .ref a_folk, .ref a_reader, .ref a_strength, .ref a_present, .ref a_history, .ref a_images, .ref a_kept, .ref a_planner, .ref a_gambler, .ref a_guesser, .long o_z_traced])), (a_folk, .inr (0, [.int z_folk_planks, .int z_folk_size, .int z_folk_sworn, .ref a_folk_bank, .ref a_folk_kind, .ref a_folk_word, .ref a_folk_slow, .ref a_folk_told])), (a_folk_word, .inl (cI, 8, .inl z_folk_word)), (a_folk_slow, .inl (cI, 8, .inl z_folk_slow))] A) ([.ref a_this, .int p1] : List Value).toArray s 0 0 A) (F0 m 0 ls [])
  have hP : va_P D vwCl [(a_this, .inr (8, [.ref a_letters, .int z_typed, .ref a_draft, .ref a_folk, .ref a_reader, .ref a_strength, .ref a_present, .ref a_history, .ref a_images, .ref a_kept, .ref a_planner, .ref a_gambler, .ref a_guesser, .long z_traced])), (a_folk, .inr (0, [.int z_folk_planks, .int z_folk_size, .int z_folk_sworn, .ref a_folk_bank, .ref a_folk_kind, .ref a_folk_word, .ref a_folk_slow, .ref a_folk_told])), (a_folk_word, .inl (cI, 8, .inl z_folk_word)), (a_folk_slow, .inl (cI, 8, .inl z_folk_slow))] s.heap := hP
  have hD : va_D A [(a_this, .inr (8, [.ref a_letters, .int z_typed, .ref a_draft, .ref a_folk, .ref a_reader, .ref a_strength, .ref a_present, .ref a_history, .ref a_images, .ref a_kept, .ref a_planner, .ref a_gambler, .ref a_guesser, .long z_traced])), (a_folk, .inr (0, [.int z_folk_planks, .int z_folk_size, .int z_folk_sworn, .ref a_folk_bank, .ref a_folk_kind, .ref a_folk_word, .ref a_folk_slow, .ref a_folk_told])), (a_folk_word, .inl (cI, 8, .inl z_folk_word)), (a_folk_slow, .inl (cI, 8, .inl z_folk_slow))] := hD
  unfold fX8_rateAsPlain at hf
  obtain ⟨H, hH⟩ : ∃ H, H = s.heap := ⟨_, rfl⟩
  obtain ⟨locs, hlo⟩ : ∃ q : List Loc, q = [] := ⟨_, rfl⟩
  have hS : va_S A s.heap H locs := by rw [hH, hlo]; exact hS
  rw [← hH] at hP
  suffices hgo : W p l e ({ frames := 1, cells := 0, slots := 0, locals := 21 } : Room) s m ([.ref a_this, .int p1] : List Value).toArray below meth c H locs 0 0 (MQ below (rwQ D (some (.int r)) [(a_this, .inr (8, [.ref a_letters, .int z_typed, .ref a_draft, .ref a_folk, .ref a_reader, .ref a_strength, .ref a_present, .ref a_history, .ref a_images, .ref a_kept, .ref a_planner, .ref a_gambler, .ref a_guesser, .long o_z_traced])), (a_folk, .inr (0, [.int z_folk_planks, .int z_folk_size, .int z_folk_sworn, .ref a_folk_bank, .ref a_folk_kind, .ref a_folk_word, .ref a_folk_slow, .ref a_folk_told])), (a_folk_word, .inl (cI, 8, .inl z_folk_word)), (a_folk_slow, .inl (cI, 8, .inl z_folk_slow))] A) ([.ref a_this, .int p1] : List Value).toArray s 0 0 A) (F0 m 0 ls []) by rw [hH, hlo] at hgo; exact hgo
  clear hH hlo
  refine lv_aload_n hx hb dX8_rateAsPlain_0 rfl (lv_at hl 0 rfl) ?_
  refine lv_dup hx hb dX8_rateAsPlain_1 rfl ?_
  refine va_get (D := D) (ci := 8) (v := .long z_traced) (C := RX8) (T := TX8) (N := 14) hx hb hts inTX8 hown hK hP 0 rfl rfl 13 (by decide) (hts _ q300) (fun _ h9 => h9) rfl dX8_rateAsPlain_2 ?_
  refine lv_ldc2 (v := 10) hx hb hown (hts _ q852) dX8_rateAsPlain_5 ?_
  refine lv_ladd hx hb dX8_rateAsPlain_8 ?_
  refine va_put (D := D) (ci := 8) (v := .long (z_traced + 10)) (ty := .long) (C := RX8) (T := TX8) (N := 14) hx hb hts inTX8 tyX8 tyX8_ok nmX8 hown hK hP hD hS 0 rfl rfl 13 (by decide) (hts _ q300) (fun _ h9 => h9) rfl (by decide +kernel) rfl rfl (Nat.le_of_ble_eq_true rfl) dX8_rateAsPlain_9 (fun H locs hP hD hS => ?_)
  have hP : va_P D vwCl [(a_this, .inr (8, [.ref a_letters, .int z_typed, .ref a_draft, .ref a_folk, .ref a_reader, .ref a_strength, .ref a_present, .ref a_history, .ref a_images, .ref a_kept, .ref a_planner, .ref a_gambler, .ref a_guesser, .long (z_traced + 10)])), (a_folk, .inr (0, [.int z_folk_planks, .int z_folk_size, .int z_folk_sworn, .ref a_folk_bank, .ref a_folk_kind, .ref a_folk_word, .ref a_folk_slow, .ref a_folk_told])), (a_folk_word, .inl (cI, 8, .inl z_folk_word)), (a_folk_slow, .inl (cI, 8, .inl z_folk_slow))] H := hP
  have hD : va_D A [(a_this, .inr (8, [.ref a_letters, .int z_typed, .ref a_draft, .ref a_folk, .ref a_reader, .ref a_strength, .ref a_present, .ref a_history, .ref a_images, .ref a_kept, .ref a_planner, .ref a_gambler, .ref a_guesser, .long (z_traced + 10)])), (a_folk, .inr (0, [.int z_folk_planks, .int z_folk_size, .int z_folk_sworn, .ref a_folk_bank, .ref a_folk_kind, .ref a_folk_word, .ref a_folk_slow, .ref a_folk_told])), (a_folk_word, .inl (cI, 8, .inl z_folk_word)), (a_folk_slow, .inl (cI, 8, .inl z_folk_slow))] := hD
  refine lv_aload_n hx hb dX8_rateAsPlain_12 rfl (lv_at hl 0 rfl) ?_
  refine lv_iload_n hx hb dX8_rateAsPlain_13 rfl (lv_at hl 1 rfl) ?_
  obtain ⟨⟨v1, g2⟩, hv1, hf⟩ := ob hf
  dsimp only at hf
  refine kX8_rateAsPerson hx hb hml hown hts hKW q844 hP hD hS [0, 1, 2] rfl (by decide) hv1 hl.1 (Nat.le_of_ble_eq_true rfl) ⟨Nat.le_of_ble_eq_true rfl, Nat.le_of_ble_eq_true rfl⟩ ⟨Nat.zero_le _, Nat.zero_le _⟩ dX8_rateAsPlain_14 (fun H locs hP hD hS => ?_)
  have hP : va_P D vwCl [(a_this, .inr (8, [.ref a_letters, .int z_typed, .ref a_draft, .ref a_folk, .ref a_reader, .ref a_strength, .ref a_present, .ref a_history, .ref a_images, .ref a_kept, .ref a_planner, .ref a_gambler, .ref a_guesser, .long g2])), (a_folk, .inr (0, [.int z_folk_planks, .int z_folk_size, .int z_folk_sworn, .ref a_folk_bank, .ref a_folk_kind, .ref a_folk_word, .ref a_folk_slow, .ref a_folk_told])), (a_folk_word, .inl (cI, 8, .inl z_folk_word)), (a_folk_slow, .inl (cI, 8, .inl z_folk_slow))] H := hP
  have hD : va_D A [(a_this, .inr (8, [.ref a_letters, .int z_typed, .ref a_draft, .ref a_folk, .ref a_reader, .ref a_strength, .ref a_present, .ref a_history, .ref a_images, .ref a_kept, .ref a_planner, .ref a_gambler, .ref a_guesser, .long g2])), (a_folk, .inr (0, [.int z_folk_planks, .int z_folk_size, .int z_folk_sworn, .ref a_folk_bank, .ref a_folk_kind, .ref a_folk_word, .ref a_folk_slow, .ref a_folk_told])), (a_folk_word, .inl (cI, 8, .inl z_folk_word)), (a_folk_slow, .inl (cI, 8, .inl z_folk_slow))] := hD
  refine lv_aload_n hx hb dX8_rateAsPlain_17 rfl (lv_at hl 0 rfl) ?_
  refine va_get (D := D) (ci := 8) (v := .ref a_folk) (C := RX8) (T := TX8) (N := 14) hx hb hts inTX8 hown hK hP 0 rfl rfl 3 (by decide) (hts _ q290) (fun _ h9 => h9) rfl dX8_rateAsPlain_18 ?_
  refine va_get (D := D) (ci := 0) (v := .ref a_folk_slow) (C := RX0) (T := TX0) (N := 8) hx hb hts inTX0 hown hK hP 1 rfl rfl 6 (by decide) (hts _ q98) (fun _ h9 => h9) rfl dX8_rateAsPlain_21 ?_
  refine lv_iload_n hx hb dX8_rateAsPlain_24 rfl (lv_at hl 1 rfl) ?_
  obtain ⟨v3, hv3, hf⟩ := ob hf
  refine x_iald hx hb hK hP 3 0 rfl rfl hv3 dX8_rateAsPlain_25 ?_
  refine lv_iadd hx hb dX8_rateAsPlain_26 ?_
  cases hf
  exact W.iret hx hb hr (fun t ht _ => ⟨rfl, by rw [ht]; exact hP, hS.F ht⟩) hS.2.2 dX8_rateAsPlain_27
theorem kX8_rateAsPlain {p : Program} {l : Launch} {e : Env} {R : Room} {s : State} {m : MethodId} {args : Array Value} {below : List Frame} {meth : Method} {c : Code} {H : Heap} {locs : List Loc} {cells slots : Nat} {Q : State → Prop} {cc : ByteArray} {nL pc index : Nat} {ls : Array Slot} {rest : List Value} {own : String} {D : va_G} {cI cZ cQ : ClassId} {a_this a_letters a_draft a_folk a_reader a_strength a_present a_history a_images a_kept a_planner a_gambler a_guesser a_folk_bank a_folk_kind a_folk_word a_folk_slow a_folk_told : Nat} {z_typed z_folk_planks z_folk_size z_folk_sworn p1 : Int32} {z_traced : Int64} {z_folk_word z_folk_slow : Nat → Int32} {fu : Nat} {r : Int32} {o_z_traced : Int64} (hx : p.tables.exec = Jvm.exec) (hb : c.code = cc) (hml : c.maxLocals = nL) (hown : s.vm.findClass own = some m.cls) (hts : ∀ w ∈ TB, w.before args s = true) (hKW : KW D (TY cI cZ cQ) s) (hlk : Cond.methodLink own index yX8_rateAsPlain ∈ TB) {ws : va_W} {A : Nat → Prop} {H0 : Heap} (hP : va_P D vwCl ws H) (hD : va_D A ws) (hS : va_S A H0 H locs) (is : List Nat) (hC : is.map (fun i => ws[i]?) = ([(a_this, .inr (8, [.ref a_letters, .int z_typed, .ref a_draft, .ref a_folk, .ref a_reader, .ref a_strength, .ref a_present, .ref a_history, .ref a_images, .ref a_kept, .ref a_planner, .ref a_gambler, .ref a_guesser, .long z_traced])), (a_folk, .inr (0, [.int z_folk_planks, .int z_folk_size, .int z_folk_sworn, .ref a_folk_bank, .ref a_folk_kind, .ref a_folk_word, .ref a_folk_slow, .ref a_folk_told])), (a_folk_word, .inl (cI, 8, .inl z_folk_word)), (a_folk_slow, .inl (cI, 8, .inl z_folk_slow))] : va_W).map some) (hnd : va_nd is = true) (hf : fX8_rateAsPlain fu z_folk_word z_folk_slow z_traced p1 = some (r, o_z_traced)) (hn : ls.size = nL) (hW : (rest.map fun v => v.category).sum ≤ 8) (hR : 1 + 1 ≤ R.frames ∧ 8 + (2 + 11) + 21 ≤ R.locals) (hcs : cells ≤ R.cells ∧ slots ≤ R.slots) (hdg : decode cc pc = .ok (.invokevirtual index, 3)) (kk : ∀ (H1 : Heap) (locs1 : List Loc), va_P D vwCl (rpl ws is [(a_this, .inr (8, [.ref a_letters, .int z_typed, .ref a_draft, .ref a_folk, .ref a_reader, .ref a_strength, .ref a_present, .ref a_history, .ref a_images, .ref a_kept, .ref a_planner, .ref a_gambler, .ref a_guesser, .long o_z_traced])), (a_folk, .inr (0, [.int z_folk_planks, .int z_folk_size, .int z_folk_sworn, .ref a_folk_bank, .ref a_folk_kind, .ref a_folk_word, .ref a_folk_slow, .ref a_folk_told])), (a_folk_word, .inl (cI, 8, .inl z_folk_word)), (a_folk_slow, .inl (cI, 8, .inl z_folk_slow))]) H1 → va_D A (rpl ws is [(a_this, .inr (8, [.ref a_letters, .int z_typed, .ref a_draft, .ref a_folk, .ref a_reader, .ref a_strength, .ref a_present, .ref a_history, .ref a_images, .ref a_kept, .ref a_planner, .ref a_gambler, .ref a_guesser, .long o_z_traced])), (a_folk, .inr (0, [.int z_folk_planks, .int z_folk_size, .int z_folk_sworn, .ref a_folk_bank, .ref a_folk_kind, .ref a_folk_word, .ref a_folk_slow, .ref a_folk_told])), (a_folk_word, .inl (cI, 8, .inl z_folk_word)), (a_folk_slow, .inl (cI, 8, .inl z_folk_slow))]) → va_S A H0 H1 locs1 → W p l e R s m args below meth c H1 locs1 cells slots Q (F0 m (pc + 3) ls (.int r :: rest))) : W p l e R s m args below meth c H locs cells slots Q (F0 m pc ls (.int p1 :: .ref a_this :: rest)) :=
  x_rw (va_runV (As := [.int p1]) (rest := rest) ⟨hx, hb, hml, hown, hts⟩ (tX8_rateAsPlain hf) (cwV 1 hts (tb_V hlk q850 q2 q39 q851) rfl rfl rfl (by decide +kernel) hR) ⟨rwB, va_recv hKW.1 (subP hP hC) (ci := 8) (q0 := 0) rfl rfl, fun U hU hW => ⟨rfl, by rw [hU]; exact subP hP hC, hKW.warm hW, subD hD hC hnd⟩⟩ rfl rfl hn rfl (lv_room hW) hdg hcs) hP hD hS is hC rfl kk

-- HalfPlanks.rateAsChild(I)I
def fX8_rateAsChild (fu : Nat) (z_folk_word : Nat → Int32) (z_folk_slow : Nat → Int32) (z_traced : Int64) (p1 : Int32) : Option (Int32 × Int64) :=
  (fX8_rateAsPlain fu z_folk_word z_folk_slow (z_traced + 100) p1).bind fun (v1, g2) =>
  some ((2 * v1), g2)
set_option maxHeartbeats 4000000 in
set_option maxRecDepth 100000 in
theorem tX8_rateAsChild {l : Launch} {D : va_G} {cI cZ cQ : ClassId} {a_this a_letters a_draft a_folk a_reader a_strength a_present a_history a_images a_kept a_planner a_gambler a_guesser a_folk_bank a_folk_kind a_folk_word a_folk_slow a_folk_told : Nat} {z_typed z_folk_planks z_folk_size z_folk_sworn p1 : Int32} {z_traced : Int64} {z_folk_word z_folk_slow : Nat → Int32} {fu : Nat} {r : Int32} {o_z_traced : Int64} (hf : fX8_rateAsChild fu z_folk_word z_folk_slow z_traced p1 = some (r, o_z_traced)) : Met l yX8_rateAsChild (.code yX8_rateAsChild cX8_rateAsChild 2 (some .int) :: TB) ({ frames := 2, cells := 0, slots := 0, locals := 42 } : Room) (rwP D (TY cI cZ cQ) [(a_this, .inr (8, [.ref a_letters, .int z_typed, .ref a_draft, .ref a_folk, .ref a_reader, .ref a_strength, .ref a_present, .ref a_history, .ref a_images, .ref a_kept, .ref a_planner, .ref a_gambler, .ref a_guesser, .long z_traced])), (a_folk, .inr (0, [.int z_folk_planks, .int z_folk_size, .int z_folk_sworn, .ref a_folk_bank, .ref a_folk_kind, .ref a_folk_word, .ref a_folk_slow, .ref a_folk_told])), (a_folk_word, .inl (cI, 8, .inl z_folk_word)), (a_folk_slow, .inl (cI, 8, .inl z_folk_slow))] [.ref a_this, .int p1]) (rwQ D (some (.int r)) [(a_this, .inr (8, [.ref a_letters, .int z_typed, .ref a_draft, .ref a_folk, .ref a_reader, .ref a_strength, .ref a_present, .ref a_history, .ref a_images, .ref a_kept, .ref a_planner, .ref a_gambler, .ref a_guesser, .long o_z_traced])), (a_folk, .inr (0, [.int z_folk_planks, .int z_folk_size, .int z_folk_sworn, .ref a_folk_bank, .ref a_folk_kind, .ref a_folk_word, .ref a_folk_slow, .ref a_folk_told])), (a_folk_word, .inl (cI, 8, .inl z_folk_word)), (a_folk_slow, .inl (cI, 8, .inl z_folk_slow))] (inW [(a_this, .inr (8, [.ref a_letters, .int z_typed, .ref a_draft, .ref a_folk, .ref a_reader, .ref a_strength, .ref a_present, .ref a_history, .ref a_images, .ref a_kept, .ref a_planner, .ref a_gambler, .ref a_guesser, .long z_traced])), (a_folk, .inr (0, [.int z_folk_planks, .int z_folk_size, .int z_folk_sworn, .ref a_folk_bank, .ref a_folk_kind, .ref a_folk_word, .ref a_folk_slow, .ref a_folk_told])), (a_folk_word, .inl (cI, 8, .inl z_folk_word)), (a_folk_slow, .inl (cI, 8, .inl z_folk_slow))])) 0 0 (inW [(a_this, .inr (8, [.ref a_letters, .int z_typed, .ref a_draft, .ref a_folk, .ref a_reader, .ref a_strength, .ref a_present, .ref a_history, .ref a_images, .ref a_kept, .ref a_planner, .ref a_gambler, .ref a_guesser, .long z_traced])), (a_folk, .inr (0, [.int z_folk_planks, .int z_folk_size, .int z_folk_sworn, .ref a_folk_bank, .ref a_folk_kind, .ref a_folk_word, .ref a_folk_slow, .ref a_folk_told])), (a_folk_word, .inl (cI, 8, .inl z_folk_word)), (a_folk_slow, .inl (cI, 8, .inl z_folk_slow))]) := by
  refine Met.ofW (cc := cX8_rateAsChild) (maxL := 2) (ret := (some .int)) (by decide) rfl ?_
  intro p e s m args below meth c s₁ B hml hv
  obtain ⟨rfl, hP, hKW, hD0⟩ := hv
  have hx := B.exec
  have hb := B.bytes
  have hr := B.returns
  have hts : ∀ w ∈ TB, w.before ([.ref a_this, .int p1] : List Value).toArray s = true := fun w h => atoms_spec (ws := .code yX8_rateAsChild cX8_rateAsChild 2 (some .int) :: TB) B.pre w (List.mem_cons_of_mem _ h)
  have hown : s.vm.findClass RX8 = some m.cls := findClass_of_methodNamed B.named
  have hlocks := B.notSynchronized
  have hK := hKW.1
  have hD := inW_D hD0
  generalize hAe : inW [(a_this, .inr (8, [.ref a_letters, .int z_typed, .ref a_draft, .ref a_folk, .ref a_reader, .ref a_strength, .ref a_present, .ref a_history, .ref a_images, .ref a_kept, .ref a_planner, .ref a_gambler, .ref a_guesser, .long z_traced])), (a_folk, .inr (0, [.int z_folk_planks, .int z_folk_size, .int z_folk_sworn, .ref a_folk_bank, .ref a_folk_kind, .ref a_folk_word, .ref a_folk_slow, .ref a_folk_told])), (a_folk_word, .inl (cI, 8, .inl z_folk_word)), (a_folk_slow, .inl (cI, 8, .inl z_folk_slow))] = A at hD ⊢
  have hS : va_S A s.heap s.heap [] := va_S.rf
  have hl := lv_entry [.ref a_this, .int p1] (n := 2) (Nat.le_of_ble_eq_true rfl)
  rw [lg_entry_eq]
  generalize (lg_sl [.ref a_this, .int p1] ++ List.replicate (2 - (lg_sl [.ref a_this, .int p1]).length) Slot.unset).toArray = ls at hl ⊢
  have hl : lv_has ls 2 [(0, .ref a_this), (1, .int p1)] := hl
  show W p l e ({ frames := 2, cells := 0, slots := 0, locals := 42 } : Room) s m ([.ref a_this, .int p1] : List Value).toArray below meth c s.heap [] 0 0 (MQ below (rwQ D (some (.int r)) [(a_this, .inr (8, [.ref a_letters, .int z_typed, .ref a_draft, .ref a_folk, .ref a_reader, .ref a_strength, .ref a_present, .ref a_history, .ref a_images, .ref a_kept, .ref a_planner, .ref a_gambler, .ref a_guesser, .long o_z_traced])), (a_folk, .inr (0, [.int z_folk_planks, .int z_folk_size, .int z_folk_sworn, .ref a_folk_bank, .ref a_folk_kind, .ref a_folk_word, .ref a_folk_slow, .ref a_folk_told])), (a_folk_word, .inl (cI, 8, .inl z_folk_word)), (a_folk_slow, .inl (cI, 8, .inl z_folk_slow))] A) ([.ref a_this, .int p1] : List Value).toArray s 0 0 A) (F0 m 0 ls [])
  have hP : va_P D vwCl [(a_this, .inr (8, [.ref a_letters, .int z_typed, .ref a_draft, .ref a_folk, .ref a_reader, .ref a_strength, .ref a_present, .ref a_history, .ref a_images, .ref a_kept, .ref a_planner, .ref a_gambler, .ref a_guesser, .long z_traced])), (a_folk, .inr (0, [.int z_folk_planks, .int z_folk_size, .int z_folk_sworn, .ref a_folk_bank, .ref a_folk_kind, .ref a_folk_word, .ref a_folk_slow, .ref a_folk_told])), (a_folk_word, .inl (cI, 8, .inl z_folk_word)), (a_folk_slow, .inl (cI, 8, .inl z_folk_slow))] s.heap := hP
  have hD : va_D A [(a_this, .inr (8, [.ref a_letters, .int z_typed, .ref a_draft, .ref a_folk, .ref a_reader, .ref a_strength, .ref a_present, .ref a_history, .ref a_images, .ref a_kept, .ref a_planner, .ref a_gambler, .ref a_guesser, .long z_traced])), (a_folk, .inr (0, [.int z_folk_planks, .int z_folk_size, .int z_folk_sworn, .ref a_folk_bank, .ref a_folk_kind, .ref a_folk_word, .ref a_folk_slow, .ref a_folk_told])), (a_folk_word, .inl (cI, 8, .inl z_folk_word)), (a_folk_slow, .inl (cI, 8, .inl z_folk_slow))] := hD
  unfold fX8_rateAsChild at hf
  obtain ⟨H, hH⟩ : ∃ H, H = s.heap := ⟨_, rfl⟩
  obtain ⟨locs, hlo⟩ : ∃ q : List Loc, q = [] := ⟨_, rfl⟩
  have hS : va_S A s.heap H locs := by rw [hH, hlo]; exact hS
  rw [← hH] at hP
  suffices hgo : W p l e ({ frames := 2, cells := 0, slots := 0, locals := 42 } : Room) s m ([.ref a_this, .int p1] : List Value).toArray below meth c H locs 0 0 (MQ below (rwQ D (some (.int r)) [(a_this, .inr (8, [.ref a_letters, .int z_typed, .ref a_draft, .ref a_folk, .ref a_reader, .ref a_strength, .ref a_present, .ref a_history, .ref a_images, .ref a_kept, .ref a_planner, .ref a_gambler, .ref a_guesser, .long o_z_traced])), (a_folk, .inr (0, [.int z_folk_planks, .int z_folk_size, .int z_folk_sworn, .ref a_folk_bank, .ref a_folk_kind, .ref a_folk_word, .ref a_folk_slow, .ref a_folk_told])), (a_folk_word, .inl (cI, 8, .inl z_folk_word)), (a_folk_slow, .inl (cI, 8, .inl z_folk_slow))] A) ([.ref a_this, .int p1] : List Value).toArray s 0 0 A) (F0 m 0 ls []) by rw [hH, hlo] at hgo; exact hgo
  clear hH hlo
  refine lv_aload_n hx hb dX8_rateAsChild_0 rfl (lv_at hl 0 rfl) ?_
  refine lv_dup hx hb dX8_rateAsChild_1 rfl ?_
  refine va_get (D := D) (ci := 8) (v := .long z_traced) (C := RX8) (T := TX8) (N := 14) hx hb hts inTX8 hown hK hP 0 rfl rfl 13 (by decide) (hts _ q300) (fun _ h9 => h9) rfl dX8_rateAsChild_2 ?_
  refine lv_ldc2 (v := 100) hx hb hown (hts _ q857) dX8_rateAsChild_5 ?_
  refine lv_ladd hx hb dX8_rateAsChild_8 ?_
  refine va_put (D := D) (ci := 8) (v := .long (z_traced + 100)) (ty := .long) (C := RX8) (T := TX8) (N := 14) hx hb hts inTX8 tyX8 tyX8_ok nmX8 hown hK hP hD hS 0 rfl rfl 13 (by decide) (hts _ q300) (fun _ h9 => h9) rfl (by decide +kernel) rfl rfl (Nat.le_of_ble_eq_true rfl) dX8_rateAsChild_9 (fun H locs hP hD hS => ?_)
  have hP : va_P D vwCl [(a_this, .inr (8, [.ref a_letters, .int z_typed, .ref a_draft, .ref a_folk, .ref a_reader, .ref a_strength, .ref a_present, .ref a_history, .ref a_images, .ref a_kept, .ref a_planner, .ref a_gambler, .ref a_guesser, .long (z_traced + 100)])), (a_folk, .inr (0, [.int z_folk_planks, .int z_folk_size, .int z_folk_sworn, .ref a_folk_bank, .ref a_folk_kind, .ref a_folk_word, .ref a_folk_slow, .ref a_folk_told])), (a_folk_word, .inl (cI, 8, .inl z_folk_word)), (a_folk_slow, .inl (cI, 8, .inl z_folk_slow))] H := hP
  have hD : va_D A [(a_this, .inr (8, [.ref a_letters, .int z_typed, .ref a_draft, .ref a_folk, .ref a_reader, .ref a_strength, .ref a_present, .ref a_history, .ref a_images, .ref a_kept, .ref a_planner, .ref a_gambler, .ref a_guesser, .long (z_traced + 100)])), (a_folk, .inr (0, [.int z_folk_planks, .int z_folk_size, .int z_folk_sworn, .ref a_folk_bank, .ref a_folk_kind, .ref a_folk_word, .ref a_folk_slow, .ref a_folk_told])), (a_folk_word, .inl (cI, 8, .inl z_folk_word)), (a_folk_slow, .inl (cI, 8, .inl z_folk_slow))] := hD
  refine lv_iconst (v := 2) hx hb dX8_rateAsChild_12 (by decide) ?_
  refine lv_aload_n hx hb dX8_rateAsChild_13 rfl (lv_at hl 0 rfl) ?_
  refine lv_iload_n hx hb dX8_rateAsChild_14 rfl (lv_at hl 1 rfl) ?_
  obtain ⟨⟨v1, g2⟩, hv1, hf⟩ := ob hf
  dsimp only at hf
  refine kX8_rateAsPlain hx hb hml hown hts hKW q848 hP hD hS [0, 1, 2, 3] rfl (by decide) hv1 hl.1 (Nat.le_of_ble_eq_true rfl) ⟨Nat.le_of_ble_eq_true rfl, Nat.le_of_ble_eq_true rfl⟩ ⟨Nat.zero_le _, Nat.zero_le _⟩ dX8_rateAsChild_15 (fun H locs hP hD hS => ?_)
  have hP : va_P D vwCl [(a_this, .inr (8, [.ref a_letters, .int z_typed, .ref a_draft, .ref a_folk, .ref a_reader, .ref a_strength, .ref a_present, .ref a_history, .ref a_images, .ref a_kept, .ref a_planner, .ref a_gambler, .ref a_guesser, .long g2])), (a_folk, .inr (0, [.int z_folk_planks, .int z_folk_size, .int z_folk_sworn, .ref a_folk_bank, .ref a_folk_kind, .ref a_folk_word, .ref a_folk_slow, .ref a_folk_told])), (a_folk_word, .inl (cI, 8, .inl z_folk_word)), (a_folk_slow, .inl (cI, 8, .inl z_folk_slow))] H := hP
  have hD : va_D A [(a_this, .inr (8, [.ref a_letters, .int z_typed, .ref a_draft, .ref a_folk, .ref a_reader, .ref a_strength, .ref a_present, .ref a_history, .ref a_images, .ref a_kept, .ref a_planner, .ref a_gambler, .ref a_guesser, .long g2])), (a_folk, .inr (0, [.int z_folk_planks, .int z_folk_size, .int z_folk_sworn, .ref a_folk_bank, .ref a_folk_kind, .ref a_folk_word, .ref a_folk_slow, .ref a_folk_told])), (a_folk_word, .inl (cI, 8, .inl z_folk_word)), (a_folk_slow, .inl (cI, 8, .inl z_folk_slow))] := hD
  refine lv_imul hx hb dX8_rateAsChild_18 ?_
  cases hf
  exact W.iret hx hb hr (fun t ht _ => ⟨rfl, by rw [ht]; exact hP, hS.F ht⟩) hS.2.2 dX8_rateAsChild_19
theorem kX8_rateAsChild {p : Program} {l : Launch} {e : Env} {R : Room} {s : State} {m : MethodId} {args : Array Value} {below : List Frame} {meth : Method} {c : Code} {H : Heap} {locs : List Loc} {cells slots : Nat} {Q : State → Prop} {cc : ByteArray} {nL pc index : Nat} {ls : Array Slot} {rest : List Value} {own : String} {D : va_G} {cI cZ cQ : ClassId} {a_this a_letters a_draft a_folk a_reader a_strength a_present a_history a_images a_kept a_planner a_gambler a_guesser a_folk_bank a_folk_kind a_folk_word a_folk_slow a_folk_told : Nat} {z_typed z_folk_planks z_folk_size z_folk_sworn p1 : Int32} {z_traced : Int64} {z_folk_word z_folk_slow : Nat → Int32} {fu : Nat} {r : Int32} {o_z_traced : Int64} (hx : p.tables.exec = Jvm.exec) (hb : c.code = cc) (hml : c.maxLocals = nL) (hown : s.vm.findClass own = some m.cls) (hts : ∀ w ∈ TB, w.before args s = true) (hKW : KW D (TY cI cZ cQ) s) (hlk : Cond.methodLink own index yX8_rateAsChild ∈ TB) {ws : va_W} {A : Nat → Prop} {H0 : Heap} (hP : va_P D vwCl ws H) (hD : va_D A ws) (hS : va_S A H0 H locs) (is : List Nat) (hC : is.map (fun i => ws[i]?) = ([(a_this, .inr (8, [.ref a_letters, .int z_typed, .ref a_draft, .ref a_folk, .ref a_reader, .ref a_strength, .ref a_present, .ref a_history, .ref a_images, .ref a_kept, .ref a_planner, .ref a_gambler, .ref a_guesser, .long z_traced])), (a_folk, .inr (0, [.int z_folk_planks, .int z_folk_size, .int z_folk_sworn, .ref a_folk_bank, .ref a_folk_kind, .ref a_folk_word, .ref a_folk_slow, .ref a_folk_told])), (a_folk_word, .inl (cI, 8, .inl z_folk_word)), (a_folk_slow, .inl (cI, 8, .inl z_folk_slow))] : va_W).map some) (hnd : va_nd is = true) (hf : fX8_rateAsChild fu z_folk_word z_folk_slow z_traced p1 = some (r, o_z_traced)) (hn : ls.size = nL) (hW : (rest.map fun v => v.category).sum ≤ 8) (hR : 2 + 1 ≤ R.frames ∧ 8 + (2 + 11) + 42 ≤ R.locals) (hcs : cells ≤ R.cells ∧ slots ≤ R.slots) (hdg : decode cc pc = .ok (.invokevirtual index, 3)) (kk : ∀ (H1 : Heap) (locs1 : List Loc), va_P D vwCl (rpl ws is [(a_this, .inr (8, [.ref a_letters, .int z_typed, .ref a_draft, .ref a_folk, .ref a_reader, .ref a_strength, .ref a_present, .ref a_history, .ref a_images, .ref a_kept, .ref a_planner, .ref a_gambler, .ref a_guesser, .long o_z_traced])), (a_folk, .inr (0, [.int z_folk_planks, .int z_folk_size, .int z_folk_sworn, .ref a_folk_bank, .ref a_folk_kind, .ref a_folk_word, .ref a_folk_slow, .ref a_folk_told])), (a_folk_word, .inl (cI, 8, .inl z_folk_word)), (a_folk_slow, .inl (cI, 8, .inl z_folk_slow))]) H1 → va_D A (rpl ws is [(a_this, .inr (8, [.ref a_letters, .int z_typed, .ref a_draft, .ref a_folk, .ref a_reader, .ref a_strength, .ref a_present, .ref a_history, .ref a_images, .ref a_kept, .ref a_planner, .ref a_gambler, .ref a_guesser, .long o_z_traced])), (a_folk, .inr (0, [.int z_folk_planks, .int z_folk_size, .int z_folk_sworn, .ref a_folk_bank, .ref a_folk_kind, .ref a_folk_word, .ref a_folk_slow, .ref a_folk_told])), (a_folk_word, .inl (cI, 8, .inl z_folk_word)), (a_folk_slow, .inl (cI, 8, .inl z_folk_slow))]) → va_S A H0 H1 locs1 → W p l e R s m args below meth c H1 locs1 cells slots Q (F0 m (pc + 3) ls (.int r :: rest))) : W p l e R s m args below meth c H locs cells slots Q (F0 m pc ls (.int p1 :: .ref a_this :: rest)) :=
  x_rw (va_runV (As := [.int p1]) (rest := rest) ⟨hx, hb, hml, hown, hts⟩ (tX8_rateAsChild hf) (cwV 1 hts (tb_V hlk q855 q3 q39 q856) rfl rfl rfl (by decide +kernel) hR) ⟨rwB, va_recv hKW.1 (subP hP hC) (ci := 8) (q0 := 0) rfl rfl, fun U hU hW => ⟨rfl, by rw [hU]; exact subP hP hC, hKW.warm hW, subD hD hC hnd⟩⟩ rfl rfl hn rfl (lv_room hW) hdg hcs) hP hD hS is hC rfl kk

-- HalfPlanks.rateAsSworn(I)I
def fX8_rateAsSworn (fu : Nat) (z_folk_word : Nat → Int32) (z_folk_planks : Int32) (z_present_came : Nat → Int32) (z_traced : Int64) (p1 : Int32) : Option (Int32 × Int64) :=
  (fX8_rateAsPerson fu z_folk_word (z_traced + 1000) p1).bind fun (v1, g2) =>
  (fX8_planksOf fu z_folk_planks z_present_came p1).bind fun v3 =>
  (fJ6_bitCount_0f7a4 fu v3).bind fun v4 =>
  some ((v1 + v4), g2)
set_option maxHeartbeats 4000000 in
set_option maxRecDepth 100000 in
theorem tX8_rateAsSworn {l : Launch} {D : va_G} {cI cZ cQ : ClassId} {a_this a_letters a_draft a_folk a_reader a_strength a_present a_history a_images a_kept a_planner a_gambler a_guesser a_folk_bank a_folk_kind a_folk_word a_folk_slow a_folk_told a_present_came a_present_under a_present_due : Nat} {z_typed z_folk_planks z_folk_size z_folk_sworn z_present_day z_present_crossed p1 : Int32} {z_traced : Int64} {z_folk_word z_present_came : Nat → Int32} {fu : Nat} {r : Int32} {o_z_traced : Int64} (hf : fX8_rateAsSworn fu z_folk_word z_folk_planks z_present_came z_traced p1 = some (r, o_z_traced)) : Met l yX8_rateAsSworn (.code yX8_rateAsSworn cX8_rateAsSworn 2 (some .int) :: TB) ({ frames := 2, cells := 0, slots := 0, locals := 45 } : Room) (rwP D (TY cI cZ cQ) [(a_this, .inr (8, [.ref a_letters, .int z_typed, .ref a_draft, .ref a_folk, .ref a_reader, .ref a_strength, .ref a_present, .ref a_history, .ref a_images, .ref a_kept, .ref a_planner, .ref a_gambler, .ref a_guesser, .long z_traced])), (a_folk, .inr (0, [.int z_folk_planks, .int z_folk_size, .int z_folk_sworn, .ref a_folk_bank, .ref a_folk_kind, .ref a_folk_word, .ref a_folk_slow, .ref a_folk_told])), (a_folk_word, .inl (cI, 8, .inl z_folk_word)), (a_present, .inr (5, [.int z_present_day, .int z_present_crossed, .ref a_present_came, .ref a_present_under, .ref a_present_due])), (a_present_came, .inl (cI, 8, .inl z_present_came))] [.ref a_this, .int p1]) (rwQ D (some (.int r)) [(a_this, .inr (8, [.ref a_letters, .int z_typed, .ref a_draft, .ref a_folk, .ref a_reader, .ref a_strength, .ref a_present, .ref a_history, .ref a_images, .ref a_kept, .ref a_planner, .ref a_gambler, .ref a_guesser, .long o_z_traced])), (a_folk, .inr (0, [.int z_folk_planks, .int z_folk_size, .int z_folk_sworn, .ref a_folk_bank, .ref a_folk_kind, .ref a_folk_word, .ref a_folk_slow, .ref a_folk_told])), (a_folk_word, .inl (cI, 8, .inl z_folk_word)), (a_present, .inr (5, [.int z_present_day, .int z_present_crossed, .ref a_present_came, .ref a_present_under, .ref a_present_due])), (a_present_came, .inl (cI, 8, .inl z_present_came))] (inW [(a_this, .inr (8, [.ref a_letters, .int z_typed, .ref a_draft, .ref a_folk, .ref a_reader, .ref a_strength, .ref a_present, .ref a_history, .ref a_images, .ref a_kept, .ref a_planner, .ref a_gambler, .ref a_guesser, .long z_traced])), (a_folk, .inr (0, [.int z_folk_planks, .int z_folk_size, .int z_folk_sworn, .ref a_folk_bank, .ref a_folk_kind, .ref a_folk_word, .ref a_folk_slow, .ref a_folk_told])), (a_folk_word, .inl (cI, 8, .inl z_folk_word)), (a_present, .inr (5, [.int z_present_day, .int z_present_crossed, .ref a_present_came, .ref a_present_under, .ref a_present_due])), (a_present_came, .inl (cI, 8, .inl z_present_came))])) 0 0 (inW [(a_this, .inr (8, [.ref a_letters, .int z_typed, .ref a_draft, .ref a_folk, .ref a_reader, .ref a_strength, .ref a_present, .ref a_history, .ref a_images, .ref a_kept, .ref a_planner, .ref a_gambler, .ref a_guesser, .long z_traced])), (a_folk, .inr (0, [.int z_folk_planks, .int z_folk_size, .int z_folk_sworn, .ref a_folk_bank, .ref a_folk_kind, .ref a_folk_word, .ref a_folk_slow, .ref a_folk_told])), (a_folk_word, .inl (cI, 8, .inl z_folk_word)), (a_present, .inr (5, [.int z_present_day, .int z_present_crossed, .ref a_present_came, .ref a_present_under, .ref a_present_due])), (a_present_came, .inl (cI, 8, .inl z_present_came))]) := by
  refine Met.ofW (cc := cX8_rateAsSworn) (maxL := 2) (ret := (some .int)) (by decide) rfl ?_
  intro p e s m args below meth c s₁ B hml hv
  obtain ⟨rfl, hP, hKW, hD0⟩ := hv
  have hx := B.exec
  have hb := B.bytes
  have hr := B.returns
  have hts : ∀ w ∈ TB, w.before ([.ref a_this, .int p1] : List Value).toArray s = true := fun w h => atoms_spec (ws := .code yX8_rateAsSworn cX8_rateAsSworn 2 (some .int) :: TB) B.pre w (List.mem_cons_of_mem _ h)
  have hown : s.vm.findClass RX8 = some m.cls := findClass_of_methodNamed B.named
  have hlocks := B.notSynchronized
  have hK := hKW.1
  have hD := inW_D hD0
  generalize hAe : inW [(a_this, .inr (8, [.ref a_letters, .int z_typed, .ref a_draft, .ref a_folk, .ref a_reader, .ref a_strength, .ref a_present, .ref a_history, .ref a_images, .ref a_kept, .ref a_planner, .ref a_gambler, .ref a_guesser, .long z_traced])), (a_folk, .inr (0, [.int z_folk_planks, .int z_folk_size, .int z_folk_sworn, .ref a_folk_bank, .ref a_folk_kind, .ref a_folk_word, .ref a_folk_slow, .ref a_folk_told])), (a_folk_word, .inl (cI, 8, .inl z_folk_word)), (a_present, .inr (5, [.int z_present_day, .int z_present_crossed, .ref a_present_came, .ref a_present_under, .ref a_present_due])), (a_present_came, .inl (cI, 8, .inl z_present_came))] = A at hD ⊢
  have hS : va_S A s.heap s.heap [] := va_S.rf
  have hl := lv_entry [.ref a_this, .int p1] (n := 2) (Nat.le_of_ble_eq_true rfl)
  rw [lg_entry_eq]
  generalize (lg_sl [.ref a_this, .int p1] ++ List.replicate (2 - (lg_sl [.ref a_this, .int p1]).length) Slot.unset).toArray = ls at hl ⊢
  have hl : lv_has ls 2 [(0, .ref a_this), (1, .int p1)] := hl
  show W p l e ({ frames := 2, cells := 0, slots := 0, locals := 45 } : Room) s m ([.ref a_this, .int p1] : List Value).toArray below meth c s.heap [] 0 0 (MQ below (rwQ D (some (.int r)) [(a_this, .inr (8, [.ref a_letters, .int z_typed, .ref a_draft, .ref a_folk, .ref a_reader, .ref a_strength, .ref a_present, .ref a_history, .ref a_images, .ref a_kept, .ref a_planner, .ref a_gambler, .ref a_guesser, .long o_z_traced])), (a_folk, .inr (0, [.int z_folk_planks, .int z_folk_size, .int z_folk_sworn, .ref a_folk_bank, .ref a_folk_kind, .ref a_folk_word, .ref a_folk_slow, .ref a_folk_told])), (a_folk_word, .inl (cI, 8, .inl z_folk_word)), (a_present, .inr (5, [.int z_present_day, .int z_present_crossed, .ref a_present_came, .ref a_present_under, .ref a_present_due])), (a_present_came, .inl (cI, 8, .inl z_present_came))] A) ([.ref a_this, .int p1] : List Value).toArray s 0 0 A) (F0 m 0 ls [])
  have hP : va_P D vwCl [(a_this, .inr (8, [.ref a_letters, .int z_typed, .ref a_draft, .ref a_folk, .ref a_reader, .ref a_strength, .ref a_present, .ref a_history, .ref a_images, .ref a_kept, .ref a_planner, .ref a_gambler, .ref a_guesser, .long z_traced])), (a_folk, .inr (0, [.int z_folk_planks, .int z_folk_size, .int z_folk_sworn, .ref a_folk_bank, .ref a_folk_kind, .ref a_folk_word, .ref a_folk_slow, .ref a_folk_told])), (a_folk_word, .inl (cI, 8, .inl z_folk_word)), (a_present, .inr (5, [.int z_present_day, .int z_present_crossed, .ref a_present_came, .ref a_present_under, .ref a_present_due])), (a_present_came, .inl (cI, 8, .inl z_present_came))] s.heap := hP
  have hD : va_D A [(a_this, .inr (8, [.ref a_letters, .int z_typed, .ref a_draft, .ref a_folk, .ref a_reader, .ref a_strength, .ref a_present, .ref a_history, .ref a_images, .ref a_kept, .ref a_planner, .ref a_gambler, .ref a_guesser, .long z_traced])), (a_folk, .inr (0, [.int z_folk_planks, .int z_folk_size, .int z_folk_sworn, .ref a_folk_bank, .ref a_folk_kind, .ref a_folk_word, .ref a_folk_slow, .ref a_folk_told])), (a_folk_word, .inl (cI, 8, .inl z_folk_word)), (a_present, .inr (5, [.int z_present_day, .int z_present_crossed, .ref a_present_came, .ref a_present_under, .ref a_present_due])), (a_present_came, .inl (cI, 8, .inl z_present_came))] := hD
  unfold fX8_rateAsSworn at hf
  obtain ⟨H, hH⟩ : ∃ H, H = s.heap := ⟨_, rfl⟩
  obtain ⟨locs, hlo⟩ : ∃ q : List Loc, q = [] := ⟨_, rfl⟩
  have hS : va_S A s.heap H locs := by rw [hH, hlo]; exact hS
  rw [← hH] at hP
  suffices hgo : W p l e ({ frames := 2, cells := 0, slots := 0, locals := 45 } : Room) s m ([.ref a_this, .int p1] : List Value).toArray below meth c H locs 0 0 (MQ below (rwQ D (some (.int r)) [(a_this, .inr (8, [.ref a_letters, .int z_typed, .ref a_draft, .ref a_folk, .ref a_reader, .ref a_strength, .ref a_present, .ref a_history, .ref a_images, .ref a_kept, .ref a_planner, .ref a_gambler, .ref a_guesser, .long o_z_traced])), (a_folk, .inr (0, [.int z_folk_planks, .int z_folk_size, .int z_folk_sworn, .ref a_folk_bank, .ref a_folk_kind, .ref a_folk_word, .ref a_folk_slow, .ref a_folk_told])), (a_folk_word, .inl (cI, 8, .inl z_folk_word)), (a_present, .inr (5, [.int z_present_day, .int z_present_crossed, .ref a_present_came, .ref a_present_under, .ref a_present_due])), (a_present_came, .inl (cI, 8, .inl z_present_came))] A) ([.ref a_this, .int p1] : List Value).toArray s 0 0 A) (F0 m 0 ls []) by rw [hH, hlo] at hgo; exact hgo
  clear hH hlo
  refine lv_aload_n hx hb dX8_rateAsSworn_0 rfl (lv_at hl 0 rfl) ?_
  refine lv_dup hx hb dX8_rateAsSworn_1 rfl ?_
  refine va_get (D := D) (ci := 8) (v := .long z_traced) (C := RX8) (T := TX8) (N := 14) hx hb hts inTX8 hown hK hP 0 rfl rfl 13 (by decide) (hts _ q300) (fun _ h9 => h9) rfl dX8_rateAsSworn_2 ?_
  refine lv_ldc2 (v := 1000) hx hb hown (hts _ q862) dX8_rateAsSworn_5 ?_
  refine lv_ladd hx hb dX8_rateAsSworn_8 ?_
  refine va_put (D := D) (ci := 8) (v := .long (z_traced + 1000)) (ty := .long) (C := RX8) (T := TX8) (N := 14) hx hb hts inTX8 tyX8 tyX8_ok nmX8 hown hK hP hD hS 0 rfl rfl 13 (by decide) (hts _ q300) (fun _ h9 => h9) rfl (by decide +kernel) rfl rfl (Nat.le_of_ble_eq_true rfl) dX8_rateAsSworn_9 (fun H locs hP hD hS => ?_)
  have hP : va_P D vwCl [(a_this, .inr (8, [.ref a_letters, .int z_typed, .ref a_draft, .ref a_folk, .ref a_reader, .ref a_strength, .ref a_present, .ref a_history, .ref a_images, .ref a_kept, .ref a_planner, .ref a_gambler, .ref a_guesser, .long (z_traced + 1000)])), (a_folk, .inr (0, [.int z_folk_planks, .int z_folk_size, .int z_folk_sworn, .ref a_folk_bank, .ref a_folk_kind, .ref a_folk_word, .ref a_folk_slow, .ref a_folk_told])), (a_folk_word, .inl (cI, 8, .inl z_folk_word)), (a_present, .inr (5, [.int z_present_day, .int z_present_crossed, .ref a_present_came, .ref a_present_under, .ref a_present_due])), (a_present_came, .inl (cI, 8, .inl z_present_came))] H := hP
  have hD : va_D A [(a_this, .inr (8, [.ref a_letters, .int z_typed, .ref a_draft, .ref a_folk, .ref a_reader, .ref a_strength, .ref a_present, .ref a_history, .ref a_images, .ref a_kept, .ref a_planner, .ref a_gambler, .ref a_guesser, .long (z_traced + 1000)])), (a_folk, .inr (0, [.int z_folk_planks, .int z_folk_size, .int z_folk_sworn, .ref a_folk_bank, .ref a_folk_kind, .ref a_folk_word, .ref a_folk_slow, .ref a_folk_told])), (a_folk_word, .inl (cI, 8, .inl z_folk_word)), (a_present, .inr (5, [.int z_present_day, .int z_present_crossed, .ref a_present_came, .ref a_present_under, .ref a_present_due])), (a_present_came, .inl (cI, 8, .inl z_present_came))] := hD
  refine lv_aload_n hx hb dX8_rateAsSworn_12 rfl (lv_at hl 0 rfl) ?_
  refine lv_iload_n hx hb dX8_rateAsSworn_13 rfl (lv_at hl 1 rfl) ?_
  obtain ⟨⟨v1, g2⟩, hv1, hf⟩ := ob hf
  dsimp only at hf
  refine kX8_rateAsPerson hx hb hml hown hts hKW q844 hP hD hS [0, 1, 2] rfl (by decide) hv1 hl.1 (Nat.le_of_ble_eq_true rfl) ⟨Nat.le_of_ble_eq_true rfl, Nat.le_of_ble_eq_true rfl⟩ ⟨Nat.zero_le _, Nat.zero_le _⟩ dX8_rateAsSworn_14 (fun H locs hP hD hS => ?_)
  have hP : va_P D vwCl [(a_this, .inr (8, [.ref a_letters, .int z_typed, .ref a_draft, .ref a_folk, .ref a_reader, .ref a_strength, .ref a_present, .ref a_history, .ref a_images, .ref a_kept, .ref a_planner, .ref a_gambler, .ref a_guesser, .long g2])), (a_folk, .inr (0, [.int z_folk_planks, .int z_folk_size, .int z_folk_sworn, .ref a_folk_bank, .ref a_folk_kind, .ref a_folk_word, .ref a_folk_slow, .ref a_folk_told])), (a_folk_word, .inl (cI, 8, .inl z_folk_word)), (a_present, .inr (5, [.int z_present_day, .int z_present_crossed, .ref a_present_came, .ref a_present_under, .ref a_present_due])), (a_present_came, .inl (cI, 8, .inl z_present_came))] H := hP
  have hD : va_D A [(a_this, .inr (8, [.ref a_letters, .int z_typed, .ref a_draft, .ref a_folk, .ref a_reader, .ref a_strength, .ref a_present, .ref a_history, .ref a_images, .ref a_kept, .ref a_planner, .ref a_gambler, .ref a_guesser, .long g2])), (a_folk, .inr (0, [.int z_folk_planks, .int z_folk_size, .int z_folk_sworn, .ref a_folk_bank, .ref a_folk_kind, .ref a_folk_word, .ref a_folk_slow, .ref a_folk_told])), (a_folk_word, .inl (cI, 8, .inl z_folk_word)), (a_present, .inr (5, [.int z_present_day, .int z_present_crossed, .ref a_present_came, .ref a_present_under, .ref a_present_due])), (a_present_came, .inl (cI, 8, .inl z_present_came))] := hD
  refine lv_aload_n hx hb dX8_rateAsSworn_17 rfl (lv_at hl 0 rfl) ?_
  refine lv_aload_n hx hb dX8_rateAsSworn_18 rfl (lv_at hl 0 rfl) ?_
  refine va_get (D := D) (ci := 8) (v := .ref a_present) (C := RX8) (T := TX8) (N := 14) hx hb hts inTX8 hown hK hP 0 rfl rfl 6 (by decide) (hts _ q293) (fun _ h9 => h9) rfl dX8_rateAsSworn_19 ?_
  refine va_get (D := D) (ci := 5) (v := .ref a_present_came) (C := RX5) (T := TX5) (N := 5) hx hb hts inTX5 hown hK hP 3 rfl rfl 2 (by decide) (hts _ q176) (fun _ h9 => h9) rfl dX8_rateAsSworn_22 ?_
  refine lv_iload_n hx hb dX8_rateAsSworn_25 rfl (lv_at hl 1 rfl) ?_
  obtain ⟨v3, hv3, hf⟩ := ob hf
  refine kX8_planksOf hx hb hml hown hts hKW q529 (hP.sub [0, 1, 4] rfl) hv3 hl.1 (Nat.le_of_ble_eq_true rfl) ⟨Nat.le_of_ble_eq_true rfl, Nat.le_of_ble_eq_true rfl⟩ ⟨Nat.zero_le _, Nat.zero_le _⟩ dX8_rateAsSworn_26 ?_
  obtain ⟨v4, hv4, hf⟩ := ob hf
  refine kJ6_bitCount_0f7a4 hx hb hml hown hts hKW q863  hv4 hl.1 (Nat.le_of_ble_eq_true rfl) ⟨Nat.le_of_ble_eq_true rfl, Nat.le_of_ble_eq_true rfl⟩ ⟨Nat.zero_le _, Nat.zero_le _⟩ dX8_rateAsSworn_29 ?_
  refine lv_iadd hx hb dX8_rateAsSworn_32 ?_
  cases hf
  exact W.iret hx hb hr (fun t ht _ => ⟨rfl, by rw [ht]; exact hP, hS.F ht⟩) hS.2.2 dX8_rateAsSworn_33
theorem kX8_rateAsSworn {p : Program} {l : Launch} {e : Env} {R : Room} {s : State} {m : MethodId} {args : Array Value} {below : List Frame} {meth : Method} {c : Code} {H : Heap} {locs : List Loc} {cells slots : Nat} {Q : State → Prop} {cc : ByteArray} {nL pc index : Nat} {ls : Array Slot} {rest : List Value} {own : String} {D : va_G} {cI cZ cQ : ClassId} {a_this a_letters a_draft a_folk a_reader a_strength a_present a_history a_images a_kept a_planner a_gambler a_guesser a_folk_bank a_folk_kind a_folk_word a_folk_slow a_folk_told a_present_came a_present_under a_present_due : Nat} {z_typed z_folk_planks z_folk_size z_folk_sworn z_present_day z_present_crossed p1 : Int32} {z_traced : Int64} {z_folk_word z_present_came : Nat → Int32} {fu : Nat} {r : Int32} {o_z_traced : Int64} (hx : p.tables.exec = Jvm.exec) (hb : c.code = cc) (hml : c.maxLocals = nL) (hown : s.vm.findClass own = some m.cls) (hts : ∀ w ∈ TB, w.before args s = true) (hKW : KW D (TY cI cZ cQ) s) (hlk : Cond.methodLink own index yX8_rateAsSworn ∈ TB) {ws : va_W} {A : Nat → Prop} {H0 : Heap} (hP : va_P D vwCl ws H) (hD : va_D A ws) (hS : va_S A H0 H locs) (is : List Nat) (hC : is.map (fun i => ws[i]?) = ([(a_this, .inr (8, [.ref a_letters, .int z_typed, .ref a_draft, .ref a_folk, .ref a_reader, .ref a_strength, .ref a_present, .ref a_history, .ref a_images, .ref a_kept, .ref a_planner, .ref a_gambler, .ref a_guesser, .long z_traced])), (a_folk, .inr (0, [.int z_folk_planks, .int z_folk_size, .int z_folk_sworn, .ref a_folk_bank, .ref a_folk_kind, .ref a_folk_word, .ref a_folk_slow, .ref a_folk_told])), (a_folk_word, .inl (cI, 8, .inl z_folk_word)), (a_present, .inr (5, [.int z_present_day, .int z_present_crossed, .ref a_present_came, .ref a_present_under, .ref a_present_due])), (a_present_came, .inl (cI, 8, .inl z_present_came))] : va_W).map some) (hnd : va_nd is = true) (hf : fX8_rateAsSworn fu z_folk_word z_folk_planks z_present_came z_traced p1 = some (r, o_z_traced)) (hn : ls.size = nL) (hW : (rest.map fun v => v.category).sum ≤ 8) (hR : 2 + 1 ≤ R.frames ∧ 8 + (2 + 11) + 45 ≤ R.locals) (hcs : cells ≤ R.cells ∧ slots ≤ R.slots) (hdg : decode cc pc = .ok (.invokevirtual index, 3)) (kk : ∀ (H1 : Heap) (locs1 : List Loc), va_P D vwCl (rpl ws is [(a_this, .inr (8, [.ref a_letters, .int z_typed, .ref a_draft, .ref a_folk, .ref a_reader, .ref a_strength, .ref a_present, .ref a_history, .ref a_images, .ref a_kept, .ref a_planner, .ref a_gambler, .ref a_guesser, .long o_z_traced])), (a_folk, .inr (0, [.int z_folk_planks, .int z_folk_size, .int z_folk_sworn, .ref a_folk_bank, .ref a_folk_kind, .ref a_folk_word, .ref a_folk_slow, .ref a_folk_told])), (a_folk_word, .inl (cI, 8, .inl z_folk_word)), (a_present, .inr (5, [.int z_present_day, .int z_present_crossed, .ref a_present_came, .ref a_present_under, .ref a_present_due])), (a_present_came, .inl (cI, 8, .inl z_present_came))]) H1 → va_D A (rpl ws is [(a_this, .inr (8, [.ref a_letters, .int z_typed, .ref a_draft, .ref a_folk, .ref a_reader, .ref a_strength, .ref a_present, .ref a_history, .ref a_images, .ref a_kept, .ref a_planner, .ref a_gambler, .ref a_guesser, .long o_z_traced])), (a_folk, .inr (0, [.int z_folk_planks, .int z_folk_size, .int z_folk_sworn, .ref a_folk_bank, .ref a_folk_kind, .ref a_folk_word, .ref a_folk_slow, .ref a_folk_told])), (a_folk_word, .inl (cI, 8, .inl z_folk_word)), (a_present, .inr (5, [.int z_present_day, .int z_present_crossed, .ref a_present_came, .ref a_present_under, .ref a_present_due])), (a_present_came, .inl (cI, 8, .inl z_present_came))]) → va_S A H0 H1 locs1 → W p l e R s m args below meth c H1 locs1 cells slots Q (F0 m (pc + 3) ls (.int r :: rest))) : W p l e R s m args below meth c H locs cells slots Q (F0 m pc ls (.int p1 :: .ref a_this :: rest)) :=
  x_rw (va_runV (As := [.int p1]) (rest := rest) ⟨hx, hb, hml, hown, hts⟩ (tX8_rateAsSworn hf) (cwV 1 hts (tb_V hlk q860 q4 q39 q861) rfl rfl rfl (by decide +kernel) hR) ⟨rwB, va_recv hKW.1 (subP hP hC) (ci := 8) (q0 := 0) rfl rfl, fun U hU hW => ⟨rfl, by rw [hU]; exact subP hP hC, hKW.warm hW, subD hD hC hnd⟩⟩ rfl rfl hn rfl (lv_room hW) hdg hcs) hP hD hS is hC rfl kk

-- HalfPlanks.rateAsMerchant(I)I
def fX8_rateAsMerchant (fu : Nat) (z_folk_planks : Int32) (z_present_came : Nat → Int32) (z_present_under : Nat → Int32) (z_folk_word : Nat → Int32) (z_traced : Int64) (p1 : Int32) : Option (Int32 × Int64) :=
  (fX8_planksOf fu z_folk_planks z_present_came p1).bind fun v1 =>
  (fX8_planksOf fu z_folk_planks z_present_under p1).bind fun v2 =>
  (fX8_rateAsPerson fu z_folk_word (z_traced + 10000) p1).bind fun (v3, g4) =>
  (fJ6_bitCount_0f7a4 fu (v1 ||| v2)).bind fun v5 =>
  some ((v3 - v5), g4)
set_option maxHeartbeats 4000000 in
set_option maxRecDepth 100000 in
theorem tX8_rateAsMerchant {l : Launch} {D : va_G} {cI cZ cQ : ClassId} {a_this a_letters a_draft a_folk a_reader a_strength a_present a_history a_images a_kept a_planner a_gambler a_guesser a_present_came a_present_under a_present_due a_folk_bank a_folk_kind a_folk_word a_folk_slow a_folk_told : Nat} {z_typed z_present_day z_present_crossed z_folk_planks z_folk_size z_folk_sworn p1 : Int32} {z_traced : Int64} {z_present_came z_present_under z_folk_word : Nat → Int32} {fu : Nat} {r : Int32} {o_z_traced : Int64} (hf : fX8_rateAsMerchant fu z_folk_planks z_present_came z_present_under z_folk_word z_traced p1 = some (r, o_z_traced)) : Met l yX8_rateAsMerchant (.code yX8_rateAsMerchant cX8_rateAsMerchant 3 (some .int) :: TB) ({ frames := 2, cells := 0, slots := 0, locals := 45 } : Room) (rwP D (TY cI cZ cQ) [(a_this, .inr (8, [.ref a_letters, .int z_typed, .ref a_draft, .ref a_folk, .ref a_reader, .ref a_strength, .ref a_present, .ref a_history, .ref a_images, .ref a_kept, .ref a_planner, .ref a_gambler, .ref a_guesser, .long z_traced])), (a_present, .inr (5, [.int z_present_day, .int z_present_crossed, .ref a_present_came, .ref a_present_under, .ref a_present_due])), (a_folk, .inr (0, [.int z_folk_planks, .int z_folk_size, .int z_folk_sworn, .ref a_folk_bank, .ref a_folk_kind, .ref a_folk_word, .ref a_folk_slow, .ref a_folk_told])), (a_present_came, .inl (cI, 8, .inl z_present_came)), (a_present_under, .inl (cI, 8, .inl z_present_under)), (a_folk_word, .inl (cI, 8, .inl z_folk_word))] [.ref a_this, .int p1]) (rwQ D (some (.int r)) [(a_this, .inr (8, [.ref a_letters, .int z_typed, .ref a_draft, .ref a_folk, .ref a_reader, .ref a_strength, .ref a_present, .ref a_history, .ref a_images, .ref a_kept, .ref a_planner, .ref a_gambler, .ref a_guesser, .long o_z_traced])), (a_present, .inr (5, [.int z_present_day, .int z_present_crossed, .ref a_present_came, .ref a_present_under, .ref a_present_due])), (a_folk, .inr (0, [.int z_folk_planks, .int z_folk_size, .int z_folk_sworn, .ref a_folk_bank, .ref a_folk_kind, .ref a_folk_word, .ref a_folk_slow, .ref a_folk_told])), (a_present_came, .inl (cI, 8, .inl z_present_came)), (a_present_under, .inl (cI, 8, .inl z_present_under)), (a_folk_word, .inl (cI, 8, .inl z_folk_word))] (inW [(a_this, .inr (8, [.ref a_letters, .int z_typed, .ref a_draft, .ref a_folk, .ref a_reader, .ref a_strength, .ref a_present, .ref a_history, .ref a_images, .ref a_kept, .ref a_planner, .ref a_gambler, .ref a_guesser, .long z_traced])), (a_present, .inr (5, [.int z_present_day, .int z_present_crossed, .ref a_present_came, .ref a_present_under, .ref a_present_due])), (a_folk, .inr (0, [.int z_folk_planks, .int z_folk_size, .int z_folk_sworn, .ref a_folk_bank, .ref a_folk_kind, .ref a_folk_word, .ref a_folk_slow, .ref a_folk_told])), (a_present_came, .inl (cI, 8, .inl z_present_came)), (a_present_under, .inl (cI, 8, .inl z_present_under)), (a_folk_word, .inl (cI, 8, .inl z_folk_word))])) 0 0 (inW [(a_this, .inr (8, [.ref a_letters, .int z_typed, .ref a_draft, .ref a_folk, .ref a_reader, .ref a_strength, .ref a_present, .ref a_history, .ref a_images, .ref a_kept, .ref a_planner, .ref a_gambler, .ref a_guesser, .long z_traced])), (a_present, .inr (5, [.int z_present_day, .int z_present_crossed, .ref a_present_came, .ref a_present_under, .ref a_present_due])), (a_folk, .inr (0, [.int z_folk_planks, .int z_folk_size, .int z_folk_sworn, .ref a_folk_bank, .ref a_folk_kind, .ref a_folk_word, .ref a_folk_slow, .ref a_folk_told])), (a_present_came, .inl (cI, 8, .inl z_present_came)), (a_present_under, .inl (cI, 8, .inl z_present_under)), (a_folk_word, .inl (cI, 8, .inl z_folk_word))]) := by
  refine Met.ofW (cc := cX8_rateAsMerchant) (maxL := 3) (ret := (some .int)) (by decide) rfl ?_
  intro p e s m args below meth c s₁ B hml hv
  obtain ⟨rfl, hP, hKW, hD0⟩ := hv
  have hx := B.exec
  have hb := B.bytes
  have hr := B.returns
  have hts : ∀ w ∈ TB, w.before ([.ref a_this, .int p1] : List Value).toArray s = true := fun w h => atoms_spec (ws := .code yX8_rateAsMerchant cX8_rateAsMerchant 3 (some .int) :: TB) B.pre w (List.mem_cons_of_mem _ h)
  have hown : s.vm.findClass RX8 = some m.cls := findClass_of_methodNamed B.named
  have hlocks := B.notSynchronized
  have hK := hKW.1
  have hD := inW_D hD0
  generalize hAe : inW [(a_this, .inr (8, [.ref a_letters, .int z_typed, .ref a_draft, .ref a_folk, .ref a_reader, .ref a_strength, .ref a_present, .ref a_history, .ref a_images, .ref a_kept, .ref a_planner, .ref a_gambler, .ref a_guesser, .long z_traced])), (a_present, .inr (5, [.int z_present_day, .int z_present_crossed, .ref a_present_came, .ref a_present_under, .ref a_present_due])), (a_folk, .inr (0, [.int z_folk_planks, .int z_folk_size, .int z_folk_sworn, .ref a_folk_bank, .ref a_folk_kind, .ref a_folk_word, .ref a_folk_slow, .ref a_folk_told])), (a_present_came, .inl (cI, 8, .inl z_present_came)), (a_present_under, .inl (cI, 8, .inl z_present_under)), (a_folk_word, .inl (cI, 8, .inl z_folk_word))] = A at hD ⊢
  have hS : va_S A s.heap s.heap [] := va_S.rf
  have hl := lv_entry [.ref a_this, .int p1] (n := 3) (Nat.le_of_ble_eq_true rfl)
  rw [lg_entry_eq]
  generalize (lg_sl [.ref a_this, .int p1] ++ List.replicate (3 - (lg_sl [.ref a_this, .int p1]).length) Slot.unset).toArray = ls at hl ⊢
  have hl : lv_has ls 3 [(0, .ref a_this), (1, .int p1)] := hl
  show W p l e ({ frames := 2, cells := 0, slots := 0, locals := 45 } : Room) s m ([.ref a_this, .int p1] : List Value).toArray below meth c s.heap [] 0 0 (MQ below (rwQ D (some (.int r)) [(a_this, .inr (8, [.ref a_letters, .int z_typed, .ref a_draft, .ref a_folk, .ref a_reader, .ref a_strength, .ref a_present, .ref a_history, .ref a_images, .ref a_kept, .ref a_planner, .ref a_gambler, .ref a_guesser, .long o_z_traced])), (a_present, .inr (5, [.int z_present_day, .int z_present_crossed, .ref a_present_came, .ref a_present_under, .ref a_present_due])), (a_folk, .inr (0, [.int z_folk_planks, .int z_folk_size, .int z_folk_sworn, .ref a_folk_bank, .ref a_folk_kind, .ref a_folk_word, .ref a_folk_slow, .ref a_folk_told])), (a_present_came, .inl (cI, 8, .inl z_present_came)), (a_present_under, .inl (cI, 8, .inl z_present_under)), (a_folk_word, .inl (cI, 8, .inl z_folk_word))] A) ([.ref a_this, .int p1] : List Value).toArray s 0 0 A) (F0 m 0 ls [])
  have hP : va_P D vwCl [(a_this, .inr (8, [.ref a_letters, .int z_typed, .ref a_draft, .ref a_folk, .ref a_reader, .ref a_strength, .ref a_present, .ref a_history, .ref a_images, .ref a_kept, .ref a_planner, .ref a_gambler, .ref a_guesser, .long z_traced])), (a_present, .inr (5, [.int z_present_day, .int z_present_crossed, .ref a_present_came, .ref a_present_under, .ref a_present_due])), (a_folk, .inr (0, [.int z_folk_planks, .int z_folk_size, .int z_folk_sworn, .ref a_folk_bank, .ref a_folk_kind, .ref a_folk_word, .ref a_folk_slow, .ref a_folk_told])), (a_present_came, .inl (cI, 8, .inl z_present_came)), (a_present_under, .inl (cI, 8, .inl z_present_under)), (a_folk_word, .inl (cI, 8, .inl z_folk_word))] s.heap := hP
  have hD : va_D A [(a_this, .inr (8, [.ref a_letters, .int z_typed, .ref a_draft, .ref a_folk, .ref a_reader, .ref a_strength, .ref a_present, .ref a_history, .ref a_images, .ref a_kept, .ref a_planner, .ref a_gambler, .ref a_guesser, .long z_traced])), (a_present, .inr (5, [.int z_present_day, .int z_present_crossed, .ref a_present_came, .ref a_present_under, .ref a_present_due])), (a_folk, .inr (0, [.int z_folk_planks, .int z_folk_size, .int z_folk_sworn, .ref a_folk_bank, .ref a_folk_kind, .ref a_folk_word, .ref a_folk_slow, .ref a_folk_told])), (a_present_came, .inl (cI, 8, .inl z_present_came)), (a_present_under, .inl (cI, 8, .inl z_present_under)), (a_folk_word, .inl (cI, 8, .inl z_folk_word))] := hD
  unfold fX8_rateAsMerchant at hf
  obtain ⟨H, hH⟩ : ∃ H, H = s.heap := ⟨_, rfl⟩
  obtain ⟨locs, hlo⟩ : ∃ q : List Loc, q = [] := ⟨_, rfl⟩
  have hS : va_S A s.heap H locs := by rw [hH, hlo]; exact hS
  rw [← hH] at hP
  suffices hgo : W p l e ({ frames := 2, cells := 0, slots := 0, locals := 45 } : Room) s m ([.ref a_this, .int p1] : List Value).toArray below meth c H locs 0 0 (MQ below (rwQ D (some (.int r)) [(a_this, .inr (8, [.ref a_letters, .int z_typed, .ref a_draft, .ref a_folk, .ref a_reader, .ref a_strength, .ref a_present, .ref a_history, .ref a_images, .ref a_kept, .ref a_planner, .ref a_gambler, .ref a_guesser, .long o_z_traced])), (a_present, .inr (5, [.int z_present_day, .int z_present_crossed, .ref a_present_came, .ref a_present_under, .ref a_present_due])), (a_folk, .inr (0, [.int z_folk_planks, .int z_folk_size, .int z_folk_sworn, .ref a_folk_bank, .ref a_folk_kind, .ref a_folk_word, .ref a_folk_slow, .ref a_folk_told])), (a_present_came, .inl (cI, 8, .inl z_present_came)), (a_present_under, .inl (cI, 8, .inl z_present_under)), (a_folk_word, .inl (cI, 8, .inl z_folk_word))] A) ([.ref a_this, .int p1] : List Value).toArray s 0 0 A) (F0 m 0 ls []) by rw [hH, hlo] at hgo; exact hgo
  clear hH hlo
  refine lv_aload_n hx hb dX8_rateAsMerchant_0 rfl (lv_at hl 0 rfl) ?_
  refine lv_dup hx hb dX8_rateAsMerchant_1 rfl ?_
  refine va_get (D := D) (ci := 8) (v := .long z_traced) (C := RX8) (T := TX8) (N := 14) hx hb hts inTX8 hown hK hP 0 rfl rfl 13 (by decide) (hts _ q300) (fun _ h9 => h9) rfl dX8_rateAsMerchant_2 ?_
  refine lv_ldc2 (v := 10000) hx hb hown (hts _ q868) dX8_rateAsMerchant_5 ?_
  refine lv_ladd hx hb dX8_rateAsMerchant_8 ?_
  refine va_put (D := D) (ci := 8) (v := .long (z_traced + 10000)) (ty := .long) (C := RX8) (T := TX8) (N := 14) hx hb hts inTX8 tyX8 tyX8_ok nmX8 hown hK hP hD hS 0 rfl rfl 13 (by decide) (hts _ q300) (fun _ h9 => h9) rfl (by decide +kernel) rfl rfl (Nat.le_of_ble_eq_true rfl) dX8_rateAsMerchant_9 (fun H locs hP hD hS => ?_)
  have hP : va_P D vwCl [(a_this, .inr (8, [.ref a_letters, .int z_typed, .ref a_draft, .ref a_folk, .ref a_reader, .ref a_strength, .ref a_present, .ref a_history, .ref a_images, .ref a_kept, .ref a_planner, .ref a_gambler, .ref a_guesser, .long (z_traced + 10000)])), (a_present, .inr (5, [.int z_present_day, .int z_present_crossed, .ref a_present_came, .ref a_present_under, .ref a_present_due])), (a_folk, .inr (0, [.int z_folk_planks, .int z_folk_size, .int z_folk_sworn, .ref a_folk_bank, .ref a_folk_kind, .ref a_folk_word, .ref a_folk_slow, .ref a_folk_told])), (a_present_came, .inl (cI, 8, .inl z_present_came)), (a_present_under, .inl (cI, 8, .inl z_present_under)), (a_folk_word, .inl (cI, 8, .inl z_folk_word))] H := hP
  have hD : va_D A [(a_this, .inr (8, [.ref a_letters, .int z_typed, .ref a_draft, .ref a_folk, .ref a_reader, .ref a_strength, .ref a_present, .ref a_history, .ref a_images, .ref a_kept, .ref a_planner, .ref a_gambler, .ref a_guesser, .long (z_traced + 10000)])), (a_present, .inr (5, [.int z_present_day, .int z_present_crossed, .ref a_present_came, .ref a_present_under, .ref a_present_due])), (a_folk, .inr (0, [.int z_folk_planks, .int z_folk_size, .int z_folk_sworn, .ref a_folk_bank, .ref a_folk_kind, .ref a_folk_word, .ref a_folk_slow, .ref a_folk_told])), (a_present_came, .inl (cI, 8, .inl z_present_came)), (a_present_under, .inl (cI, 8, .inl z_present_under)), (a_folk_word, .inl (cI, 8, .inl z_folk_word))] := hD
  refine lv_aload_n hx hb dX8_rateAsMerchant_12 rfl (lv_at hl 0 rfl) ?_
  refine lv_aload_n hx hb dX8_rateAsMerchant_13 rfl (lv_at hl 0 rfl) ?_
  refine va_get (D := D) (ci := 8) (v := .ref a_present) (C := RX8) (T := TX8) (N := 14) hx hb hts inTX8 hown hK hP 0 rfl rfl 6 (by decide) (hts _ q293) (fun _ h9 => h9) rfl dX8_rateAsMerchant_14 ?_
  refine va_get (D := D) (ci := 5) (v := .ref a_present_came) (C := RX5) (T := TX5) (N := 5) hx hb hts inTX5 hown hK hP 1 rfl rfl 2 (by decide) (hts _ q176) (fun _ h9 => h9) rfl dX8_rateAsMerchant_17 ?_
  refine lv_iload_n hx hb dX8_rateAsMerchant_20 rfl (lv_at hl 1 rfl) ?_
  obtain ⟨v1, hv1, hf⟩ := ob hf
  refine kX8_planksOf hx hb hml hown hts hKW q529 (hP.sub [0, 2, 3] rfl) hv1 hl.1 (Nat.le_of_ble_eq_true rfl) ⟨Nat.le_of_ble_eq_true rfl, Nat.le_of_ble_eq_true rfl⟩ ⟨Nat.zero_le _, Nat.zero_le _⟩ dX8_rateAsMerchant_21 ?_
  refine lv_aload_n hx hb dX8_rateAsMerchant_24 rfl (lv_at hl 0 rfl) ?_
  refine lv_aload_n hx hb dX8_rateAsMerchant_25 rfl (lv_at hl 0 rfl) ?_
  refine va_get (D := D) (ci := 8) (v := .ref a_present) (C := RX8) (T := TX8) (N := 14) hx hb hts inTX8 hown hK hP 0 rfl rfl 6 (by decide) (hts _ q293) (fun _ h9 => h9) rfl dX8_rateAsMerchant_26 ?_
  refine va_get (D := D) (ci := 5) (v := .ref a_present_under) (C := RX5) (T := TX5) (N := 5) hx hb hts inTX5 hown hK hP 1 rfl rfl 3 (by decide) (hts _ q181) (fun _ h9 => h9) rfl dX8_rateAsMerchant_29 ?_
  refine lv_iload_n hx hb dX8_rateAsMerchant_32 rfl (lv_at hl 1 rfl) ?_
  obtain ⟨v2, hv2, hf⟩ := ob hf
  refine kX8_planksOf hx hb hml hown hts hKW q529 (hP.sub [0, 2, 4] rfl) hv2 hl.1 (Nat.le_of_ble_eq_true rfl) ⟨Nat.le_of_ble_eq_true rfl, Nat.le_of_ble_eq_true rfl⟩ ⟨Nat.zero_le _, Nat.zero_le _⟩ dX8_rateAsMerchant_33 ?_
  refine lv_ior hx hb dX8_rateAsMerchant_36 ?_
  refine lv_istore_n (lv' := [(2, .int (v1 ||| v2)), (0, .ref a_this), (1, .int p1)]) hx hb dX8_rateAsMerchant_37 rfl hl (by decide) rfl (fun ls hl => ?_)
  refine lv_aload_n hx hb dX8_rateAsMerchant_38 rfl (lv_at hl 1 rfl) ?_
  refine lv_iload_n hx hb dX8_rateAsMerchant_39 rfl (lv_at hl 2 rfl) ?_
  obtain ⟨⟨v3, g4⟩, hv3, hf⟩ := ob hf
  dsimp only at hf
  refine kX8_rateAsPerson hx hb hml hown hts hKW q844 hP hD hS [0, 2, 5] rfl (by decide) hv3 hl.1 (Nat.le_of_ble_eq_true rfl) ⟨Nat.le_of_ble_eq_true rfl, Nat.le_of_ble_eq_true rfl⟩ ⟨Nat.zero_le _, Nat.zero_le _⟩ dX8_rateAsMerchant_40 (fun H locs hP hD hS => ?_)
  have hP : va_P D vwCl [(a_this, .inr (8, [.ref a_letters, .int z_typed, .ref a_draft, .ref a_folk, .ref a_reader, .ref a_strength, .ref a_present, .ref a_history, .ref a_images, .ref a_kept, .ref a_planner, .ref a_gambler, .ref a_guesser, .long g4])), (a_present, .inr (5, [.int z_present_day, .int z_present_crossed, .ref a_present_came, .ref a_present_under, .ref a_present_due])), (a_folk, .inr (0, [.int z_folk_planks, .int z_folk_size, .int z_folk_sworn, .ref a_folk_bank, .ref a_folk_kind, .ref a_folk_word, .ref a_folk_slow, .ref a_folk_told])), (a_present_came, .inl (cI, 8, .inl z_present_came)), (a_present_under, .inl (cI, 8, .inl z_present_under)), (a_folk_word, .inl (cI, 8, .inl z_folk_word))] H := hP
  have hD : va_D A [(a_this, .inr (8, [.ref a_letters, .int z_typed, .ref a_draft, .ref a_folk, .ref a_reader, .ref a_strength, .ref a_present, .ref a_history, .ref a_images, .ref a_kept, .ref a_planner, .ref a_gambler, .ref a_guesser, .long g4])), (a_present, .inr (5, [.int z_present_day, .int z_present_crossed, .ref a_present_came, .ref a_present_under, .ref a_present_due])), (a_folk, .inr (0, [.int z_folk_planks, .int z_folk_size, .int z_folk_sworn, .ref a_folk_bank, .ref a_folk_kind, .ref a_folk_word, .ref a_folk_slow, .ref a_folk_told])), (a_present_came, .inl (cI, 8, .inl z_present_came)), (a_present_under, .inl (cI, 8, .inl z_present_under)), (a_folk_word, .inl (cI, 8, .inl z_folk_word))] := hD
  refine lv_iload_n hx hb dX8_rateAsMerchant_43 rfl (lv_at hl 0 rfl) ?_
  obtain ⟨v5, hv5, hf⟩ := ob hf
  refine kJ6_bitCount_0f7a4 hx hb hml hown hts hKW q863  hv5 hl.1 (Nat.le_of_ble_eq_true rfl) ⟨Nat.le_of_ble_eq_true rfl, Nat.le_of_ble_eq_true rfl⟩ ⟨Nat.zero_le _, Nat.zero_le _⟩ dX8_rateAsMerchant_44 ?_
  refine lv_isub hx hb dX8_rateAsMerchant_47 ?_
  cases hf
  exact W.iret hx hb hr (fun t ht _ => ⟨rfl, by rw [ht]; exact hP, hS.F ht⟩) hS.2.2 dX8_rateAsMerchant_48
theorem kX8_rateAsMerchant {p : Program} {l : Launch} {e : Env} {R : Room} {s : State} {m : MethodId} {args : Array Value} {below : List Frame} {meth : Method} {c : Code} {H : Heap} {locs : List Loc} {cells slots : Nat} {Q : State → Prop} {cc : ByteArray} {nL pc index : Nat} {ls : Array Slot} {rest : List Value} {own : String} {D : va_G} {cI cZ cQ : ClassId} {a_this a_letters a_draft a_folk a_reader a_strength a_present a_history a_images a_kept a_planner a_gambler a_guesser a_present_came a_present_under a_present_due a_folk_bank a_folk_kind a_folk_word a_folk_slow a_folk_told : Nat} {z_typed z_present_day z_present_crossed z_folk_planks z_folk_size z_folk_sworn p1 : Int32} {z_traced : Int64} {z_present_came z_present_under z_folk_word : Nat → Int32} {fu : Nat} {r : Int32} {o_z_traced : Int64} (hx : p.tables.exec = Jvm.exec) (hb : c.code = cc) (hml : c.maxLocals = nL) (hown : s.vm.findClass own = some m.cls) (hts : ∀ w ∈ TB, w.before args s = true) (hKW : KW D (TY cI cZ cQ) s) (hlk : Cond.methodLink own index yX8_rateAsMerchant ∈ TB) {ws : va_W} {A : Nat → Prop} {H0 : Heap} (hP : va_P D vwCl ws H) (hD : va_D A ws) (hS : va_S A H0 H locs) (is : List Nat) (hC : is.map (fun i => ws[i]?) = ([(a_this, .inr (8, [.ref a_letters, .int z_typed, .ref a_draft, .ref a_folk, .ref a_reader, .ref a_strength, .ref a_present, .ref a_history, .ref a_images, .ref a_kept, .ref a_planner, .ref a_gambler, .ref a_guesser, .long z_traced])), (a_present, .inr (5, [.int z_present_day, .int z_present_crossed, .ref a_present_came, .ref a_present_under, .ref a_present_due])), (a_folk, .inr (0, [.int z_folk_planks, .int z_folk_size, .int z_folk_sworn, .ref a_folk_bank, .ref a_folk_kind, .ref a_folk_word, .ref a_folk_slow, .ref a_folk_told])), (a_present_came, .inl (cI, 8, .inl z_present_came)), (a_present_under, .inl (cI, 8, .inl z_present_under)), (a_folk_word, .inl (cI, 8, .inl z_folk_word))] : va_W).map some) (hnd : va_nd is = true) (hf : fX8_rateAsMerchant fu z_folk_planks z_present_came z_present_under z_folk_word z_traced p1 = some (r, o_z_traced)) (hn : ls.size = nL) (hW : (rest.map fun v => v.category).sum ≤ 8) (hR : 2 + 1 ≤ R.frames ∧ 8 + (3 + 11) + 45 ≤ R.locals) (hcs : cells ≤ R.cells ∧ slots ≤ R.slots) (hdg : decode cc pc = .ok (.invokevirtual index, 3)) (kk : ∀ (H1 : Heap) (locs1 : List Loc), va_P D vwCl (rpl ws is [(a_this, .inr (8, [.ref a_letters, .int z_typed, .ref a_draft, .ref a_folk, .ref a_reader, .ref a_strength, .ref a_present, .ref a_history, .ref a_images, .ref a_kept, .ref a_planner, .ref a_gambler, .ref a_guesser, .long o_z_traced])), (a_present, .inr (5, [.int z_present_day, .int z_present_crossed, .ref a_present_came, .ref a_present_under, .ref a_present_due])), (a_folk, .inr (0, [.int z_folk_planks, .int z_folk_size, .int z_folk_sworn, .ref a_folk_bank, .ref a_folk_kind, .ref a_folk_word, .ref a_folk_slow, .ref a_folk_told])), (a_present_came, .inl (cI, 8, .inl z_present_came)), (a_present_under, .inl (cI, 8, .inl z_present_under)), (a_folk_word, .inl (cI, 8, .inl z_folk_word))]) H1 → va_D A (rpl ws is [(a_this, .inr (8, [.ref a_letters, .int z_typed, .ref a_draft, .ref a_folk, .ref a_reader, .ref a_strength, .ref a_present, .ref a_history, .ref a_images, .ref a_kept, .ref a_planner, .ref a_gambler, .ref a_guesser, .long o_z_traced])), (a_present, .inr (5, [.int z_present_day, .int z_present_crossed, .ref a_present_came, .ref a_present_under, .ref a_present_due])), (a_folk, .inr (0, [.int z_folk_planks, .int z_folk_size, .int z_folk_sworn, .ref a_folk_bank, .ref a_folk_kind, .ref a_folk_word, .ref a_folk_slow, .ref a_folk_told])), (a_present_came, .inl (cI, 8, .inl z_present_came)), (a_present_under, .inl (cI, 8, .inl z_present_under)), (a_folk_word, .inl (cI, 8, .inl z_folk_word))]) → va_S A H0 H1 locs1 → W p l e R s m args below meth c H1 locs1 cells slots Q (F0 m (pc + 3) ls (.int r :: rest))) : W p l e R s m args below meth c H locs cells slots Q (F0 m pc ls (.int p1 :: .ref a_this :: rest)) :=
  x_rw (va_runV (As := [.int p1]) (rest := rest) ⟨hx, hb, hml, hown, hts⟩ (tX8_rateAsMerchant hf) (cwV 1 hts (tb_V hlk q866 q5 q39 q867) rfl rfl rfl (by decide +kernel) hR) ⟨rwB, va_recv hKW.1 (subP hP hC) (ci := 8) (q0 := 0) rfl rfl, fun U hU hW => ⟨rfl, by rw [hU]; exact subP hP hC, hKW.warm hW, subD hD hC hnd⟩⟩ rfl rfl hn rfl (lv_room hW) hdg hcs) hP hD hS is hC rfl kk

-- HalfPlanks.rateAsLiar(I)I
def fX8_rateAsLiar (fu : Nat) (z_folk_planks : Int32) (z_present_came : Nat → Int32) (z_present_under : Nat → Int32) (z_folk_word : Nat → Int32) (z_traced : Int64) (p1 : Int32) : Option (Int32 × Int64) :=
  (fX8_rateAsMerchant fu z_folk_planks z_present_came z_present_under z_folk_word (z_traced + 100000) p1).bind fun (v1, g2) =>
  some (((3 * v1) + p1), g2)
set_option maxHeartbeats 4000000 in
set_option maxRecDepth 100000 in
theorem tX8_rateAsLiar {l : Launch} {D : va_G} {cI cZ cQ : ClassId} {a_this a_letters a_draft a_folk a_reader a_strength a_present a_history a_images a_kept a_planner a_gambler a_guesser a_present_came a_present_under a_present_due a_folk_bank a_folk_kind a_folk_word a_folk_slow a_folk_told : Nat} {z_typed z_present_day z_present_crossed z_folk_planks z_folk_size z_folk_sworn p1 : Int32} {z_traced : Int64} {z_present_came z_present_under z_folk_word : Nat → Int32} {fu : Nat} {r : Int32} {o_z_traced : Int64} (hf : fX8_rateAsLiar fu z_folk_planks z_present_came z_present_under z_folk_word z_traced p1 = some (r, o_z_traced)) : Met l yX8_rateAsLiar (.code yX8_rateAsLiar cX8_rateAsLiar 2 (some .int) :: TB) ({ frames := 3, cells := 0, slots := 0, locals := 67 } : Room) (rwP D (TY cI cZ cQ) [(a_this, .inr (8, [.ref a_letters, .int z_typed, .ref a_draft, .ref a_folk, .ref a_reader, .ref a_strength, .ref a_present, .ref a_history, .ref a_images, .ref a_kept, .ref a_planner, .ref a_gambler, .ref a_guesser, .long z_traced])), (a_present, .inr (5, [.int z_present_day, .int z_present_crossed, .ref a_present_came, .ref a_present_under, .ref a_present_due])), (a_folk, .inr (0, [.int z_folk_planks, .int z_folk_size, .int z_folk_sworn, .ref a_folk_bank, .ref a_folk_kind, .ref a_folk_word, .ref a_folk_slow, .ref a_folk_told])), (a_present_came, .inl (cI, 8, .inl z_present_came)), (a_present_under, .inl (cI, 8, .inl z_present_under)), (a_folk_word, .inl (cI, 8, .inl z_folk_word))] [.ref a_this, .int p1]) (rwQ D (some (.int r)) [(a_this, .inr (8, [.ref a_letters, .int z_typed, .ref a_draft, .ref a_folk, .ref a_reader, .ref a_strength, .ref a_present, .ref a_history, .ref a_images, .ref a_kept, .ref a_planner, .ref a_gambler, .ref a_guesser, .long o_z_traced])), (a_present, .inr (5, [.int z_present_day, .int z_present_crossed, .ref a_present_came, .ref a_present_under, .ref a_present_due])), (a_folk, .inr (0, [.int z_folk_planks, .int z_folk_size, .int z_folk_sworn, .ref a_folk_bank, .ref a_folk_kind, .ref a_folk_word, .ref a_folk_slow, .ref a_folk_told])), (a_present_came, .inl (cI, 8, .inl z_present_came)), (a_present_under, .inl (cI, 8, .inl z_present_under)), (a_folk_word, .inl (cI, 8, .inl z_folk_word))] (inW [(a_this, .inr (8, [.ref a_letters, .int z_typed, .ref a_draft, .ref a_folk, .ref a_reader, .ref a_strength, .ref a_present, .ref a_history, .ref a_images, .ref a_kept, .ref a_planner, .ref a_gambler, .ref a_guesser, .long z_traced])), (a_present, .inr (5, [.int z_present_day, .int z_present_crossed, .ref a_present_came, .ref a_present_under, .ref a_present_due])), (a_folk, .inr (0, [.int z_folk_planks, .int z_folk_size, .int z_folk_sworn, .ref a_folk_bank, .ref a_folk_kind, .ref a_folk_word, .ref a_folk_slow, .ref a_folk_told])), (a_present_came, .inl (cI, 8, .inl z_present_came)), (a_present_under, .inl (cI, 8, .inl z_present_under)), (a_folk_word, .inl (cI, 8, .inl z_folk_word))])) 0 0 (inW [(a_this, .inr (8, [.ref a_letters, .int z_typed, .ref a_draft, .ref a_folk, .ref a_reader, .ref a_strength, .ref a_present, .ref a_history, .ref a_images, .ref a_kept, .ref a_planner, .ref a_gambler, .ref a_guesser, .long z_traced])), (a_present, .inr (5, [.int z_present_day, .int z_present_crossed, .ref a_present_came, .ref a_present_under, .ref a_present_due])), (a_folk, .inr (0, [.int z_folk_planks, .int z_folk_size, .int z_folk_sworn, .ref a_folk_bank, .ref a_folk_kind, .ref a_folk_word, .ref a_folk_slow, .ref a_folk_told])), (a_present_came, .inl (cI, 8, .inl z_present_came)), (a_present_under, .inl (cI, 8, .inl z_present_under)), (a_folk_word, .inl (cI, 8, .inl z_folk_word))]) := by
  refine Met.ofW (cc := cX8_rateAsLiar) (maxL := 2) (ret := (some .int)) (by decide) rfl ?_
  intro p e s m args below meth c s₁ B hml hv
  obtain ⟨rfl, hP, hKW, hD0⟩ := hv
  have hx := B.exec
  have hb := B.bytes
  have hr := B.returns
  have hts : ∀ w ∈ TB, w.before ([.ref a_this, .int p1] : List Value).toArray s = true := fun w h => atoms_spec (ws := .code yX8_rateAsLiar cX8_rateAsLiar 2 (some .int) :: TB) B.pre w (List.mem_cons_of_mem _ h)
  have hown : s.vm.findClass RX8 = some m.cls := findClass_of_methodNamed B.named
  have hlocks := B.notSynchronized
  have hK := hKW.1
  have hD := inW_D hD0
  generalize hAe : inW [(a_this, .inr (8, [.ref a_letters, .int z_typed, .ref a_draft, .ref a_folk, .ref a_reader, .ref a_strength, .ref a_present, .ref a_history, .ref a_images, .ref a_kept, .ref a_planner, .ref a_gambler, .ref a_guesser, .long z_traced])), (a_present, .inr (5, [.int z_present_day, .int z_present_crossed, .ref a_present_came, .ref a_present_under, .ref a_present_due])), (a_folk, .inr (0, [.int z_folk_planks, .int z_folk_size, .int z_folk_sworn, .ref a_folk_bank, .ref a_folk_kind, .ref a_folk_word, .ref a_folk_slow, .ref a_folk_told])), (a_present_came, .inl (cI, 8, .inl z_present_came)), (a_present_under, .inl (cI, 8, .inl z_present_under)), (a_folk_word, .inl (cI, 8, .inl z_folk_word))] = A at hD ⊢
  have hS : va_S A s.heap s.heap [] := va_S.rf
  have hl := lv_entry [.ref a_this, .int p1] (n := 2) (Nat.le_of_ble_eq_true rfl)
  rw [lg_entry_eq]
  generalize (lg_sl [.ref a_this, .int p1] ++ List.replicate (2 - (lg_sl [.ref a_this, .int p1]).length) Slot.unset).toArray = ls at hl ⊢
  have hl : lv_has ls 2 [(0, .ref a_this), (1, .int p1)] := hl
  show W p l e ({ frames := 3, cells := 0, slots := 0, locals := 67 } : Room) s m ([.ref a_this, .int p1] : List Value).toArray below meth c s.heap [] 0 0 (MQ below (rwQ D (some (.int r)) [(a_this, .inr (8, [.ref a_letters, .int z_typed, .ref a_draft, .ref a_folk, .ref a_reader, .ref a_strength, .ref a_present, .ref a_history, .ref a_images, .ref a_kept, .ref a_planner, .ref a_gambler, .ref a_guesser, .long o_z_traced])), (a_present, .inr (5, [.int z_present_day, .int z_present_crossed, .ref a_present_came, .ref a_present_under, .ref a_present_due])), (a_folk, .inr (0, [.int z_folk_planks, .int z_folk_size, .int z_folk_sworn, .ref a_folk_bank, .ref a_folk_kind, .ref a_folk_word, .ref a_folk_slow, .ref a_folk_told])), (a_present_came, .inl (cI, 8, .inl z_present_came)), (a_present_under, .inl (cI, 8, .inl z_present_under)), (a_folk_word, .inl (cI, 8, .inl z_folk_word))] A) ([.ref a_this, .int p1] : List Value).toArray s 0 0 A) (F0 m 0 ls [])
  have hP : va_P D vwCl [(a_this, .inr (8, [.ref a_letters, .int z_typed, .ref a_draft, .ref a_folk, .ref a_reader, .ref a_strength, .ref a_present, .ref a_history, .ref a_images, .ref a_kept, .ref a_planner, .ref a_gambler, .ref a_guesser, .long z_traced])), (a_present, .inr (5, [.int z_present_day, .int z_present_crossed, .ref a_present_came, .ref a_present_under, .ref a_present_due])), (a_folk, .inr (0, [.int z_folk_planks, .int z_folk_size, .int z_folk_sworn, .ref a_folk_bank, .ref a_folk_kind, .ref a_folk_word, .ref a_folk_slow, .ref a_folk_told])), (a_present_came, .inl (cI, 8, .inl z_present_came)), (a_present_under, .inl (cI, 8, .inl z_present_under)), (a_folk_word, .inl (cI, 8, .inl z_folk_word))] s.heap := hP
  have hD : va_D A [(a_this, .inr (8, [.ref a_letters, .int z_typed, .ref a_draft, .ref a_folk, .ref a_reader, .ref a_strength, .ref a_present, .ref a_history, .ref a_images, .ref a_kept, .ref a_planner, .ref a_gambler, .ref a_guesser, .long z_traced])), (a_present, .inr (5, [.int z_present_day, .int z_present_crossed, .ref a_present_came, .ref a_present_under, .ref a_present_due])), (a_folk, .inr (0, [.int z_folk_planks, .int z_folk_size, .int z_folk_sworn, .ref a_folk_bank, .ref a_folk_kind, .ref a_folk_word, .ref a_folk_slow, .ref a_folk_told])), (a_present_came, .inl (cI, 8, .inl z_present_came)), (a_present_under, .inl (cI, 8, .inl z_present_under)), (a_folk_word, .inl (cI, 8, .inl z_folk_word))] := hD
  unfold fX8_rateAsLiar at hf
  obtain ⟨H, hH⟩ : ∃ H, H = s.heap := ⟨_, rfl⟩
  obtain ⟨locs, hlo⟩ : ∃ q : List Loc, q = [] := ⟨_, rfl⟩
  have hS : va_S A s.heap H locs := by rw [hH, hlo]; exact hS
  rw [← hH] at hP
  suffices hgo : W p l e ({ frames := 3, cells := 0, slots := 0, locals := 67 } : Room) s m ([.ref a_this, .int p1] : List Value).toArray below meth c H locs 0 0 (MQ below (rwQ D (some (.int r)) [(a_this, .inr (8, [.ref a_letters, .int z_typed, .ref a_draft, .ref a_folk, .ref a_reader, .ref a_strength, .ref a_present, .ref a_history, .ref a_images, .ref a_kept, .ref a_planner, .ref a_gambler, .ref a_guesser, .long o_z_traced])), (a_present, .inr (5, [.int z_present_day, .int z_present_crossed, .ref a_present_came, .ref a_present_under, .ref a_present_due])), (a_folk, .inr (0, [.int z_folk_planks, .int z_folk_size, .int z_folk_sworn, .ref a_folk_bank, .ref a_folk_kind, .ref a_folk_word, .ref a_folk_slow, .ref a_folk_told])), (a_present_came, .inl (cI, 8, .inl z_present_came)), (a_present_under, .inl (cI, 8, .inl z_present_under)), (a_folk_word, .inl (cI, 8, .inl z_folk_word))] A) ([.ref a_this, .int p1] : List Value).toArray s 0 0 A) (F0 m 0 ls []) by rw [hH, hlo] at hgo; exact hgo
  clear hH hlo
  refine lv_aload_n hx hb dX8_rateAsLiar_0 rfl (lv_at hl 0 rfl) ?_
  refine lv_dup hx hb dX8_rateAsLiar_1 rfl ?_
  refine va_get (D := D) (ci := 8) (v := .long z_traced) (C := RX8) (T := TX8) (N := 14) hx hb hts inTX8 hown hK hP 0 rfl rfl 13 (by decide) (hts _ q300) (fun _ h9 => h9) rfl dX8_rateAsLiar_2 ?_
  refine lv_ldc2 (v := 100000) hx hb hown (hts _ q873) dX8_rateAsLiar_5 ?_
  refine lv_ladd hx hb dX8_rateAsLiar_8 ?_
  refine va_put (D := D) (ci := 8) (v := .long (z_traced + 100000)) (ty := .long) (C := RX8) (T := TX8) (N := 14) hx hb hts inTX8 tyX8 tyX8_ok nmX8 hown hK hP hD hS 0 rfl rfl 13 (by decide) (hts _ q300) (fun _ h9 => h9) rfl (by decide +kernel) rfl rfl (Nat.le_of_ble_eq_true rfl) dX8_rateAsLiar_9 (fun H locs hP hD hS => ?_)
  have hP : va_P D vwCl [(a_this, .inr (8, [.ref a_letters, .int z_typed, .ref a_draft, .ref a_folk, .ref a_reader, .ref a_strength, .ref a_present, .ref a_history, .ref a_images, .ref a_kept, .ref a_planner, .ref a_gambler, .ref a_guesser, .long (z_traced + 100000)])), (a_present, .inr (5, [.int z_present_day, .int z_present_crossed, .ref a_present_came, .ref a_present_under, .ref a_present_due])), (a_folk, .inr (0, [.int z_folk_planks, .int z_folk_size, .int z_folk_sworn, .ref a_folk_bank, .ref a_folk_kind, .ref a_folk_word, .ref a_folk_slow, .ref a_folk_told])), (a_present_came, .inl (cI, 8, .inl z_present_came)), (a_present_under, .inl (cI, 8, .inl z_present_under)), (a_folk_word, .inl (cI, 8, .inl z_folk_word))] H := hP
  have hD : va_D A [(a_this, .inr (8, [.ref a_letters, .int z_typed, .ref a_draft, .ref a_folk, .ref a_reader, .ref a_strength, .ref a_present, .ref a_history, .ref a_images, .ref a_kept, .ref a_planner, .ref a_gambler, .ref a_guesser, .long (z_traced + 100000)])), (a_present, .inr (5, [.int z_present_day, .int z_present_crossed, .ref a_present_came, .ref a_present_under, .ref a_present_due])), (a_folk, .inr (0, [.int z_folk_planks, .int z_folk_size, .int z_folk_sworn, .ref a_folk_bank, .ref a_folk_kind, .ref a_folk_word, .ref a_folk_slow, .ref a_folk_told])), (a_present_came, .inl (cI, 8, .inl z_present_came)), (a_present_under, .inl (cI, 8, .inl z_present_under)), (a_folk_word, .inl (cI, 8, .inl z_folk_word))] := hD
  refine lv_iconst (v := 3) hx hb dX8_rateAsLiar_12 (by decide) ?_
  refine lv_aload_n hx hb dX8_rateAsLiar_13 rfl (lv_at hl 0 rfl) ?_
  refine lv_iload_n hx hb dX8_rateAsLiar_14 rfl (lv_at hl 1 rfl) ?_
  obtain ⟨⟨v1, g2⟩, hv1, hf⟩ := ob hf
  dsimp only at hf
  refine kX8_rateAsMerchant hx hb hml hown hts hKW q864 hP hD hS [0, 1, 2, 3, 4, 5] rfl (by decide) hv1 hl.1 (Nat.le_of_ble_eq_true rfl) ⟨Nat.le_of_ble_eq_true rfl, Nat.le_of_ble_eq_true rfl⟩ ⟨Nat.zero_le _, Nat.zero_le _⟩ dX8_rateAsLiar_15 (fun H locs hP hD hS => ?_)
  have hP : va_P D vwCl [(a_this, .inr (8, [.ref a_letters, .int z_typed, .ref a_draft, .ref a_folk, .ref a_reader, .ref a_strength, .ref a_present, .ref a_history, .ref a_images, .ref a_kept, .ref a_planner, .ref a_gambler, .ref a_guesser, .long g2])), (a_present, .inr (5, [.int z_present_day, .int z_present_crossed, .ref a_present_came, .ref a_present_under, .ref a_present_due])), (a_folk, .inr (0, [.int z_folk_planks, .int z_folk_size, .int z_folk_sworn, .ref a_folk_bank, .ref a_folk_kind, .ref a_folk_word, .ref a_folk_slow, .ref a_folk_told])), (a_present_came, .inl (cI, 8, .inl z_present_came)), (a_present_under, .inl (cI, 8, .inl z_present_under)), (a_folk_word, .inl (cI, 8, .inl z_folk_word))] H := hP
  have hD : va_D A [(a_this, .inr (8, [.ref a_letters, .int z_typed, .ref a_draft, .ref a_folk, .ref a_reader, .ref a_strength, .ref a_present, .ref a_history, .ref a_images, .ref a_kept, .ref a_planner, .ref a_gambler, .ref a_guesser, .long g2])), (a_present, .inr (5, [.int z_present_day, .int z_present_crossed, .ref a_present_came, .ref a_present_under, .ref a_present_due])), (a_folk, .inr (0, [.int z_folk_planks, .int z_folk_size, .int z_folk_sworn, .ref a_folk_bank, .ref a_folk_kind, .ref a_folk_word, .ref a_folk_slow, .ref a_folk_told])), (a_present_came, .inl (cI, 8, .inl z_present_came)), (a_present_under, .inl (cI, 8, .inl z_present_under)), (a_folk_word, .inl (cI, 8, .inl z_folk_word))] := hD
  refine lv_imul hx hb dX8_rateAsLiar_18 ?_
  refine lv_iload_n hx hb dX8_rateAsLiar_19 rfl (lv_at hl 1 rfl) ?_
  refine lv_iadd hx hb dX8_rateAsLiar_20 ?_
  cases hf
  exact W.iret hx hb hr (fun t ht _ => ⟨rfl, by rw [ht]; exact hP, hS.F ht⟩) hS.2.2 dX8_rateAsLiar_21
theorem kX8_rateAsLiar {p : Program} {l : Launch} {e : Env} {R : Room} {s : State} {m : MethodId} {args : Array Value} {below : List Frame} {meth : Method} {c : Code} {H : Heap} {locs : List Loc} {cells slots : Nat} {Q : State → Prop} {cc : ByteArray} {nL pc index : Nat} {ls : Array Slot} {rest : List Value} {own : String} {D : va_G} {cI cZ cQ : ClassId} {a_this a_letters a_draft a_folk a_reader a_strength a_present a_history a_images a_kept a_planner a_gambler a_guesser a_present_came a_present_under a_present_due a_folk_bank a_folk_kind a_folk_word a_folk_slow a_folk_told : Nat} {z_typed z_present_day z_present_crossed z_folk_planks z_folk_size z_folk_sworn p1 : Int32} {z_traced : Int64} {z_present_came z_present_under z_folk_word : Nat → Int32} {fu : Nat} {r : Int32} {o_z_traced : Int64} (hx : p.tables.exec = Jvm.exec) (hb : c.code = cc) (hml : c.maxLocals = nL) (hown : s.vm.findClass own = some m.cls) (hts : ∀ w ∈ TB, w.before args s = true) (hKW : KW D (TY cI cZ cQ) s) (hlk : Cond.methodLink own index yX8_rateAsLiar ∈ TB) {ws : va_W} {A : Nat → Prop} {H0 : Heap} (hP : va_P D vwCl ws H) (hD : va_D A ws) (hS : va_S A H0 H locs) (is : List Nat) (hC : is.map (fun i => ws[i]?) = ([(a_this, .inr (8, [.ref a_letters, .int z_typed, .ref a_draft, .ref a_folk, .ref a_reader, .ref a_strength, .ref a_present, .ref a_history, .ref a_images, .ref a_kept, .ref a_planner, .ref a_gambler, .ref a_guesser, .long z_traced])), (a_present, .inr (5, [.int z_present_day, .int z_present_crossed, .ref a_present_came, .ref a_present_under, .ref a_present_due])), (a_folk, .inr (0, [.int z_folk_planks, .int z_folk_size, .int z_folk_sworn, .ref a_folk_bank, .ref a_folk_kind, .ref a_folk_word, .ref a_folk_slow, .ref a_folk_told])), (a_present_came, .inl (cI, 8, .inl z_present_came)), (a_present_under, .inl (cI, 8, .inl z_present_under)), (a_folk_word, .inl (cI, 8, .inl z_folk_word))] : va_W).map some) (hnd : va_nd is = true) (hf : fX8_rateAsLiar fu z_folk_planks z_present_came z_present_under z_folk_word z_traced p1 = some (r, o_z_traced)) (hn : ls.size = nL) (hW : (rest.map fun v => v.category).sum ≤ 8) (hR : 3 + 1 ≤ R.frames ∧ 8 + (2 + 11) + 67 ≤ R.locals) (hcs : cells ≤ R.cells ∧ slots ≤ R.slots) (hdg : decode cc pc = .ok (.invokevirtual index, 3)) (kk : ∀ (H1 : Heap) (locs1 : List Loc), va_P D vwCl (rpl ws is [(a_this, .inr (8, [.ref a_letters, .int z_typed, .ref a_draft, .ref a_folk, .ref a_reader, .ref a_strength, .ref a_present, .ref a_history, .ref a_images, .ref a_kept, .ref a_planner, .ref a_gambler, .ref a_guesser, .long o_z_traced])), (a_present, .inr (5, [.int z_present_day, .int z_present_crossed, .ref a_present_came, .ref a_present_under, .ref a_present_due])), (a_folk, .inr (0, [.int z_folk_planks, .int z_folk_size, .int z_folk_sworn, .ref a_folk_bank, .ref a_folk_kind, .ref a_folk_word, .ref a_folk_slow, .ref a_folk_told])), (a_present_came, .inl (cI, 8, .inl z_present_came)), (a_present_under, .inl (cI, 8, .inl z_present_under)), (a_folk_word, .inl (cI, 8, .inl z_folk_word))]) H1 → va_D A (rpl ws is [(a_this, .inr (8, [.ref a_letters, .int z_typed, .ref a_draft, .ref a_folk, .ref a_reader, .ref a_strength, .ref a_present, .ref a_history, .ref a_images, .ref a_kept, .ref a_planner, .ref a_gambler, .ref a_guesser, .long o_z_traced])), (a_present, .inr (5, [.int z_present_day, .int z_present_crossed, .ref a_present_came, .ref a_present_under, .ref a_present_due])), (a_folk, .inr (0, [.int z_folk_planks, .int z_folk_size, .int z_folk_sworn, .ref a_folk_bank, .ref a_folk_kind, .ref a_folk_word, .ref a_folk_slow, .ref a_folk_told])), (a_present_came, .inl (cI, 8, .inl z_present_came)), (a_present_under, .inl (cI, 8, .inl z_present_under)), (a_folk_word, .inl (cI, 8, .inl z_folk_word))]) → va_S A H0 H1 locs1 → W p l e R s m args below meth c H1 locs1 cells slots Q (F0 m (pc + 3) ls (.int r :: rest))) : W p l e R s m args below meth c H locs cells slots Q (F0 m pc ls (.int p1 :: .ref a_this :: rest)) :=
  x_rw (va_runV (As := [.int p1]) (rest := rest) ⟨hx, hb, hml, hown, hts⟩ (tX8_rateAsLiar hf) (cwV 1 hts (tb_V hlk q871 q6 q39 q872) rfl rfl rfl (by decide +kernel) hR) ⟨rwB, va_recv hKW.1 (subP hP hC) (ci := 8) (q0 := 0) rfl rfl, fun U hU hW => ⟨rfl, by rw [hU]; exact subP hP hC, hKW.warm hW, subD hD hC hnd⟩⟩ rfl rfl hn rfl (lv_room hW) hdg hcs) hP hD hS is hC rfl kk

-- HalfPlanks.rate(II)I
def fX8_rate (fu : Nat) (z_folk_size : Int32) (z_folk_planks : Int32) (z_present_came : Nat → Int32) (z_present_under : Nat → Int32) (z_folk_word : Nat → Int32) (z_folk_slow : Nat → Int32) (z_traced : Int64) (p1 : Int32) (p2 : Int32) : Option (Int32 × Int64) :=
  (fX0_hasPerson fu z_folk_size p2).bind fun v1 =>
  (if v1 = 0 then
  some ((-1000000), z_traced)
  else
  (if p1 = 0 then
  (fX8_rateAsPerson fu z_folk_word z_traced p2).bind fun (v3, g4) =>
  some (v3, g4)
  else if p1 = 1 then
  (fX8_rateAsPlain fu z_folk_word z_folk_slow z_traced p2).bind fun (v6, g7) =>
  some (v6, g7)
  else if p1 = 2 then
  (fX8_rateAsChild fu z_folk_word z_folk_slow z_traced p2).bind fun (v9, g10) =>
  some (v9, g10)
  else if p1 = 3 then
  (fX8_rateAsSworn fu z_folk_word z_folk_planks z_present_came z_traced p2).bind fun (v12, g13) =>
  some (v12, g13)
  else if p1 = 4 then
  (fX8_rateAsMerchant fu z_folk_planks z_present_came z_present_under z_folk_word z_traced p2).bind fun (v15, g16) =>
  some (v15, g16)
  else if p1 = 5 then
  (fX8_rateAsLiar fu z_folk_planks z_present_came z_present_under z_folk_word z_traced p2).bind fun (v18, g19) =>
  some (v18, g19)
  else some ((-1000000), z_traced)))
set_option maxHeartbeats 4000000 in
set_option maxRecDepth 100000 in
theorem tX8_rate {l : Launch} {D : va_G} {cI cZ cQ : ClassId} {a_this a_letters a_draft a_folk a_reader a_strength a_present a_history a_images a_kept a_planner a_gambler a_guesser a_folk_bank a_folk_kind a_folk_word a_folk_slow a_folk_told a_present_came a_present_under a_present_due : Nat} {z_typed z_folk_planks z_folk_size z_folk_sworn z_present_day z_present_crossed p1 p2 : Int32} {z_traced : Int64} {z_present_came z_present_under z_folk_word z_folk_slow : Nat → Int32} {fu : Nat} {r : Int32} {o_z_traced : Int64} (hf : fX8_rate fu z_folk_size z_folk_planks z_present_came z_present_under z_folk_word z_folk_slow z_traced p1 p2 = some (r, o_z_traced)) : Met l yX8_rate (.code yX8_rate cX8_rate 3 (some .int) :: TB) ({ frames := 4, cells := 0, slots := 0, locals := 88 } : Room) (rwP D (TY cI cZ cQ) [(a_this, .inr (8, [.ref a_letters, .int z_typed, .ref a_draft, .ref a_folk, .ref a_reader, .ref a_strength, .ref a_present, .ref a_history, .ref a_images, .ref a_kept, .ref a_planner, .ref a_gambler, .ref a_guesser, .long z_traced])), (a_folk, .inr (0, [.int z_folk_planks, .int z_folk_size, .int z_folk_sworn, .ref a_folk_bank, .ref a_folk_kind, .ref a_folk_word, .ref a_folk_slow, .ref a_folk_told])), (a_present, .inr (5, [.int z_present_day, .int z_present_crossed, .ref a_present_came, .ref a_present_under, .ref a_present_due])), (a_present_came, .inl (cI, 8, .inl z_present_came)), (a_present_under, .inl (cI, 8, .inl z_present_under)), (a_folk_word, .inl (cI, 8, .inl z_folk_word)), (a_folk_slow, .inl (cI, 8, .inl z_folk_slow))] [.ref a_this, .int p1, .int p2]) (rwQ D (some (.int r)) [(a_this, .inr (8, [.ref a_letters, .int z_typed, .ref a_draft, .ref a_folk, .ref a_reader, .ref a_strength, .ref a_present, .ref a_history, .ref a_images, .ref a_kept, .ref a_planner, .ref a_gambler, .ref a_guesser, .long o_z_traced])), (a_folk, .inr (0, [.int z_folk_planks, .int z_folk_size, .int z_folk_sworn, .ref a_folk_bank, .ref a_folk_kind, .ref a_folk_word, .ref a_folk_slow, .ref a_folk_told])), (a_present, .inr (5, [.int z_present_day, .int z_present_crossed, .ref a_present_came, .ref a_present_under, .ref a_present_due])), (a_present_came, .inl (cI, 8, .inl z_present_came)), (a_present_under, .inl (cI, 8, .inl z_present_under)), (a_folk_word, .inl (cI, 8, .inl z_folk_word)), (a_folk_slow, .inl (cI, 8, .inl z_folk_slow))] (inW [(a_this, .inr (8, [.ref a_letters, .int z_typed, .ref a_draft, .ref a_folk, .ref a_reader, .ref a_strength, .ref a_present, .ref a_history, .ref a_images, .ref a_kept, .ref a_planner, .ref a_gambler, .ref a_guesser, .long z_traced])), (a_folk, .inr (0, [.int z_folk_planks, .int z_folk_size, .int z_folk_sworn, .ref a_folk_bank, .ref a_folk_kind, .ref a_folk_word, .ref a_folk_slow, .ref a_folk_told])), (a_present, .inr (5, [.int z_present_day, .int z_present_crossed, .ref a_present_came, .ref a_present_under, .ref a_present_due])), (a_present_came, .inl (cI, 8, .inl z_present_came)), (a_present_under, .inl (cI, 8, .inl z_present_under)), (a_folk_word, .inl (cI, 8, .inl z_folk_word)), (a_folk_slow, .inl (cI, 8, .inl z_folk_slow))])) 0 0 (inW [(a_this, .inr (8, [.ref a_letters, .int z_typed, .ref a_draft, .ref a_folk, .ref a_reader, .ref a_strength, .ref a_present, .ref a_history, .ref a_images, .ref a_kept, .ref a_planner, .ref a_gambler, .ref a_guesser, .long z_traced])), (a_folk, .inr (0, [.int z_folk_planks, .int z_folk_size, .int z_folk_sworn, .ref a_folk_bank, .ref a_folk_kind, .ref a_folk_word, .ref a_folk_slow, .ref a_folk_told])), (a_present, .inr (5, [.int z_present_day, .int z_present_crossed, .ref a_present_came, .ref a_present_under, .ref a_present_due])), (a_present_came, .inl (cI, 8, .inl z_present_came)), (a_present_under, .inl (cI, 8, .inl z_present_under)), (a_folk_word, .inl (cI, 8, .inl z_folk_word)), (a_folk_slow, .inl (cI, 8, .inl z_folk_slow))]) := by
  refine Met.ofW (cc := cX8_rate) (maxL := 3) (ret := (some .int)) (by decide) rfl ?_
  intro p e s m args below meth c s₁ B hml hv
  obtain ⟨rfl, hP, hKW, hD0⟩ := hv
  have hx := B.exec
  have hb := B.bytes
  have hr := B.returns
  have hts : ∀ w ∈ TB, w.before ([.ref a_this, .int p1, .int p2] : List Value).toArray s = true := fun w h => atoms_spec (ws := .code yX8_rate cX8_rate 3 (some .int) :: TB) B.pre w (List.mem_cons_of_mem _ h)
  have hown : s.vm.findClass RX8 = some m.cls := findClass_of_methodNamed B.named
  have hlocks := B.notSynchronized
  have hK := hKW.1
  have hD := inW_D hD0
  generalize hAe : inW [(a_this, .inr (8, [.ref a_letters, .int z_typed, .ref a_draft, .ref a_folk, .ref a_reader, .ref a_strength, .ref a_present, .ref a_history, .ref a_images, .ref a_kept, .ref a_planner, .ref a_gambler, .ref a_guesser, .long z_traced])), (a_folk, .inr (0, [.int z_folk_planks, .int z_folk_size, .int z_folk_sworn, .ref a_folk_bank, .ref a_folk_kind, .ref a_folk_word, .ref a_folk_slow, .ref a_folk_told])), (a_present, .inr (5, [.int z_present_day, .int z_present_crossed, .ref a_present_came, .ref a_present_under, .ref a_present_due])), (a_present_came, .inl (cI, 8, .inl z_present_came)), (a_present_under, .inl (cI, 8, .inl z_present_under)), (a_folk_word, .inl (cI, 8, .inl z_folk_word)), (a_folk_slow, .inl (cI, 8, .inl z_folk_slow))] = A at hD ⊢
  have hS : va_S A s.heap s.heap [] := va_S.rf
  have hl := lv_entry [.ref a_this, .int p1, .int p2] (n := 3) (Nat.le_of_ble_eq_true rfl)
  rw [lg_entry_eq]
  generalize (lg_sl [.ref a_this, .int p1, .int p2] ++ List.replicate (3 - (lg_sl [.ref a_this, .int p1, .int p2]).length) Slot.unset).toArray = ls at hl ⊢
  have hl : lv_has ls 3 [(0, .ref a_this), (1, .int p1), (2, .int p2)] := hl
  show W p l e ({ frames := 4, cells := 0, slots := 0, locals := 88 } : Room) s m ([.ref a_this, .int p1, .int p2] : List Value).toArray below meth c s.heap [] 0 0 (MQ below (rwQ D (some (.int r)) [(a_this, .inr (8, [.ref a_letters, .int z_typed, .ref a_draft, .ref a_folk, .ref a_reader, .ref a_strength, .ref a_present, .ref a_history, .ref a_images, .ref a_kept, .ref a_planner, .ref a_gambler, .ref a_guesser, .long o_z_traced])), (a_folk, .inr (0, [.int z_folk_planks, .int z_folk_size, .int z_folk_sworn, .ref a_folk_bank, .ref a_folk_kind, .ref a_folk_word, .ref a_folk_slow, .ref a_folk_told])), (a_present, .inr (5, [.int z_present_day, .int z_present_crossed, .ref a_present_came, .ref a_present_under, .ref a_present_due])), (a_present_came, .inl (cI, 8, .inl z_present_came)), (a_present_under, .inl (cI, 8, .inl z_present_under)), (a_folk_word, .inl (cI, 8, .inl z_folk_word)), (a_folk_slow, .inl (cI, 8, .inl z_folk_slow))] A) ([.ref a_this, .int p1, .int p2] : List Value).toArray s 0 0 A) (F0 m 0 ls [])
  have hP : va_P D vwCl [(a_this, .inr (8, [.ref a_letters, .int z_typed, .ref a_draft, .ref a_folk, .ref a_reader, .ref a_strength, .ref a_present, .ref a_history, .ref a_images, .ref a_kept, .ref a_planner, .ref a_gambler, .ref a_guesser, .long z_traced])), (a_folk, .inr (0, [.int z_folk_planks, .int z_folk_size, .int z_folk_sworn, .ref a_folk_bank, .ref a_folk_kind, .ref a_folk_word, .ref a_folk_slow, .ref a_folk_told])), (a_present, .inr (5, [.int z_present_day, .int z_present_crossed, .ref a_present_came, .ref a_present_under, .ref a_present_due])), (a_present_came, .inl (cI, 8, .inl z_present_came)), (a_present_under, .inl (cI, 8, .inl z_present_under)), (a_folk_word, .inl (cI, 8, .inl z_folk_word)), (a_folk_slow, .inl (cI, 8, .inl z_folk_slow))] s.heap := hP
  have hD : va_D A [(a_this, .inr (8, [.ref a_letters, .int z_typed, .ref a_draft, .ref a_folk, .ref a_reader, .ref a_strength, .ref a_present, .ref a_history, .ref a_images, .ref a_kept, .ref a_planner, .ref a_gambler, .ref a_guesser, .long z_traced])), (a_folk, .inr (0, [.int z_folk_planks, .int z_folk_size, .int z_folk_sworn, .ref a_folk_bank, .ref a_folk_kind, .ref a_folk_word, .ref a_folk_slow, .ref a_folk_told])), (a_present, .inr (5, [.int z_present_day, .int z_present_crossed, .ref a_present_came, .ref a_present_under, .ref a_present_due])), (a_present_came, .inl (cI, 8, .inl z_present_came)), (a_present_under, .inl (cI, 8, .inl z_present_under)), (a_folk_word, .inl (cI, 8, .inl z_folk_word)), (a_folk_slow, .inl (cI, 8, .inl z_folk_slow))] := hD
  unfold fX8_rate at hf
  obtain ⟨H, hH⟩ : ∃ H, H = s.heap := ⟨_, rfl⟩
  obtain ⟨locs, hlo⟩ : ∃ q : List Loc, q = [] := ⟨_, rfl⟩
  have hS : va_S A s.heap H locs := by rw [hH, hlo]; exact hS
  rw [← hH] at hP
  suffices hgo : W p l e ({ frames := 4, cells := 0, slots := 0, locals := 88 } : Room) s m ([.ref a_this, .int p1, .int p2] : List Value).toArray below meth c H locs 0 0 (MQ below (rwQ D (some (.int r)) [(a_this, .inr (8, [.ref a_letters, .int z_typed, .ref a_draft, .ref a_folk, .ref a_reader, .ref a_strength, .ref a_present, .ref a_history, .ref a_images, .ref a_kept, .ref a_planner, .ref a_gambler, .ref a_guesser, .long o_z_traced])), (a_folk, .inr (0, [.int z_folk_planks, .int z_folk_size, .int z_folk_sworn, .ref a_folk_bank, .ref a_folk_kind, .ref a_folk_word, .ref a_folk_slow, .ref a_folk_told])), (a_present, .inr (5, [.int z_present_day, .int z_present_crossed, .ref a_present_came, .ref a_present_under, .ref a_present_due])), (a_present_came, .inl (cI, 8, .inl z_present_came)), (a_present_under, .inl (cI, 8, .inl z_present_under)), (a_folk_word, .inl (cI, 8, .inl z_folk_word)), (a_folk_slow, .inl (cI, 8, .inl z_folk_slow))] A) ([.ref a_this, .int p1, .int p2] : List Value).toArray s 0 0 A) (F0 m 0 ls []) by rw [hH, hlo] at hgo; exact hgo
  clear hH hlo
  refine lv_aload_n hx hb dX8_rate_0 rfl (lv_at hl 0 rfl) ?_
  refine va_get (D := D) (ci := 8) (v := .ref a_folk) (C := RX8) (T := TX8) (N := 14) hx hb hts inTX8 hown hK hP 0 rfl rfl 3 (by decide) (hts _ q290) (fun _ h9 => h9) rfl dX8_rate_1 ?_
  refine lv_iload_n hx hb dX8_rate_4 rfl (lv_at hl 2 rfl) ?_
  obtain ⟨v1, hv1, hf⟩ := ob hf
  refine kX0_hasPerson hx hb hml hown hts hKW q525 (hP.sub [1] rfl) hv1 hl.1 (Nat.le_of_ble_eq_true rfl) ⟨Nat.le_of_ble_eq_true rfl, Nat.le_of_ble_eq_true rfl⟩ ⟨Nat.zero_le _, Nat.zero_le _⟩ dX8_rate_5 ?_
  refine lv_if_ne (tgt := 15) hx hb dX8_rate_8 (by decide) (fun c2 => ?_) (fun c2 => ?_)
  · replace hf := ie hf c2
    refine lv_iload_n hx hb dX8_rate_15 rfl (lv_at hl 1 rfl) ?_
    by_cases c5 : p1 = 0
    · replace hf := it hf c5
      refine lv_tableIn (off := 40) (tgt := 56) hx hb dX8_rate_16 (by rw [c5]; decide) (by rw [c5]; decide) (by rw [c5]; decide +kernel) (by decide) ?_
      refine lv_aload_n hx hb dX8_rate_56 rfl (lv_at hl 0 rfl) ?_
      refine lv_iload_n hx hb dX8_rate_57 rfl (lv_at hl 2 rfl) ?_
      obtain ⟨⟨v3, g4⟩, hv3, hf⟩ := ob hf
      dsimp only at hf
      refine kX8_rateAsPerson hx hb hml hown hts hKW q844 hP hD hS [0, 1, 5] rfl (by decide) hv3 hl.1 (Nat.le_of_ble_eq_true rfl) ⟨Nat.le_of_ble_eq_true rfl, Nat.le_of_ble_eq_true rfl⟩ ⟨Nat.zero_le _, Nat.zero_le _⟩ dX8_rate_58 (fun H locs hP hD hS => ?_)
      have hP : va_P D vwCl [(a_this, .inr (8, [.ref a_letters, .int z_typed, .ref a_draft, .ref a_folk, .ref a_reader, .ref a_strength, .ref a_present, .ref a_history, .ref a_images, .ref a_kept, .ref a_planner, .ref a_gambler, .ref a_guesser, .long g4])), (a_folk, .inr (0, [.int z_folk_planks, .int z_folk_size, .int z_folk_sworn, .ref a_folk_bank, .ref a_folk_kind, .ref a_folk_word, .ref a_folk_slow, .ref a_folk_told])), (a_present, .inr (5, [.int z_present_day, .int z_present_crossed, .ref a_present_came, .ref a_present_under, .ref a_present_due])), (a_present_came, .inl (cI, 8, .inl z_present_came)), (a_present_under, .inl (cI, 8, .inl z_present_under)), (a_folk_word, .inl (cI, 8, .inl z_folk_word)), (a_folk_slow, .inl (cI, 8, .inl z_folk_slow))] H := hP
      have hD : va_D A [(a_this, .inr (8, [.ref a_letters, .int z_typed, .ref a_draft, .ref a_folk, .ref a_reader, .ref a_strength, .ref a_present, .ref a_history, .ref a_images, .ref a_kept, .ref a_planner, .ref a_gambler, .ref a_guesser, .long g4])), (a_folk, .inr (0, [.int z_folk_planks, .int z_folk_size, .int z_folk_sworn, .ref a_folk_bank, .ref a_folk_kind, .ref a_folk_word, .ref a_folk_slow, .ref a_folk_told])), (a_present, .inr (5, [.int z_present_day, .int z_present_crossed, .ref a_present_came, .ref a_present_under, .ref a_present_due])), (a_present_came, .inl (cI, 8, .inl z_present_came)), (a_present_under, .inl (cI, 8, .inl z_present_under)), (a_folk_word, .inl (cI, 8, .inl z_folk_word)), (a_folk_slow, .inl (cI, 8, .inl z_folk_slow))] := hD
      cases hf
      exact W.iret hx hb hr (fun t ht _ => ⟨rfl, by rw [ht]; exact hP, hS.F ht⟩) hS.2.2 dX8_rate_61
    replace hf := ie hf c5
    by_cases c8 : p1 = 1
    · replace hf := it hf c8
      refine lv_tableIn (off := 46) (tgt := 62) hx hb dX8_rate_16 (by rw [c8]; decide) (by rw [c8]; decide) (by rw [c8]; decide +kernel) (by decide) ?_
      refine lv_aload_n hx hb dX8_rate_62 rfl (lv_at hl 0 rfl) ?_
      refine lv_iload_n hx hb dX8_rate_63 rfl (lv_at hl 2 rfl) ?_
      obtain ⟨⟨v6, g7⟩, hv6, hf⟩ := ob hf
      dsimp only at hf
      refine kX8_rateAsPlain hx hb hml hown hts hKW q848 hP hD hS [0, 1, 5, 6] rfl (by decide) hv6 hl.1 (Nat.le_of_ble_eq_true rfl) ⟨Nat.le_of_ble_eq_true rfl, Nat.le_of_ble_eq_true rfl⟩ ⟨Nat.zero_le _, Nat.zero_le _⟩ dX8_rate_64 (fun H locs hP hD hS => ?_)
      have hP : va_P D vwCl [(a_this, .inr (8, [.ref a_letters, .int z_typed, .ref a_draft, .ref a_folk, .ref a_reader, .ref a_strength, .ref a_present, .ref a_history, .ref a_images, .ref a_kept, .ref a_planner, .ref a_gambler, .ref a_guesser, .long g7])), (a_folk, .inr (0, [.int z_folk_planks, .int z_folk_size, .int z_folk_sworn, .ref a_folk_bank, .ref a_folk_kind, .ref a_folk_word, .ref a_folk_slow, .ref a_folk_told])), (a_present, .inr (5, [.int z_present_day, .int z_present_crossed, .ref a_present_came, .ref a_present_under, .ref a_present_due])), (a_present_came, .inl (cI, 8, .inl z_present_came)), (a_present_under, .inl (cI, 8, .inl z_present_under)), (a_folk_word, .inl (cI, 8, .inl z_folk_word)), (a_folk_slow, .inl (cI, 8, .inl z_folk_slow))] H := hP
      have hD : va_D A [(a_this, .inr (8, [.ref a_letters, .int z_typed, .ref a_draft, .ref a_folk, .ref a_reader, .ref a_strength, .ref a_present, .ref a_history, .ref a_images, .ref a_kept, .ref a_planner, .ref a_gambler, .ref a_guesser, .long g7])), (a_folk, .inr (0, [.int z_folk_planks, .int z_folk_size, .int z_folk_sworn, .ref a_folk_bank, .ref a_folk_kind, .ref a_folk_word, .ref a_folk_slow, .ref a_folk_told])), (a_present, .inr (5, [.int z_present_day, .int z_present_crossed, .ref a_present_came, .ref a_present_under, .ref a_present_due])), (a_present_came, .inl (cI, 8, .inl z_present_came)), (a_present_under, .inl (cI, 8, .inl z_present_under)), (a_folk_word, .inl (cI, 8, .inl z_folk_word)), (a_folk_slow, .inl (cI, 8, .inl z_folk_slow))] := hD
      cases hf
      exact W.iret hx hb hr (fun t ht _ => ⟨rfl, by rw [ht]; exact hP, hS.F ht⟩) hS.2.2 dX8_rate_67
    replace hf := ie hf c8
    by_cases c11 : p1 = 2
    · replace hf := it hf c11
      refine lv_tableIn (off := 52) (tgt := 68) hx hb dX8_rate_16 (by rw [c11]; decide) (by rw [c11]; decide) (by rw [c11]; decide +kernel) (by decide) ?_
      refine lv_aload_n hx hb dX8_rate_68 rfl (lv_at hl 0 rfl) ?_
      refine lv_iload_n hx hb dX8_rate_69 rfl (lv_at hl 2 rfl) ?_
      obtain ⟨⟨v9, g10⟩, hv9, hf⟩ := ob hf
      dsimp only at hf
      refine kX8_rateAsChild hx hb hml hown hts hKW q853 hP hD hS [0, 1, 5, 6] rfl (by decide) hv9 hl.1 (Nat.le_of_ble_eq_true rfl) ⟨Nat.le_of_ble_eq_true rfl, Nat.le_of_ble_eq_true rfl⟩ ⟨Nat.zero_le _, Nat.zero_le _⟩ dX8_rate_70 (fun H locs hP hD hS => ?_)
      have hP : va_P D vwCl [(a_this, .inr (8, [.ref a_letters, .int z_typed, .ref a_draft, .ref a_folk, .ref a_reader, .ref a_strength, .ref a_present, .ref a_history, .ref a_images, .ref a_kept, .ref a_planner, .ref a_gambler, .ref a_guesser, .long g10])), (a_folk, .inr (0, [.int z_folk_planks, .int z_folk_size, .int z_folk_sworn, .ref a_folk_bank, .ref a_folk_kind, .ref a_folk_word, .ref a_folk_slow, .ref a_folk_told])), (a_present, .inr (5, [.int z_present_day, .int z_present_crossed, .ref a_present_came, .ref a_present_under, .ref a_present_due])), (a_present_came, .inl (cI, 8, .inl z_present_came)), (a_present_under, .inl (cI, 8, .inl z_present_under)), (a_folk_word, .inl (cI, 8, .inl z_folk_word)), (a_folk_slow, .inl (cI, 8, .inl z_folk_slow))] H := hP
      have hD : va_D A [(a_this, .inr (8, [.ref a_letters, .int z_typed, .ref a_draft, .ref a_folk, .ref a_reader, .ref a_strength, .ref a_present, .ref a_history, .ref a_images, .ref a_kept, .ref a_planner, .ref a_gambler, .ref a_guesser, .long g10])), (a_folk, .inr (0, [.int z_folk_planks, .int z_folk_size, .int z_folk_sworn, .ref a_folk_bank, .ref a_folk_kind, .ref a_folk_word, .ref a_folk_slow, .ref a_folk_told])), (a_present, .inr (5, [.int z_present_day, .int z_present_crossed, .ref a_present_came, .ref a_present_under, .ref a_present_due])), (a_present_came, .inl (cI, 8, .inl z_present_came)), (a_present_under, .inl (cI, 8, .inl z_present_under)), (a_folk_word, .inl (cI, 8, .inl z_folk_word)), (a_folk_slow, .inl (cI, 8, .inl z_folk_slow))] := hD
      cases hf
      exact W.iret hx hb hr (fun t ht _ => ⟨rfl, by rw [ht]; exact hP, hS.F ht⟩) hS.2.2 dX8_rate_73
    replace hf := ie hf c11
    by_cases c14 : p1 = 3
    · replace hf := it hf c14
      refine lv_tableIn (off := 58) (tgt := 74) hx hb dX8_rate_16 (by rw [c14]; decide) (by rw [c14]; decide) (by rw [c14]; decide +kernel) (by decide) ?_
      refine lv_aload_n hx hb dX8_rate_74 rfl (lv_at hl 0 rfl) ?_
      refine lv_iload_n hx hb dX8_rate_75 rfl (lv_at hl 2 rfl) ?_
      obtain ⟨⟨v12, g13⟩, hv12, hf⟩ := ob hf
      dsimp only at hf
      refine kX8_rateAsSworn hx hb hml hown hts hKW q858 hP hD hS [0, 1, 5, 2, 3] rfl (by decide) hv12 hl.1 (Nat.le_of_ble_eq_true rfl) ⟨Nat.le_of_ble_eq_true rfl, Nat.le_of_ble_eq_true rfl⟩ ⟨Nat.zero_le _, Nat.zero_le _⟩ dX8_rate_76 (fun H locs hP hD hS => ?_)
      have hP : va_P D vwCl [(a_this, .inr (8, [.ref a_letters, .int z_typed, .ref a_draft, .ref a_folk, .ref a_reader, .ref a_strength, .ref a_present, .ref a_history, .ref a_images, .ref a_kept, .ref a_planner, .ref a_gambler, .ref a_guesser, .long g13])), (a_folk, .inr (0, [.int z_folk_planks, .int z_folk_size, .int z_folk_sworn, .ref a_folk_bank, .ref a_folk_kind, .ref a_folk_word, .ref a_folk_slow, .ref a_folk_told])), (a_present, .inr (5, [.int z_present_day, .int z_present_crossed, .ref a_present_came, .ref a_present_under, .ref a_present_due])), (a_present_came, .inl (cI, 8, .inl z_present_came)), (a_present_under, .inl (cI, 8, .inl z_present_under)), (a_folk_word, .inl (cI, 8, .inl z_folk_word)), (a_folk_slow, .inl (cI, 8, .inl z_folk_slow))] H := hP
      have hD : va_D A [(a_this, .inr (8, [.ref a_letters, .int z_typed, .ref a_draft, .ref a_folk, .ref a_reader, .ref a_strength, .ref a_present, .ref a_history, .ref a_images, .ref a_kept, .ref a_planner, .ref a_gambler, .ref a_guesser, .long g13])), (a_folk, .inr (0, [.int z_folk_planks, .int z_folk_size, .int z_folk_sworn, .ref a_folk_bank, .ref a_folk_kind, .ref a_folk_word, .ref a_folk_slow, .ref a_folk_told])), (a_present, .inr (5, [.int z_present_day, .int z_present_crossed, .ref a_present_came, .ref a_present_under, .ref a_present_due])), (a_present_came, .inl (cI, 8, .inl z_present_came)), (a_present_under, .inl (cI, 8, .inl z_present_under)), (a_folk_word, .inl (cI, 8, .inl z_folk_word)), (a_folk_slow, .inl (cI, 8, .inl z_folk_slow))] := hD
      cases hf
      exact W.iret hx hb hr (fun t ht _ => ⟨rfl, by rw [ht]; exact hP, hS.F ht⟩) hS.2.2 dX8_rate_79
    replace hf := ie hf c14
    by_cases c17 : p1 = 4
    · replace hf := it hf c17
      refine lv_tableIn (off := 64) (tgt := 80) hx hb dX8_rate_16 (by rw [c17]; decide) (by rw [c17]; decide) (by rw [c17]; decide +kernel) (by decide) ?_
      refine lv_aload_n hx hb dX8_rate_80 rfl (lv_at hl 0 rfl) ?_
      refine lv_iload_n hx hb dX8_rate_81 rfl (lv_at hl 2 rfl) ?_
      obtain ⟨⟨v15, g16⟩, hv15, hf⟩ := ob hf
      dsimp only at hf
      refine kX8_rateAsMerchant hx hb hml hown hts hKW q864 hP hD hS [0, 2, 1, 3, 4, 5] rfl (by decide) hv15 hl.1 (Nat.le_of_ble_eq_true rfl) ⟨Nat.le_of_ble_eq_true rfl, Nat.le_of_ble_eq_true rfl⟩ ⟨Nat.zero_le _, Nat.zero_le _⟩ dX8_rate_82 (fun H locs hP hD hS => ?_)
      have hP : va_P D vwCl [(a_this, .inr (8, [.ref a_letters, .int z_typed, .ref a_draft, .ref a_folk, .ref a_reader, .ref a_strength, .ref a_present, .ref a_history, .ref a_images, .ref a_kept, .ref a_planner, .ref a_gambler, .ref a_guesser, .long g16])), (a_folk, .inr (0, [.int z_folk_planks, .int z_folk_size, .int z_folk_sworn, .ref a_folk_bank, .ref a_folk_kind, .ref a_folk_word, .ref a_folk_slow, .ref a_folk_told])), (a_present, .inr (5, [.int z_present_day, .int z_present_crossed, .ref a_present_came, .ref a_present_under, .ref a_present_due])), (a_present_came, .inl (cI, 8, .inl z_present_came)), (a_present_under, .inl (cI, 8, .inl z_present_under)), (a_folk_word, .inl (cI, 8, .inl z_folk_word)), (a_folk_slow, .inl (cI, 8, .inl z_folk_slow))] H := hP
      have hD : va_D A [(a_this, .inr (8, [.ref a_letters, .int z_typed, .ref a_draft, .ref a_folk, .ref a_reader, .ref a_strength, .ref a_present, .ref a_history, .ref a_images, .ref a_kept, .ref a_planner, .ref a_gambler, .ref a_guesser, .long g16])), (a_folk, .inr (0, [.int z_folk_planks, .int z_folk_size, .int z_folk_sworn, .ref a_folk_bank, .ref a_folk_kind, .ref a_folk_word, .ref a_folk_slow, .ref a_folk_told])), (a_present, .inr (5, [.int z_present_day, .int z_present_crossed, .ref a_present_came, .ref a_present_under, .ref a_present_due])), (a_present_came, .inl (cI, 8, .inl z_present_came)), (a_present_under, .inl (cI, 8, .inl z_present_under)), (a_folk_word, .inl (cI, 8, .inl z_folk_word)), (a_folk_slow, .inl (cI, 8, .inl z_folk_slow))] := hD
      cases hf
      exact W.iret hx hb hr (fun t ht _ => ⟨rfl, by rw [ht]; exact hP, hS.F ht⟩) hS.2.2 dX8_rate_85
    replace hf := ie hf c17
    by_cases c20 : p1 = 5
    · replace hf := it hf c20
      refine lv_tableIn (off := 70) (tgt := 86) hx hb dX8_rate_16 (by rw [c20]; decide) (by rw [c20]; decide) (by rw [c20]; decide +kernel) (by decide) ?_
      refine lv_aload_n hx hb dX8_rate_86 rfl (lv_at hl 0 rfl) ?_
      refine lv_iload_n hx hb dX8_rate_87 rfl (lv_at hl 2 rfl) ?_
      obtain ⟨⟨v18, g19⟩, hv18, hf⟩ := ob hf
      dsimp only at hf
      refine kX8_rateAsLiar hx hb hml hown hts hKW q869 hP hD hS [0, 2, 1, 3, 4, 5] rfl (by decide) hv18 hl.1 (Nat.le_of_ble_eq_true rfl) ⟨Nat.le_of_ble_eq_true rfl, Nat.le_of_ble_eq_true rfl⟩ ⟨Nat.zero_le _, Nat.zero_le _⟩ dX8_rate_88 (fun H locs hP hD hS => ?_)
      have hP : va_P D vwCl [(a_this, .inr (8, [.ref a_letters, .int z_typed, .ref a_draft, .ref a_folk, .ref a_reader, .ref a_strength, .ref a_present, .ref a_history, .ref a_images, .ref a_kept, .ref a_planner, .ref a_gambler, .ref a_guesser, .long g19])), (a_folk, .inr (0, [.int z_folk_planks, .int z_folk_size, .int z_folk_sworn, .ref a_folk_bank, .ref a_folk_kind, .ref a_folk_word, .ref a_folk_slow, .ref a_folk_told])), (a_present, .inr (5, [.int z_present_day, .int z_present_crossed, .ref a_present_came, .ref a_present_under, .ref a_present_due])), (a_present_came, .inl (cI, 8, .inl z_present_came)), (a_present_under, .inl (cI, 8, .inl z_present_under)), (a_folk_word, .inl (cI, 8, .inl z_folk_word)), (a_folk_slow, .inl (cI, 8, .inl z_folk_slow))] H := hP
      have hD : va_D A [(a_this, .inr (8, [.ref a_letters, .int z_typed, .ref a_draft, .ref a_folk, .ref a_reader, .ref a_strength, .ref a_present, .ref a_history, .ref a_images, .ref a_kept, .ref a_planner, .ref a_gambler, .ref a_guesser, .long g19])), (a_folk, .inr (0, [.int z_folk_planks, .int z_folk_size, .int z_folk_sworn, .ref a_folk_bank, .ref a_folk_kind, .ref a_folk_word, .ref a_folk_slow, .ref a_folk_told])), (a_present, .inr (5, [.int z_present_day, .int z_present_crossed, .ref a_present_came, .ref a_present_under, .ref a_present_due])), (a_present_came, .inl (cI, 8, .inl z_present_came)), (a_present_under, .inl (cI, 8, .inl z_present_under)), (a_folk_word, .inl (cI, 8, .inl z_folk_word)), (a_folk_slow, .inl (cI, 8, .inl z_folk_slow))] := hD
      cases hf
      exact W.iret hx hb hr (fun t ht _ => ⟨rfl, by rw [ht]; exact hP, hS.F ht⟩) hS.2.2 dX8_rate_91
    replace hf := ie hf c20
    refine lv_tableOut (tgt := 92) hx hb dX8_rate_16 (by have := lv_neT (a := 0) c5 (by decide); have := lv_neT (a := 1) c8 (by decide); have := lv_neT (a := 2) c11 (by decide); have := lv_neT (a := 3) c14 (by decide); have := lv_neT (a := 4) c17 (by decide); have := lv_neT (a := 5) c20 (by decide); omega) (by decide) ?_
    refine lv_ldcw (v := -1000000) hx hb hown (hts _ q843) dX8_rate_92 ?_
    cases hf
    exact W.iret hx hb hr (fun t ht _ => ⟨rfl, by rw [ht]; exact hP, hS.F ht⟩) hS.2.2 dX8_rate_95
  · replace hf := it hf c2
    refine lv_ldcw (v := -1000000) hx hb hown (hts _ q843) dX8_rate_11 ?_
    cases hf
    exact W.iret hx hb hr (fun t ht _ => ⟨rfl, by rw [ht]; exact hP, hS.F ht⟩) hS.2.2 dX8_rate_14
theorem kX8_rate {p : Program} {l : Launch} {e : Env} {R : Room} {s : State} {m : MethodId} {args : Array Value} {below : List Frame} {meth : Method} {c : Code} {H : Heap} {locs : List Loc} {cells slots : Nat} {Q : State → Prop} {cc : ByteArray} {nL pc index : Nat} {ls : Array Slot} {rest : List Value} {own : String} {D : va_G} {cI cZ cQ : ClassId} {a_this a_letters a_draft a_folk a_reader a_strength a_present a_history a_images a_kept a_planner a_gambler a_guesser a_folk_bank a_folk_kind a_folk_word a_folk_slow a_folk_told a_present_came a_present_under a_present_due : Nat} {z_typed z_folk_planks z_folk_size z_folk_sworn z_present_day z_present_crossed p1 p2 : Int32} {z_traced : Int64} {z_present_came z_present_under z_folk_word z_folk_slow : Nat → Int32} {fu : Nat} {r : Int32} {o_z_traced : Int64} (hx : p.tables.exec = Jvm.exec) (hb : c.code = cc) (hml : c.maxLocals = nL) (hown : s.vm.findClass own = some m.cls) (hts : ∀ w ∈ TB, w.before args s = true) (hKW : KW D (TY cI cZ cQ) s) (hlk : Cond.methodLink own index yX8_rate ∈ TB) {ws : va_W} {A : Nat → Prop} {H0 : Heap} (hP : va_P D vwCl ws H) (hD : va_D A ws) (hS : va_S A H0 H locs) (is : List Nat) (hC : is.map (fun i => ws[i]?) = ([(a_this, .inr (8, [.ref a_letters, .int z_typed, .ref a_draft, .ref a_folk, .ref a_reader, .ref a_strength, .ref a_present, .ref a_history, .ref a_images, .ref a_kept, .ref a_planner, .ref a_gambler, .ref a_guesser, .long z_traced])), (a_folk, .inr (0, [.int z_folk_planks, .int z_folk_size, .int z_folk_sworn, .ref a_folk_bank, .ref a_folk_kind, .ref a_folk_word, .ref a_folk_slow, .ref a_folk_told])), (a_present, .inr (5, [.int z_present_day, .int z_present_crossed, .ref a_present_came, .ref a_present_under, .ref a_present_due])), (a_present_came, .inl (cI, 8, .inl z_present_came)), (a_present_under, .inl (cI, 8, .inl z_present_under)), (a_folk_word, .inl (cI, 8, .inl z_folk_word)), (a_folk_slow, .inl (cI, 8, .inl z_folk_slow))] : va_W).map some) (hnd : va_nd is = true) (hf : fX8_rate fu z_folk_size z_folk_planks z_present_came z_present_under z_folk_word z_folk_slow z_traced p1 p2 = some (r, o_z_traced)) (hn : ls.size = nL) (hW : (rest.map fun v => v.category).sum ≤ 8) (hR : 4 + 1 ≤ R.frames ∧ 8 + (3 + 11) + 88 ≤ R.locals) (hcs : cells ≤ R.cells ∧ slots ≤ R.slots) (hdg : decode cc pc = .ok (.invokevirtual index, 3)) (kk : ∀ (H1 : Heap) (locs1 : List Loc), va_P D vwCl (rpl ws is [(a_this, .inr (8, [.ref a_letters, .int z_typed, .ref a_draft, .ref a_folk, .ref a_reader, .ref a_strength, .ref a_present, .ref a_history, .ref a_images, .ref a_kept, .ref a_planner, .ref a_gambler, .ref a_guesser, .long o_z_traced])), (a_folk, .inr (0, [.int z_folk_planks, .int z_folk_size, .int z_folk_sworn, .ref a_folk_bank, .ref a_folk_kind, .ref a_folk_word, .ref a_folk_slow, .ref a_folk_told])), (a_present, .inr (5, [.int z_present_day, .int z_present_crossed, .ref a_present_came, .ref a_present_under, .ref a_present_due])), (a_present_came, .inl (cI, 8, .inl z_present_came)), (a_present_under, .inl (cI, 8, .inl z_present_under)), (a_folk_word, .inl (cI, 8, .inl z_folk_word)), (a_folk_slow, .inl (cI, 8, .inl z_folk_slow))]) H1 → va_D A (rpl ws is [(a_this, .inr (8, [.ref a_letters, .int z_typed, .ref a_draft, .ref a_folk, .ref a_reader, .ref a_strength, .ref a_present, .ref a_history, .ref a_images, .ref a_kept, .ref a_planner, .ref a_gambler, .ref a_guesser, .long o_z_traced])), (a_folk, .inr (0, [.int z_folk_planks, .int z_folk_size, .int z_folk_sworn, .ref a_folk_bank, .ref a_folk_kind, .ref a_folk_word, .ref a_folk_slow, .ref a_folk_told])), (a_present, .inr (5, [.int z_present_day, .int z_present_crossed, .ref a_present_came, .ref a_present_under, .ref a_present_due])), (a_present_came, .inl (cI, 8, .inl z_present_came)), (a_present_under, .inl (cI, 8, .inl z_present_under)), (a_folk_word, .inl (cI, 8, .inl z_folk_word)), (a_folk_slow, .inl (cI, 8, .inl z_folk_slow))]) → va_S A H0 H1 locs1 → W p l e R s m args below meth c H1 locs1 cells slots Q (F0 m (pc + 3) ls (.int r :: rest))) : W p l e R s m args below meth c H locs cells slots Q (F0 m pc ls (.int p2 :: .int p1 :: .ref a_this :: rest)) :=
  x_rw (va_runV (As := [.int p1, .int p2]) (rest := rest) ⟨hx, hb, hml, hown, hts⟩ (tX8_rate hf) (cwV 2 hts (tb_V hlk q840 q841 q39 q842) rfl rfl rfl (by decide +kernel) hR) ⟨rwB, va_recv hKW.1 (subP hP hC) (ci := 8) (q0 := 0) rfl rfl, fun U hU hW => ⟨rfl, by rw [hU]; exact subP hP hC, hKW.warm hW, subD hD hC hnd⟩⟩ rfl rfl hn rfl (lv_room hW) hdg hcs) hP hD hS is hC rfl kk

-- HalfPlanks.count(I)I
def fX8_count (fu : Nat) (z_typed : Int32) (z_guesser_seen : Int32) (z_folk_size : Int32) (z_folk_planks : Int32) (p1 : Int32) : Option (Int32) :=
  (if p1 = 0 then
  some (z_folk_planks)
  else if p1 = 1 then
  some (z_folk_size)
  else if p1 = 2 then
  some (z_guesser_seen)
  else if p1 = 3 then
  some (z_typed)
  else some ((-1)))
set_option maxHeartbeats 4000000 in
set_option maxRecDepth 100000 in
theorem tX8_count {l : Launch} {D : va_G} {cI cZ cQ : ClassId} {a_this a_letters a_draft a_folk a_reader a_strength a_present a_history a_images a_kept a_planner a_gambler a_guesser a_guesser_load a_guesser_over a_guesser_borne a_folk_bank a_folk_kind a_folk_word a_folk_slow a_folk_told : Nat} {z_typed z_guesser_seen z_guesser_least z_guesser_greatest z_folk_planks z_folk_size z_folk_sworn p1 : Int32} {z_traced : Int64} {fu : Nat} {r : Int32} (hf : fX8_count fu z_typed z_guesser_seen z_folk_size z_folk_planks p1 = some (r)) : Met l yX8_count (.code yX8_count cX8_count 2 (some .int) :: TB) ({ frames := 0, cells := 0, slots := 0, locals := 0 } : Room) (roP D (TY cI cZ cQ) [(a_this, .inr (8, [.ref a_letters, .int z_typed, .ref a_draft, .ref a_folk, .ref a_reader, .ref a_strength, .ref a_present, .ref a_history, .ref a_images, .ref a_kept, .ref a_planner, .ref a_gambler, .ref a_guesser, .long z_traced])), (a_guesser, .inr (2, [.ref a_folk, .ref a_strength, .ref a_present, .ref a_guesser_load, .ref a_guesser_over, .int z_guesser_seen, .ref a_guesser_borne, .int z_guesser_least, .int z_guesser_greatest])), (a_folk, .inr (0, [.int z_folk_planks, .int z_folk_size, .int z_folk_sworn, .ref a_folk_bank, .ref a_folk_kind, .ref a_folk_word, .ref a_folk_slow, .ref a_folk_told]))] [.ref a_this, .int p1]) (roQ (some (.int r))) 0 0 (fun _ => False) := by
  refine Met.ofW (cc := cX8_count) (maxL := 2) (ret := (some .int)) (by decide) rfl ?_
  intro p e s m args below meth c s₁ B hml hv
  obtain ⟨rfl, hP, hKW⟩ := hv
  have hx := B.exec
  have hb := B.bytes
  have hr := B.returns
  have hts : ∀ w ∈ TB, w.before ([.ref a_this, .int p1] : List Value).toArray s = true := fun w h => atoms_spec (ws := .code yX8_count cX8_count 2 (some .int) :: TB) B.pre w (List.mem_cons_of_mem _ h)
  have hown : s.vm.findClass RX8 = some m.cls := findClass_of_methodNamed B.named
  have hlocks := B.notSynchronized
  have hK := hKW.1
  have hl := lv_entry [.ref a_this, .int p1] (n := 2) (Nat.le_of_ble_eq_true rfl)
  rw [lg_entry_eq]
  generalize (lg_sl [.ref a_this, .int p1] ++ List.replicate (2 - (lg_sl [.ref a_this, .int p1]).length) Slot.unset).toArray = ls at hl ⊢
  have hl : lv_has ls 2 [(0, .ref a_this), (1, .int p1)] := hl
  show W p l e ({ frames := 0, cells := 0, slots := 0, locals := 0 } : Room) s m ([.ref a_this, .int p1] : List Value).toArray below meth c s.heap [] 0 0 (MQ below (roQ (some (.int r))) ([.ref a_this, .int p1] : List Value).toArray s 0 0 (fun _ => False)) (F0 m 0 ls [])
  unfold fX8_count at hf
  refine lv_iload_n hx hb dX8_count_0 rfl (lv_at hl 1 rfl) ?_
  by_cases c1 : p1 = 0
  · replace hf := it hf c1
    refine lv_tableIn (off := 31) (tgt := 32) hx hb dX8_count_1 (by rw [c1]; decide) (by rw [c1]; decide) (by rw [c1]; decide +kernel) (by decide) ?_
    refine lv_aload_n hx hb dX8_count_32 rfl (lv_at hl 0 rfl) ?_
    refine va_get (D := D) (ci := 8) (v := .ref a_folk) (C := RX8) (T := TX8) (N := 14) hx hb hts inTX8 hown hK hP 0 rfl rfl 3 (by decide) (hts _ q290) (fun _ h9 => h9) rfl dX8_count_33 ?_
    refine va_get (D := D) (ci := 0) (v := .int z_folk_planks) (C := RX0) (T := TX0) (N := 8) hx hb hts inTX0 hown hK hP 2 rfl rfl 0 (by decide) (hts _ q77) (fun _ h9 => h9) rfl dX8_count_36 ?_
    cases hf
    exact W.iret hx hb hr (fun t ht _ => ⟨rfl, ht⟩) (fun q h => by cases h) dX8_count_39
  replace hf := ie hf c1
  by_cases c2 : p1 = 1
  · replace hf := it hf c2
    refine lv_tableIn (off := 39) (tgt := 40) hx hb dX8_count_1 (by rw [c2]; decide) (by rw [c2]; decide) (by rw [c2]; decide +kernel) (by decide) ?_
    refine lv_aload_n hx hb dX8_count_40 rfl (lv_at hl 0 rfl) ?_
    refine va_get (D := D) (ci := 8) (v := .ref a_folk) (C := RX8) (T := TX8) (N := 14) hx hb hts inTX8 hown hK hP 0 rfl rfl 3 (by decide) (hts _ q290) (fun _ h9 => h9) rfl dX8_count_41 ?_
    refine va_get (D := D) (ci := 0) (v := .int z_folk_size) (C := RX0) (T := TX0) (N := 8) hx hb hts inTX0 hown hK hP 2 rfl rfl 1 (by decide) (hts _ q84) (fun _ h9 => h9) rfl dX8_count_44 ?_
    cases hf
    exact W.iret hx hb hr (fun t ht _ => ⟨rfl, ht⟩) (fun q h => by cases h) dX8_count_47
  replace hf := ie hf c2
  by_cases c3 : p1 = 2
  · replace hf := it hf c3
    refine lv_tableIn (off := 47) (tgt := 48) hx hb dX8_count_1 (by rw [c3]; decide) (by rw [c3]; decide) (by rw [c3]; decide +kernel) (by decide) ?_
    refine lv_aload_n hx hb dX8_count_48 rfl (lv_at hl 0 rfl) ?_
    refine va_get (D := D) (ci := 8) (v := .ref a_guesser) (C := RX8) (T := TX8) (N := 14) hx hb hts inTX8 hown hK hP 0 rfl rfl 12 (by decide) (hts _ q299) (fun _ h9 => h9) rfl dX8_count_49 ?_
    refine va_get (D := D) (ci := 2) (v := .int z_guesser_seen) (C := RX2) (T := TX2) (N := 9) hx hb hts inTX2 hown hK hP 1 rfl rfl 5 (by decide) (hts _ q264) (fun _ h9 => h9) rfl dX8_count_52 ?_
    cases hf
    exact W.iret hx hb hr (fun t ht _ => ⟨rfl, ht⟩) (fun q h => by cases h) dX8_count_55
  replace hf := ie hf c3
  by_cases c4 : p1 = 3
  · replace hf := it hf c4
    refine lv_tableIn (off := 55) (tgt := 56) hx hb dX8_count_1 (by rw [c4]; decide) (by rw [c4]; decide) (by rw [c4]; decide +kernel) (by decide) ?_
    refine lv_aload_n hx hb dX8_count_56 rfl (lv_at hl 0 rfl) ?_
    refine va_get (D := D) (ci := 8) (v := .int z_typed) (C := RX8) (T := TX8) (N := 14) hx hb hts inTX8 hown hK hP 0 rfl rfl 1 (by decide) (hts _ q288) (fun _ h9 => h9) rfl dX8_count_57 ?_
    cases hf
    exact W.iret hx hb hr (fun t ht _ => ⟨rfl, ht⟩) (fun q h => by cases h) dX8_count_60
  replace hf := ie hf c4
  refine lv_tableOut (tgt := 61) hx hb dX8_count_1 (by have := lv_neT (a := 0) c1 (by decide); have := lv_neT (a := 1) c2 (by decide); have := lv_neT (a := 2) c3 (by decide); have := lv_neT (a := 3) c4 (by decide); omega) (by decide) ?_
  refine lv_iconst (v := -1) hx hb dX8_count_61 (by decide) ?_
  cases hf
  exact W.iret hx hb hr (fun t ht _ => ⟨rfl, ht⟩) (fun q h => by cases h) dX8_count_62
theorem kX8_count {p : Program} {l : Launch} {e : Env} {R : Room} {s : State} {m : MethodId} {args : Array Value} {below : List Frame} {meth : Method} {c : Code} {H : Heap} {locs : List Loc} {cells slots : Nat} {Q : State → Prop} {cc : ByteArray} {nL pc index : Nat} {ls : Array Slot} {rest : List Value} {own : String} {D : va_G} {cI cZ cQ : ClassId} {a_this a_letters a_draft a_folk a_reader a_strength a_present a_history a_images a_kept a_planner a_gambler a_guesser a_guesser_load a_guesser_over a_guesser_borne a_folk_bank a_folk_kind a_folk_word a_folk_slow a_folk_told : Nat} {z_typed z_guesser_seen z_guesser_least z_guesser_greatest z_folk_planks z_folk_size z_folk_sworn p1 : Int32} {z_traced : Int64} {fu : Nat} {r : Int32} (hx : p.tables.exec = Jvm.exec) (hb : c.code = cc) (hml : c.maxLocals = nL) (hown : s.vm.findClass own = some m.cls) (hts : ∀ w ∈ TB, w.before args s = true) (hKW : KW D (TY cI cZ cQ) s) (hlk : Cond.methodLink own index yX8_count ∈ TB) (hP : va_P D vwCl [(a_this, .inr (8, [.ref a_letters, .int z_typed, .ref a_draft, .ref a_folk, .ref a_reader, .ref a_strength, .ref a_present, .ref a_history, .ref a_images, .ref a_kept, .ref a_planner, .ref a_gambler, .ref a_guesser, .long z_traced])), (a_guesser, .inr (2, [.ref a_folk, .ref a_strength, .ref a_present, .ref a_guesser_load, .ref a_guesser_over, .int z_guesser_seen, .ref a_guesser_borne, .int z_guesser_least, .int z_guesser_greatest])), (a_folk, .inr (0, [.int z_folk_planks, .int z_folk_size, .int z_folk_sworn, .ref a_folk_bank, .ref a_folk_kind, .ref a_folk_word, .ref a_folk_slow, .ref a_folk_told]))] H) (hf : fX8_count fu z_typed z_guesser_seen z_folk_size z_folk_planks p1 = some (r)) (hn : ls.size = nL) (hW : (rest.map fun v => v.category).sum ≤ 8) (hR : 0 + 1 ≤ R.frames ∧ 8 + (2 + 11) + 0 ≤ R.locals) (hcs : cells ≤ R.cells ∧ slots ≤ R.slots) (hdg : decode cc pc = .ok (.invokevirtual index, 3)) (kk : W p l e R s m args below meth c H locs cells slots Q (F0 m (pc + 3) ls (.int r :: rest))) : W p l e R s m args below meth c H locs cells slots Q (F0 m pc ls (.int p1 :: .ref a_this :: rest)) :=
  x_ret (va_runV (As := [.int p1]) (rest := rest) ⟨hx, hb, hml, hown, hts⟩ (tX8_count hf) (cwV 1 hts (tb_V hlk q884 q885 q39 q886) rfl rfl rfl (by decide +kernel) hR) ⟨roB, va_recv hKW.1 hP (ci := 8) (q0 := 0) rfl rfl, fun U hU hW => ⟨rfl, by rw [hU]; exact hP, hKW.warm hW⟩⟩ rfl rfl hn rfl (lv_room hW) hdg hcs) kk

-- HalfPlanks.trace()J
def fX8_trace (fu : Nat) (z_traced : Int64) : Option (Int64) :=
  some (z_traced)
set_option maxHeartbeats 4000000 in
set_option maxRecDepth 100000 in
theorem tX8_trace {l : Launch} {D : va_G} {cI cZ cQ : ClassId} {a_this a_letters a_draft a_folk a_reader a_strength a_present a_history a_images a_kept a_planner a_gambler a_guesser : Nat} {z_typed : Int32} {z_traced : Int64} {fu : Nat} {r : Int64} (hf : fX8_trace fu z_traced = some (r)) : Met l yX8_trace (.code yX8_trace cX8_trace 1 (some .long) :: TB) ({ frames := 0, cells := 0, slots := 0, locals := 0 } : Room) (roP D (TY cI cZ cQ) [(a_this, .inr (8, [.ref a_letters, .int z_typed, .ref a_draft, .ref a_folk, .ref a_reader, .ref a_strength, .ref a_present, .ref a_history, .ref a_images, .ref a_kept, .ref a_planner, .ref a_gambler, .ref a_guesser, .long z_traced]))] [.ref a_this]) (roQ (some (.long r))) 0 0 (fun _ => False) := by
  refine Met.ofW (cc := cX8_trace) (maxL := 1) (ret := (some .long)) (by decide) rfl ?_
  intro p e s m args below meth c s₁ B hml hv
  obtain ⟨rfl, hP, hKW⟩ := hv
  have hx := B.exec
  have hb := B.bytes
  have hr := B.returns
  have hts : ∀ w ∈ TB, w.before ([.ref a_this] : List Value).toArray s = true := fun w h => atoms_spec (ws := .code yX8_trace cX8_trace 1 (some .long) :: TB) B.pre w (List.mem_cons_of_mem _ h)
  have hown : s.vm.findClass RX8 = some m.cls := findClass_of_methodNamed B.named
  have hlocks := B.notSynchronized
  have hK := hKW.1
  have hl := lv_entry [.ref a_this] (n := 1) (Nat.le_of_ble_eq_true rfl)
  rw [lg_entry_eq]
  generalize (lg_sl [.ref a_this] ++ List.replicate (1 - (lg_sl [.ref a_this]).length) Slot.unset).toArray = ls at hl ⊢
  have hl : lv_has ls 1 [(0, .ref a_this)] := hl
  show W p l e ({ frames := 0, cells := 0, slots := 0, locals := 0 } : Room) s m ([.ref a_this] : List Value).toArray below meth c s.heap [] 0 0 (MQ below (roQ (some (.long r))) ([.ref a_this] : List Value).toArray s 0 0 (fun _ => False)) (F0 m 0 ls [])
  unfold fX8_trace at hf
  refine lv_aload_n hx hb dX8_trace_0 rfl (lv_at hl 0 rfl) ?_
  refine va_get (D := D) (ci := 8) (v := .long z_traced) (C := RX8) (T := TX8) (N := 14) hx hb hts inTX8 hown hK hP 0 rfl rfl 13 (by decide) (hts _ q300) (fun _ h9 => h9) rfl dX8_trace_1 ?_
  cases hf
  exact W.lret hx hb hr (fun t ht _ => ⟨rfl, ht⟩) (fun q h => by cases h) dX8_trace_4
theorem kX8_trace {p : Program} {l : Launch} {e : Env} {R : Room} {s : State} {m : MethodId} {args : Array Value} {below : List Frame} {meth : Method} {c : Code} {H : Heap} {locs : List Loc} {cells slots : Nat} {Q : State → Prop} {cc : ByteArray} {nL pc index : Nat} {ls : Array Slot} {rest : List Value} {own : String} {D : va_G} {cI cZ cQ : ClassId} {a_this a_letters a_draft a_folk a_reader a_strength a_present a_history a_images a_kept a_planner a_gambler a_guesser : Nat} {z_typed : Int32} {z_traced : Int64} {fu : Nat} {r : Int64} (hx : p.tables.exec = Jvm.exec) (hb : c.code = cc) (hml : c.maxLocals = nL) (hown : s.vm.findClass own = some m.cls) (hts : ∀ w ∈ TB, w.before args s = true) (hKW : KW D (TY cI cZ cQ) s) (hlk : Cond.methodLink own index yX8_trace ∈ TB) (hP : va_P D vwCl [(a_this, .inr (8, [.ref a_letters, .int z_typed, .ref a_draft, .ref a_folk, .ref a_reader, .ref a_strength, .ref a_present, .ref a_history, .ref a_images, .ref a_kept, .ref a_planner, .ref a_gambler, .ref a_guesser, .long z_traced]))] H) (hf : fX8_trace fu z_traced = some (r)) (hn : ls.size = nL) (hW : (rest.map fun v => v.category).sum ≤ 8) (hR : 0 + 1 ≤ R.frames ∧ 8 + (1 + 11) + 0 ≤ R.locals) (hcs : cells ≤ R.cells ∧ slots ≤ R.slots) (hdg : decode cc pc = .ok (.invokevirtual index, 3)) (kk : W p l e R s m args below meth c H locs cells slots Q (F0 m (pc + 3) ls (.long r :: rest))) : W p l e R s m args below meth c H locs cells slots Q (F0 m pc ls (.ref a_this :: rest)) :=
  x_ret (va_runV (As := []) (rest := rest) ⟨hx, hb, hml, hown, hts⟩ (tX8_trace hf) (cwV 0 hts (tb_V hlk q888 q889 q39 q890) rfl rfl rfl (by decide +kernel) hR) ⟨roB, va_recv hKW.1 hP (ci := 8) (q0 := 0) rfl rfl, fun U hU hW => ⟨rfl, by rw [hU]; exact hP, hKW.warm hW⟩⟩ rfl rfl hn rfl (lv_room hW) hdg hcs) kk
