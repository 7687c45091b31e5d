-- HalfPlanks$Planner.bearsBehind(II)Z
set_option maxHeartbeats 4000000 in
set_option maxRecDepth 100000 in
theorem tX4_bearsBehind {l : Launch} {D : va_G} {cI cZ cQ : ClassId} {a_this a_folk a_strength a_present a_folk_bank a_folk_kind a_folk_word a_folk_slow a_folk_told a_present_came a_present_under a_present_due a_strength_borne : Nat} {z_folk_planks z_folk_size z_folk_sworn z_present_day z_present_crossed p1 p2 : Int32} {z_present_came z_present_under z_present_due z_strength_borne : Nat → Int32} {fu : Nat} {r : Int32} (hf : fX4_bearsBehind fu z_folk_planks z_present_day z_present_came z_present_under z_present_due z_strength_borne p1 p2 = some (r)) : Met l yX4_bearsBehind (.code yX4_bearsBehind cX4_bearsBehind 4 (some .boolean) :: TB) ({ frames := 2, cells := 0, slots := 0, locals := 45 } : Room) (roP D (TY cI cZ cQ) [(a_this, .inr (4, [.ref a_folk, .ref a_strength, .ref a_present])), (a_folk, .inr (0, [.int z_folk_planks, .int z_folk_size, .int z_folk_sworn, .ref a_folk_bank, .ref a_folk_kind, .ref a_folk_word, .ref a_folk_slow, .ref a_folk_told])), (a_present, .inr (5, [.int z_present_day, .int z_present_crossed, .ref a_present_came, .ref a_present_under, .ref a_present_due])), (a_present_came, .inl (cI, 8, .inl z_present_came)), (a_present_under, .inl (cI, 8, .inl z_present_under)), (a_present_due, .inl (cI, 64, .inl z_present_due)), (a_strength, .inr (7, [.ref a_folk, .ref a_strength_borne])), (a_strength_borne, .inl (cI, 512, .inl z_strength_borne))] [.ref a_this, .int p1, .int p2]) (roQ (some (.int r))) 0 0 (fun _ => False) := by
  refine Met.ofW (cc := cX4_bearsBehind) (maxL := 4) (ret := (some .boolean)) (by decide) rfl ?_
  intro p e s m args below meth c s₁ B hml hv
  obtain ⟨rfl, hP, hKW⟩ := hv
  have hx := B.exec
  have hb := B.bytes
  have hr := B.returns
  have hts : ∀ w ∈ TB, w.before ([.ref a_this, .int p1, .int p2] : List Value).toArray s = true := fun w h => atoms_spec (ws := .code yX4_bearsBehind cX4_bearsBehind 4 (some .boolean) :: TB) B.pre w (List.mem_cons_of_mem _ h)
  have hown : s.vm.findClass RX4 = some m.cls := findClass_of_methodNamed B.named
  have hlocks := B.notSynchronized
  have hK := hKW.1
  have hl := lv_entry [.ref a_this, .int p1, .int p2] (n := 4) (Nat.le_of_ble_eq_true rfl)
  rw [lg_entry_eq]
  generalize (lg_sl [.ref a_this, .int p1, .int p2] ++ List.replicate (4 - (lg_sl [.ref a_this, .int p1, .int p2]).length) Slot.unset).toArray = ls at hl ⊢
  have hl : lv_has ls 4 [(0, .ref a_this), (1, .int p1), (2, .int p2)] := hl
  show W p l e ({ frames := 2, cells := 0, slots := 0, locals := 45 } : Room) s m ([.ref a_this, .int p1, .int p2] : List Value).toArray below meth c s.heap [] 0 0 (MQ below (roQ (some (.int r))) ([.ref a_this, .int p1, .int p2] : List Value).toArray s 0 0 (fun _ => False)) (F0 m 0 ls [])
  have hB2 : ∀ (n2 : Nat) (l1 : Int32) (l2 : Int32) (l3 : Int32) (ls : Array Slot), lv_has ls 4 [(0, .ref a_this), (1, .int l1), (2, .int l2), (3, .int l3)] → fX4_bearsBehind_b2 fu z_folk_planks z_present_day z_present_came z_present_under z_present_due z_strength_borne n2 l1 l2 l3 = some (r) → W p l e ({ frames := 2, cells := 0, slots := 0, locals := 45 } : Room) s m ([.ref a_this, .int p1, .int p2] : List Value).toArray below meth c s.heap [] 0 0 (MQ below (roQ (some (.int r))) ([.ref a_this, .int p1, .int p2] : List Value).toArray s 0 0 (fun _ => False)) (F0 m 2 ls []) := by
    intro n2
    induction n2 with
    | zero => intro l1 l2 l3 ls hl hf; exact nn hf
    | succ n2 ih2 =>
      intro l1 l2 l3 ls hl hf
      replace hf : fX4_bearsBehind_b2_body fu z_folk_planks z_present_day z_present_came z_present_under z_present_due z_strength_borne (fX4_bearsBehind_b2 fu z_folk_planks z_present_day z_present_came z_present_under z_present_due z_strength_borne n2) l1 l2 l3 = some (r) := hf
      unfold fX4_bearsBehind_b2_body at hf
      refine lv_iload_n hx hb dX4_bearsBehind_2 rfl (lv_at hl 3 rfl) ?_
      refine lv_aload_n hx hb dX4_bearsBehind_3 rfl (lv_at hl 0 rfl) ?_
      refine va_get (D := D) (ci := 4) (v := .ref a_folk) (C := RX4) (T := TX4) (N := 3) hx hb hts inTX4 hown hK hP 0 rfl rfl 0 (by decide) (hts _ q220) (fun _ h9 => h9) rfl dX4_bearsBehind_4 ?_
      refine va_get (D := D) (ci := 0) (v := .int z_folk_planks) (C := RX0) (T := TX0) (N := 8) hx hb hts inTX0 hown hK hP 1 rfl rfl 0 (by decide) (hts _ q72) (fun _ h9 => h9) rfl dX4_bearsBehind_7 ?_
      refine lv_icmp_ge (tgt := 50) hx hb dX4_bearsBehind_10 (by decide) (fun c1 => ?_) (fun c1 => ?_)
      · replace hf := it hf c1
        refine lv_iconst (v := 1) hx hb dX4_bearsBehind_50 (by decide) ?_
        cases hf
        exact W.zret hx hb hr rfl (fun t ht _ => ⟨rfl, ht⟩) (fun q h => by cases h) dX4_bearsBehind_51
      · replace hf := ie hf c1
        refine lv_aload_n hx hb dX4_bearsBehind_13 rfl (lv_at hl 0 rfl) ?_
        refine va_get (D := D) (ci := 4) (v := .ref a_strength) (C := RX4) (T := TX4) (N := 3) hx hb hts inTX4 hown hK hP 0 rfl rfl 1 (by decide) (hts _ q221) (fun _ h9 => h9) rfl dX4_bearsBehind_14 ?_
        refine lv_iload_n hx hb dX4_bearsBehind_17 rfl (lv_at hl 3 rfl) ?_
        refine lv_aload_n hx hb dX4_bearsBehind_18 rfl (lv_at hl 0 rfl) ?_
        refine va_get (D := D) (ci := 4) (v := .ref a_present) (C := RX4) (T := TX4) (N := 3) hx hb hts inTX4 hown hK hP 0 rfl rfl 2 (by decide) (hts _ q222) (fun _ h9 => h9) rfl dX4_bearsBehind_19 ?_
        refine lv_iload_n hx hb dX4_bearsBehind_22 rfl (lv_at hl 3 rfl) ?_
        refine lv_aload_n hx hb dX4_bearsBehind_23 rfl (lv_at hl 0 rfl) ?_
        refine va_get (D := D) (ci := 4) (v := .ref a_present) (C := RX4) (T := TX4) (N := 3) hx hb hts inTX4 hown hK hP 0 rfl rfl 2 (by decide) (hts _ q222) (fun _ h9 => h9) rfl dX4_bearsBehind_24 ?_
        refine va_get (D := D) (ci := 5) (v := .int z_present_day) (C := RX5) (T := TX5) (N := 5) hx hb hts inTX5 hown hK hP 2 rfl rfl 0 (by decide) (hts _ q169) (fun _ h9 => h9) rfl dX4_bearsBehind_27 ?_
        refine lv_iload_n hx hb dX4_bearsBehind_30 rfl (lv_at hl 1 rfl) ?_
        refine lv_iadd hx hb dX4_bearsBehind_31 ?_
        obtain ⟨v2, hv2, hf⟩ := ob hf
        refine kX5_cameBy hx hb hml hown hts hKW q657 (hP.sub [2, 3, 4, 5] rfl) hv2 hl.1 (Nat.le_of_ble_eq_true rfl) ⟨Nat.le_of_ble_eq_true rfl, Nat.le_of_ble_eq_true rfl⟩ ⟨Nat.zero_le _, Nat.zero_le _⟩ dX4_bearsBehind_32 ?_
        obtain ⟨v3, hv3, hf⟩ := ob hf
        refine kX7_of hx hb hml hown hts hKW q658 (hP.sub [6, 7] rfl) hv3 hl.1 (Nat.le_of_ble_eq_true rfl) ⟨Nat.le_of_ble_eq_true rfl, Nat.le_of_ble_eq_true rfl⟩ ⟨Nat.zero_le _, Nat.zero_le _⟩ dX4_bearsBehind_35 ?_
        refine lv_iload_n hx hb dX4_bearsBehind_38 rfl (lv_at hl 2 rfl) ?_
        refine lv_icmp_ge (tgt := 44) hx hb dX4_bearsBehind_39 (by decide) (fun c4 => ?_) (fun c4 => ?_)
        · replace hf := it hf c4
          refine lv_iinc (v := (l3 + 1)) (lv' := [(3, .int (l3 + 1)), (0, .ref a_this), (1, .int l1), (2, .int l2)]) hx hb dX4_bearsBehind_44 hl (k := 3) rfl rfl (by decide) rfl (fun ls hl => ?_)
          refine lv_goto (tgt := 2) hx hb dX4_bearsBehind_47 (by decide) ?_
          exact ih2 l1 l2 (l3 + 1) ls (lv_sub hl [1, 2, 3, 0] rfl) hf
        · replace hf := ie hf c4
          refine lv_iconst (v := 0) hx hb dX4_bearsBehind_42 (by decide) ?_
          cases hf
          exact W.zret hx hb hr rfl (fun t ht _ => ⟨rfl, ht⟩) (fun q h => by cases h) dX4_bearsBehind_43
  unfold fX4_bearsBehind at hf
  refine lv_iconst (v := 0) hx hb dX4_bearsBehind_0 (by decide) ?_
  refine lv_istore_n (lv' := [(3, .int 0), (0, .ref a_this), (1, .int p1), (2, .int p2)]) hx hb dX4_bearsBehind_1 rfl hl (by decide) rfl (fun ls hl => ?_)
  exact hB2 fu p1 p2 0 ls (lv_sub hl [1, 2, 3, 0] rfl) hf
theorem kX4_bearsBehind {p : Program} {l : Launch} {e : Env} {R : Room} {s : State} {m : MethodId} {args : Array Value} {below : List Frame} {meth : Method} {c : Code} {H : Heap} {locs : List Loc} {cells slots : Nat} {Q : State → Prop} {cc : ByteArray} {nL pc index : Nat} {ls : Array Slot} {rest : List Value} {own : String} {D : va_G} {cI cZ cQ : ClassId} {a_this a_folk a_strength a_present a_folk_bank a_folk_kind a_folk_word a_folk_slow a_folk_told a_present_came a_present_under a_present_due a_strength_borne : Nat} {z_folk_planks z_folk_size z_folk_sworn z_present_day z_present_crossed p1 p2 : Int32} {z_present_came z_present_under z_present_due z_strength_borne : Nat → Int32} {fu : Nat} {r : Int32} (hx : p.tables.exec = Jvm.exec) (hb : c.code = cc) (hml : c.maxLocals = nL) (hown : s.vm.findClass own = some m.cls) (hts : ∀ w ∈ TB, w.before args s = true) (hKW : KW D (TY cI cZ cQ) s) (hlk : Cond.methodLink own index yX4_bearsBehind ∈ TB) (hP : va_P D vwCl [(a_this, .inr (4, [.ref a_folk, .ref a_strength, .ref a_present])), (a_folk, .inr (0, [.int z_folk_planks, .int z_folk_size, .int z_folk_sworn, .ref a_folk_bank, .ref a_folk_kind, .ref a_folk_word, .ref a_folk_slow, .ref a_folk_told])), (a_present, .inr (5, [.int z_present_day, .int z_present_crossed, .ref a_present_came, .ref a_present_under, .ref a_present_due])), (a_present_came, .inl (cI, 8, .inl z_present_came)), (a_present_under, .inl (cI, 8, .inl z_present_under)), (a_present_due, .inl (cI, 64, .inl z_present_due)), (a_strength, .inr (7, [.ref a_folk, .ref a_strength_borne])), (a_strength_borne, .inl (cI, 512, .inl z_strength_borne))] H) (hf : fX4_bearsBehind fu z_folk_planks z_present_day z_present_came z_present_under z_present_due z_strength_borne p1 p2 = some (r)) (hn : ls.size = nL) (hW : (rest.map fun v => v.category).sum ≤ 8) (hR : 2 + 1 ≤ R.frames ∧ 8 + (4 + 11) + 45 ≤ R.locals) (hcs : cells ≤ R.cells ∧ slots ≤ R.slots) (hdg : decode cc pc = .ok (.invokevirtual index, 3)) (kk : W p l e R s m args below meth c H locs cells slots Q (F0 m (pc + 3) ls (.int r :: rest))) : W p l e R s m args below meth c H locs cells slots Q (F0 m pc ls (.int p2 :: .int p1 :: .ref a_this :: rest)) :=
  x_ret (va_runV (As := [.int p1, .int p2]) (rest := rest) ⟨hx, hb, hml, hown, hts⟩ (tX4_bearsBehind hf) (cwV 2 hts (tb_V hlk q654 q655 q45 q656) rfl rfl rfl (by decide +kernel) hR) ⟨roB, va_recv hKW.1 hP (ci := 4) (q0 := 0) rfl rfl, fun U hU hW => ⟨rfl, by rw [hU]; exact hP, hKW.warm hW⟩⟩ rfl rfl hn rfl (lv_room hW) hdg hcs) kk

-- HalfPlanks$Planner.firstBorne(I)I
set_option maxHeartbeats 4000000 in
set_option maxRecDepth 100000 in
theorem tX4_firstBorne {l : Launch} {D : va_G} {cI cZ cQ : ClassId} {a_this a_folk a_strength a_present a_folk_bank a_folk_kind a_folk_word a_folk_slow a_folk_told a_present_came a_present_under a_present_due a_strength_borne : Nat} {z_folk_planks z_folk_size z_folk_sworn z_present_day z_present_crossed p1 : Int32} {z_present_came z_present_under z_present_due z_strength_borne : Nat → Int32} {fu : Nat} {r : Int32} (hf : fX4_firstBorne fu z_folk_planks z_present_day z_present_came z_present_under z_present_due z_strength_borne p1 = some (r)) : Met l yX4_firstBorne (.code yX4_firstBorne cX4_firstBorne 3 (some .int) :: TB) ({ frames := 3, cells := 0, slots := 0, locals := 68 } : Room) (roP D (TY cI cZ cQ) [(a_this, .inr (4, [.ref a_folk, .ref a_strength, .ref a_present])), (a_folk, .inr (0, [.int z_folk_planks, .int z_folk_size, .int z_folk_sworn, .ref a_folk_bank, .ref a_folk_kind, .ref a_folk_word, .ref a_folk_slow, .ref a_folk_told])), (a_present, .inr (5, [.int z_present_day, .int z_present_crossed, .ref a_present_came, .ref a_present_under, .ref a_present_due])), (a_present_came, .inl (cI, 8, .inl z_present_came)), (a_present_under, .inl (cI, 8, .inl z_present_under)), (a_present_due, .inl (cI, 64, .inl z_present_due)), (a_strength, .inr (7, [.ref a_folk, .ref a_strength_borne])), (a_strength_borne, .inl (cI, 512, .inl z_strength_borne))] [.ref a_this, .int p1]) (roQ (some (.int r))) 0 0 (fun _ => False) := by
  refine Met.ofW (cc := cX4_firstBorne) (maxL := 3) (ret := (some .int)) (by decide) rfl ?_
  intro p e s m args below meth c s₁ B hml hv
  obtain ⟨rfl, hP, hKW⟩ := hv
  have hx := B.exec
  have hb := B.bytes
  have hr := B.returns
  have hts : ∀ w ∈ TB, w.before ([.ref a_this, .int p1] : List Value).toArray s = true := fun w h => atoms_spec (ws := .code yX4_firstBorne cX4_firstBorne 3 (some .int) :: TB) B.pre w (List.mem_cons_of_mem _ h)
  have hown : s.vm.findClass RX4 = some m.cls := findClass_of_methodNamed B.named
  have hlocks := B.notSynchronized
  have hK := hKW.1
  have hl := lv_entry [.ref a_this, .int p1] (n := 3) (Nat.le_of_ble_eq_true rfl)
  rw [lg_entry_eq]
  generalize (lg_sl [.ref a_this, .int p1] ++ List.replicate (3 - (lg_sl [.ref a_this, .int p1]).length) Slot.unset).toArray = ls at hl ⊢
  have hl : lv_has ls 3 [(0, .ref a_this), (1, .int p1)] := hl
  show W p l e ({ frames := 3, cells := 0, slots := 0, locals := 68 } : Room) s m ([.ref a_this, .int p1] : List Value).toArray below meth c s.heap [] 0 0 (MQ below (roQ (some (.int r))) ([.ref a_this, .int p1] : List Value).toArray s 0 0 (fun _ => False)) (F0 m 0 ls [])
  have hB2 : ∀ (n2 : Nat) (l1 : Int32) (l2 : Int32) (ls : Array Slot), lv_has ls 3 [(0, .ref a_this), (1, .int l1), (2, .int l2)] → fX4_firstBorne_b2 fu z_folk_planks z_present_day z_present_came z_present_under z_present_due z_strength_borne n2 l1 l2 = some (r) → W p l e ({ frames := 3, cells := 0, slots := 0, locals := 68 } : Room) s m ([.ref a_this, .int p1] : List Value).toArray below meth c s.heap [] 0 0 (MQ below (roQ (some (.int r))) ([.ref a_this, .int p1] : List Value).toArray s 0 0 (fun _ => False)) (F0 m 2 ls []) := by
    intro n2
    induction n2 with
    | zero => intro l1 l2 ls hl hf; exact nn hf
    | succ n2 ih2 =>
      intro l1 l2 ls hl hf
      replace hf : fX4_firstBorne_b2_body fu z_folk_planks z_present_day z_present_came z_present_under z_present_due z_strength_borne (fX4_firstBorne_b2 fu z_folk_planks z_present_day z_present_came z_present_under z_present_due z_strength_borne n2) l1 l2 = some (r) := hf
      unfold fX4_firstBorne_b2_body at hf
      refine lv_iload_n hx hb dX4_firstBorne_2 rfl (lv_at hl 2 rfl) ?_
      refine lv_bipush (v := 20) hx hb dX4_firstBorne_3 (by decide) ?_
      refine lv_icmp_gt (tgt := 25) hx hb dX4_firstBorne_5 (by decide) (fun c1 => ?_) (fun c1 => ?_)
      · replace hf := it hf c1
        refine lv_bipush (v := -9) hx hb dX4_firstBorne_25 (by decide) ?_
        cases hf
        exact W.iret hx hb hr (fun t ht _ => ⟨rfl, ht⟩) (fun q h => by cases h) dX4_firstBorne_27
      · replace hf := ie hf c1
        refine lv_aload_n hx hb dX4_firstBorne_8 rfl (lv_at hl 0 rfl) ?_
        refine lv_iload_n hx hb dX4_firstBorne_9 rfl (lv_at hl 2 rfl) ?_
        refine lv_iload_n hx hb dX4_firstBorne_10 rfl (lv_at hl 1 rfl) ?_
        obtain ⟨v2, hv2, hf⟩ := ob hf
        refine kX4_bearsBehind hx hb hml hown hts hKW q653 (hP.sub [0, 1, 2, 3, 4, 5, 6, 7] rfl) hv2 hl.1 (Nat.le_of_ble_eq_true rfl) ⟨Nat.le_of_ble_eq_true rfl, Nat.le_of_ble_eq_true rfl⟩ ⟨Nat.zero_le _, Nat.zero_le _⟩ dX4_firstBorne_11 ?_
        refine lv_if_eq (tgt := 19) hx hb dX4_firstBorne_14 (by decide) (fun c3 => ?_) (fun c3 => ?_)
        · replace hf := it hf c3
          refine lv_iinc (v := (l2 + 1)) (lv' := [(2, .int (l2 + 1)), (0, .ref a_this), (1, .int l1)]) hx hb dX4_firstBorne_19 hl (k := 2) rfl rfl (by decide) rfl (fun ls hl => ?_)
          refine lv_goto (tgt := 2) hx hb dX4_firstBorne_22 (by decide) ?_
          exact ih2 l1 (l2 + 1) ls (lv_sub hl [1, 2, 0] rfl) hf
        · replace hf := ie hf c3
          refine lv_iload_n hx hb dX4_firstBorne_17 rfl (lv_at hl 2 rfl) ?_
          cases hf
          exact W.iret hx hb hr (fun t ht _ => ⟨rfl, ht⟩) (fun q h => by cases h) dX4_firstBorne_18
  unfold fX4_firstBorne at hf
  refine lv_iconst (v := 0) hx hb dX4_firstBorne_0 (by decide) ?_
  refine lv_istore_n (lv' := [(2, .int 0), (0, .ref a_this), (1, .int p1)]) hx hb dX4_firstBorne_1 rfl hl (by decide) rfl (fun ls hl => ?_)
  exact hB2 fu p1 0 ls (lv_sub hl [1, 2, 0] rfl) hf
theorem kX4_firstBorne {p : Program} {l : Launch} {e : Env} {R : Room} {s : State} {m : MethodId} {args : Array Value} {below : List Frame} {meth : Method} {c : Code} {H : Heap} {locs : List Loc} {cells slots : Nat} {Q : State → Prop} {cc : ByteArray} {nL pc index : Nat} {ls : Array Slot} {rest : List Value} {own : String} {D : va_G} {cI cZ cQ : ClassId} {a_this a_folk a_strength a_present a_folk_bank a_folk_kind a_folk_word a_folk_slow a_folk_told a_present_came a_present_under a_present_due a_strength_borne : Nat} {z_folk_planks z_folk_size z_folk_sworn z_present_day z_present_crossed p1 : Int32} {z_present_came z_present_under z_present_due z_strength_borne : Nat → Int32} {fu : Nat} {r : Int32} (hx : p.tables.exec = Jvm.exec) (hb : c.code = cc) (hml : c.maxLocals = nL) (hown : s.vm.findClass own = some m.cls) (hts : ∀ w ∈ TB, w.before args s = true) (hKW : KW D (TY cI cZ cQ) s) (hlk : Cond.methodLink own index yX4_firstBorne ∈ TB) (hP : va_P D vwCl [(a_this, .inr (4, [.ref a_folk, .ref a_strength, .ref a_present])), (a_folk, .inr (0, [.int z_folk_planks, .int z_folk_size, .int z_folk_sworn, .ref a_folk_bank, .ref a_folk_kind, .ref a_folk_word, .ref a_folk_slow, .ref a_folk_told])), (a_present, .inr (5, [.int z_present_day, .int z_present_crossed, .ref a_present_came, .ref a_present_under, .ref a_present_due])), (a_present_came, .inl (cI, 8, .inl z_present_came)), (a_present_under, .inl (cI, 8, .inl z_present_under)), (a_present_due, .inl (cI, 64, .inl z_present_due)), (a_strength, .inr (7, [.ref a_folk, .ref a_strength_borne])), (a_strength_borne, .inl (cI, 512, .inl z_strength_borne))] H) (hf : fX4_firstBorne fu z_folk_planks z_present_day z_present_came z_present_under z_present_due z_strength_borne p1 = some (r)) (hn : ls.size = nL) (hW : (rest.map fun v => v.category).sum ≤ 8) (hR : 3 + 1 ≤ R.frames ∧ 8 + (3 + 11) + 68 ≤ R.locals) (hcs : cells ≤ R.cells ∧ slots ≤ R.slots) (hdg : decode cc pc = .ok (.invokevirtual index, 3)) (kk : W p l e R s m args below meth c H locs cells slots Q (F0 m (pc + 3) ls (.int r :: rest))) : W p l e R s m args below meth c H locs cells slots Q (F0 m pc ls (.int p1 :: .ref a_this :: rest)) :=
  x_ret (va_runV (As := [.int p1]) (rest := rest) ⟨hx, hb, hml, hown, hts⟩ (tX4_firstBorne hf) (cwV 1 hts (tb_V hlk q650 q651 q45 q652) rfl rfl rfl (by decide +kernel) hR) ⟨roB, va_recv hKW.1 hP (ci := 4) (q0 := 0) rfl rfl, fun U hU hW => ⟨rfl, by rw [hU]; exact hP, hKW.warm hW⟩⟩ rfl rfl hn rfl (lv_room hW) hdg hcs) kk

-- HalfPlanks$Planner.fewestAdded(IIII)I
set_option maxHeartbeats 4000000 in
set_option maxRecDepth 100000 in
theorem tX4_fewestAdded {l : Launch} {D : va_G} {cI cZ cQ : ClassId} {a_this a_folk a_strength a_present a_strength_borne a_folk_bank a_folk_kind a_folk_word a_folk_slow a_folk_told : Nat} {z_folk_planks z_folk_size z_folk_sworn p1 p2 p3 p4 : Int32} {z_strength_borne : Nat → Int32} {fu : Nat} {r : Int32} (hf : fX4_fewestAdded fu z_strength_borne z_folk_size p1 p2 p3 p4 = some (r)) : Met l yX4_fewestAdded (.code yX4_fewestAdded cX4_fewestAdded 9 (some .int) :: TB) ({ frames := 1, cells := 0, slots := 0, locals := 22 } : Room) (roP D (TY cI cZ cQ) [(a_this, .inr (4, [.ref a_folk, .ref a_strength, .ref a_present])), (a_strength, .inr (7, [.ref a_folk, .ref a_strength_borne])), (a_strength_borne, .inl (cI, 512, .inl z_strength_borne)), (a_folk, .inr (0, [.int z_folk_planks, .int z_folk_size, .int z_folk_sworn, .ref a_folk_bank, .ref a_folk_kind, .ref a_folk_word, .ref a_folk_slow, .ref a_folk_told]))] [.ref a_this, .int p1, .int p2, .int p3, .int p4]) (roQ (some (.int r))) 0 0 (fun _ => False) := by
  refine Met.ofW (cc := cX4_fewestAdded) (maxL := 9) (ret := (some .int)) (by decide) rfl ?_
  intro p e s m args below meth c s₁ B hml hv
  obtain ⟨rfl, hP, hKW⟩ := hv
  have hx := B.exec
  have hb := B.bytes
  have hr := B.returns
  have hts : ∀ w ∈ TB, w.before ([.ref a_this, .int p1, .int p2, .int p3, .int p4] : List Value).toArray s = true := fun w h => atoms_spec (ws := .code yX4_fewestAdded cX4_fewestAdded 9 (some .int) :: TB) B.pre w (List.mem_cons_of_mem _ h)
  have hown : s.vm.findClass RX4 = some m.cls := findClass_of_methodNamed B.named
  have hlocks := B.notSynchronized
  have hK := hKW.1
  have hl := lv_entry [.ref a_this, .int p1, .int p2, .int p3, .int p4] (n := 9) (Nat.le_of_ble_eq_true rfl)
  rw [lg_entry_eq]
  generalize (lg_sl [.ref a_this, .int p1, .int p2, .int p3, .int p4] ++ List.replicate (9 - (lg_sl [.ref a_this, .int p1, .int p2, .int p3, .int p4]).length) Slot.unset).toArray = ls at hl ⊢
  have hl : lv_has ls 9 [(0, .ref a_this), (1, .int p1), (2, .int p2), (3, .int p3), (4, .int p4)] := hl
  show W p l e ({ frames := 1, cells := 0, slots := 0, locals := 22 } : Room) s m ([.ref a_this, .int p1, .int p2, .int p3, .int p4] : List Value).toArray below meth c s.heap [] 0 0 (MQ below (roQ (some (.int r))) ([.ref a_this, .int p1, .int p2, .int p3, .int p4] : List Value).toArray s 0 0 (fun _ => False)) (F0 m 0 ls [])
  have hB22 : ∀ (n22 : Nat) (l1 : Int32) (l2 : Int32) (l3 : Int32) (l4 : Int32) (l5 : Int32) (l6 : Int32) (ls : Array Slot), lv_has ls 9 [(0, .ref a_this), (1, .int l1), (2, .int l2), (3, .int l3), (4, .int l4), (5, .int l5), (6, .int l6)] → fX4_fewestAdded_b22 fu z_strength_borne z_folk_size n22 l1 l2 l3 l4 l5 l6 = some (r) → W p l e ({ frames := 1, cells := 0, slots := 0, locals := 22 } : Room) s m ([.ref a_this, .int p1, .int p2, .int p3, .int p4] : List Value).toArray below meth c s.heap [] 0 0 (MQ below (roQ (some (.int r))) ([.ref a_this, .int p1, .int p2, .int p3, .int p4] : List Value).toArray s 0 0 (fun _ => False)) (F0 m 22 ls []) := by
    intro n22
    induction n22 with
    | zero => intro l1 l2 l3 l4 l5 l6 ls hl hf; exact nn hf
    | succ n22 ih22 =>
      have hB77 : ∀ (n77 : Nat) (l1 : Int32) (l2 : Int32) (l3 : Int32) (l4 : Int32) (l5 : Int32) (l6 : Int32) (l7 : Int32) (l8 : Int32) (ls : Array Slot), lv_has ls 9 [(0, .ref a_this), (1, .int l1), (2, .int l2), (3, .int l3), (4, .int l4), (5, .int l5), (6, .int l6), (7, .int l7), (8, .int l8)] → fX4_fewestAdded_b77 fu z_strength_borne z_folk_size (fX4_fewestAdded_b22 fu z_strength_borne z_folk_size n22) n77 l1 l2 l3 l4 l5 l6 l7 l8 = some (r) → W p l e ({ frames := 1, cells := 0, slots := 0, locals := 22 } : Room) s m ([.ref a_this, .int p1, .int p2, .int p3, .int p4] : List Value).toArray below meth c s.heap [] 0 0 (MQ below (roQ (some (.int r))) ([.ref a_this, .int p1, .int p2, .int p3, .int p4] : List Value).toArray s 0 0 (fun _ => False)) (F0 m 77 ls []) := by
        intro n77
        induction n77 with
        | zero => intro l1 l2 l3 l4 l5 l6 l7 l8 ls hl hf; exact nn hf
        | succ n77 ih77 =>
          intro l1 l2 l3 l4 l5 l6 l7 l8 ls hl hf
          replace hf : fX4_fewestAdded_b77_body fu z_strength_borne z_folk_size (fX4_fewestAdded_b22 fu z_strength_borne z_folk_size n22) (fX4_fewestAdded_b77 fu z_strength_borne z_folk_size (fX4_fewestAdded_b22 fu z_strength_borne z_folk_size n22) n77) l1 l2 l3 l4 l5 l6 l7 l8 = some (r) := hf
          unfold fX4_fewestAdded_b77_body at hf
          refine lv_iload hx hb dX4_fewestAdded_77 (lv_at hl 8 rfl) ?_
          refine lv_aload_n hx hb dX4_fewestAdded_79 rfl (lv_at hl 0 rfl) ?_
          refine va_get (D := D) (ci := 4) (v := .ref a_folk) (C := RX4) (T := TX4) (N := 3) hx hb hts inTX4 hown hK hP 0 rfl rfl 0 (by decide) (hts _ q220) (fun _ h9 => h9) rfl dX4_fewestAdded_80 ?_
          refine va_get (D := D) (ci := 0) (v := .int z_folk_size) (C := RX0) (T := TX0) (N := 8) hx hb hts inTX0 hown hK hP 3 rfl rfl 1 (by decide) (hts _ q83) (fun _ h9 => h9) rfl dX4_fewestAdded_83 ?_
          refine lv_icmp_ge (tgt := 134) hx hb dX4_fewestAdded_86 (by decide) (fun c8 => ?_) (fun c8 => ?_)
          · replace hf := it hf c8
            refine lv_iinc (v := (l6 + 1)) (lv' := [(6, .int (l6 + 1)), (0, .ref a_this), (1, .int l1), (2, .int l2), (3, .int l3), (4, .int l4), (5, .int l5), (7, .int l7), (8, .int l8)]) hx hb dX4_fewestAdded_134 hl (k := 6) rfl rfl (by decide) rfl (fun ls hl => ?_)
            refine lv_goto (tgt := 22) hx hb dX4_fewestAdded_137 (by decide) ?_
            exact ih22 l1 l2 l3 l4 l5 (l6 + 1) ls (lv_sub hl [1, 2, 3, 4, 5, 6, 0] rfl) hf
          · replace hf := ie hf c8
            refine lv_iload hx hb dX4_fewestAdded_89 (lv_at hl 5 rfl) ?_
            refine lv_bipush (v := -9) hx hb dX4_fewestAdded_91 (by decide) ?_
            refine lv_icmp_ne (tgt := 134) hx hb dX4_fewestAdded_93 (by decide) (fun c9 => ?_) (fun c9 => ?_)
            · replace hf := ie hf c9
              refine lv_iinc (v := (l6 + 1)) (lv' := [(6, .int (l6 + 1)), (0, .ref a_this), (1, .int l1), (2, .int l2), (3, .int l3), (4, .int l4), (5, .int l5), (7, .int l7), (8, .int l8)]) hx hb dX4_fewestAdded_134 hl (k := 6) rfl rfl (by decide) rfl (fun ls hl => ?_)
              refine lv_goto (tgt := 22) hx hb dX4_fewestAdded_137 (by decide) ?_
              exact ih22 l1 l2 l3 l4 l5 (l6 + 1) ls (lv_sub hl [1, 2, 3, 4, 5, 6, 0] rfl) hf
            · replace hf := it hf c9
              refine lv_iload hx hb dX4_fewestAdded_96 (lv_at hl 4 rfl) ?_
              refine lv_iload hx hb dX4_fewestAdded_98 (lv_at hl 8 rfl) ?_
              obtain ⟨v10, hv10, hf⟩ := ob hf
              refine knX8_has hx hb hml hown hts hKW (hKW.2 ("HalfPlanks$Planner", 68, yX8_has, "HalfPlanks") (by decide +kernel))  hv10 hl.1 (Nat.le_of_ble_eq_true rfl) ⟨Nat.le_of_ble_eq_true rfl, Nat.le_of_ble_eq_true rfl⟩ ⟨Nat.zero_le _, Nat.zero_le _⟩ dX4_fewestAdded_100 ?_
              refine lv_if_eq (tgt := 128) hx hb dX4_fewestAdded_103 (by decide) (fun c11 => ?_) (fun c11 => ?_)
              · replace hf := it hf c11
                refine lv_iinc (v := (l8 + 1)) (lv' := [(8, .int (l8 + 1)), (0, .ref a_this), (1, .int l1), (2, .int l2), (3, .int l3), (4, .int l4), (5, .int l5), (6, .int l6), (7, .int l7)]) hx hb dX4_fewestAdded_128 hl (k := 8) rfl rfl (by decide) rfl (fun ls hl => ?_)
                refine lv_goto (tgt := 77) hx hb dX4_fewestAdded_131 (by decide) ?_
                exact ih77 l1 l2 l3 l4 l5 l6 l7 (l8 + 1) ls (lv_sub hl [1, 2, 3, 4, 5, 6, 7, 8, 0] rfl) hf
              · replace hf := ie hf c11
                refine lv_aload_n hx hb dX4_fewestAdded_106 rfl (lv_at hl 0 rfl) ?_
                refine va_get (D := D) (ci := 4) (v := .ref a_strength) (C := RX4) (T := TX4) (N := 3) hx hb hts inTX4 hown hK hP 0 rfl rfl 1 (by decide) (hts _ q221) (fun _ h9 => h9) rfl dX4_fewestAdded_107 ?_
                refine lv_iload_n hx hb dX4_fewestAdded_110 rfl (lv_at hl 2 rfl) ?_
                refine lv_iload hx hb dX4_fewestAdded_111 (lv_at hl 7 rfl) ?_
                refine lv_iconst (v := 1) hx hb dX4_fewestAdded_113 (by decide) ?_
                refine lv_iload hx hb dX4_fewestAdded_114 (lv_at hl 8 rfl) ?_
                refine lv_ishl hx hb dX4_fewestAdded_116 ?_
                refine lv_ior hx hb dX4_fewestAdded_117 ?_
                obtain ⟨v12, hv12, hf⟩ := ob hf
                refine kX7_of hx hb hml hown hts hKW q658 (hP.sub [1, 2] rfl) hv12 hl.1 (Nat.le_of_ble_eq_true rfl) ⟨Nat.le_of_ble_eq_true rfl, Nat.le_of_ble_eq_true rfl⟩ ⟨Nat.zero_le _, Nat.zero_le _⟩ dX4_fewestAdded_118 ?_
                refine lv_iload_n hx hb dX4_fewestAdded_121 rfl (lv_at hl 1 rfl) ?_
                refine lv_icmp_lt (tgt := 128) hx hb dX4_fewestAdded_122 (by decide) (fun c13 => ?_) (fun c13 => ?_)
                · replace hf := it hf c13
                  refine lv_iinc (v := (l8 + 1)) (lv' := [(8, .int (l8 + 1)), (0, .ref a_this), (1, .int l1), (2, .int l2), (3, .int l3), (4, .int l4), (5, .int l5), (6, .int l6), (7, .int l7)]) hx hb dX4_fewestAdded_128 hl (k := 8) rfl rfl (by decide) rfl (fun ls hl => ?_)
                  refine lv_goto (tgt := 77) hx hb dX4_fewestAdded_131 (by decide) ?_
                  exact ih77 l1 l2 l3 l4 l5 l6 l7 (l8 + 1) ls (lv_sub hl [1, 2, 3, 4, 5, 6, 7, 8, 0] rfl) hf
                · replace hf := ie hf c13
                  refine lv_iconst (v := 2) hx hb dX4_fewestAdded_125 (by decide) ?_
                  refine lv_istore (lv' := [(5, .int 2), (0, .ref a_this), (1, .int l1), (2, .int l2), (3, .int l3), (4, .int l4), (6, .int l6), (7, .int l7), (8, .int l8)]) hx hb dX4_fewestAdded_126 hl (by decide) rfl (fun ls hl => ?_)
                  refine lv_iinc (v := (l8 + 1)) (lv' := [(8, .int (l8 + 1)), (5, .int 2), (0, .ref a_this), (1, .int l1), (2, .int l2), (3, .int l3), (4, .int l4), (6, .int l6), (7, .int l7)]) hx hb dX4_fewestAdded_128 hl (k := 8) rfl rfl (by decide) rfl (fun ls hl => ?_)
                  refine lv_goto (tgt := 77) hx hb dX4_fewestAdded_131 (by decide) ?_
                  exact ih77 l1 l2 l3 l4 2 l6 l7 (l8 + 1) ls (lv_sub hl [2, 3, 4, 5, 6, 1, 7, 8, 0] rfl) hf
      intro l1 l2 l3 l4 l5 l6 ls hl hf
      replace hf : fX4_fewestAdded_b22_body fu z_strength_borne z_folk_size (fX4_fewestAdded_b22 fu z_strength_borne z_folk_size n22) l1 l2 l3 l4 l5 l6 = some (r) := hf
      unfold fX4_fewestAdded_b22_body at hf
      refine lv_iload hx hb dX4_fewestAdded_22 (lv_at hl 6 rfl) ?_
      refine lv_aload_n hx hb dX4_fewestAdded_24 rfl (lv_at hl 0 rfl) ?_
      refine va_get (D := D) (ci := 4) (v := .ref a_folk) (C := RX4) (T := TX4) (N := 3) hx hb hts inTX4 hown hK hP 0 rfl rfl 0 (by decide) (hts _ q220) (fun _ h9 => h9) rfl dX4_fewestAdded_25 ?_
      refine va_get (D := D) (ci := 0) (v := .int z_folk_size) (C := RX0) (T := TX0) (N := 8) hx hb hts inTX0 hown hK hP 3 rfl rfl 1 (by decide) (hts _ q83) (fun _ h9 => h9) rfl dX4_fewestAdded_28 ?_
      refine lv_icmp_ge (tgt := 140) hx hb dX4_fewestAdded_31 (by decide) (fun c3 => ?_) (fun c3 => ?_)
      · replace hf := it hf c3
        refine lv_iload hx hb dX4_fewestAdded_140 (lv_at hl 5 rfl) ?_
        cases hf
        exact W.iret hx hb hr (fun t ht _ => ⟨rfl, ht⟩) (fun q h => by cases h) dX4_fewestAdded_142
      · replace hf := ie hf c3
        refine lv_iload hx hb dX4_fewestAdded_34 (lv_at hl 4 rfl) ?_
        refine lv_iload hx hb dX4_fewestAdded_36 (lv_at hl 6 rfl) ?_
        obtain ⟨v4, hv4, hf⟩ := ob hf
        refine knX8_has hx hb hml hown hts hKW (hKW.2 ("HalfPlanks$Planner", 68, yX8_has, "HalfPlanks") (by decide +kernel))  hv4 hl.1 (Nat.le_of_ble_eq_true rfl) ⟨Nat.le_of_ble_eq_true rfl, Nat.le_of_ble_eq_true rfl⟩ ⟨Nat.zero_le _, Nat.zero_le _⟩ dX4_fewestAdded_38 ?_
        refine lv_if_ne (tgt := 47) hx hb dX4_fewestAdded_41 (by decide) (fun c5 => ?_) (fun c5 => ?_)
        · replace hf := ie hf c5
          refine lv_iload_n hx hb dX4_fewestAdded_47 rfl (lv_at hl 3 rfl) ?_
          refine lv_iconst (v := 1) hx hb dX4_fewestAdded_48 (by decide) ?_
          refine lv_iload hx hb dX4_fewestAdded_49 (lv_at hl 6 rfl) ?_
          refine lv_ishl hx hb dX4_fewestAdded_51 ?_
          refine lv_ior hx hb dX4_fewestAdded_52 ?_
          refine lv_istore (lv' := [(7, .int (l3 ||| ((1 : Int32) <<< (l6 &&& 31)))), (0, .ref a_this), (1, .int l1), (2, .int l2), (3, .int l3), (4, .int l4), (5, .int l5), (6, .int l6)]) hx hb dX4_fewestAdded_53 hl (by decide) rfl (fun ls hl => ?_)
          refine lv_aload_n hx hb dX4_fewestAdded_55 rfl (lv_at hl 1 rfl) ?_
          refine va_get (D := D) (ci := 4) (v := .ref a_strength) (C := RX4) (T := TX4) (N := 3) hx hb hts inTX4 hown hK hP 0 rfl rfl 1 (by decide) (hts _ q221) (fun _ h9 => h9) rfl dX4_fewestAdded_56 ?_
          refine lv_iload_n hx hb dX4_fewestAdded_59 rfl (lv_at hl 3 rfl) ?_
          refine lv_iload hx hb dX4_fewestAdded_60 (lv_at hl 0 rfl) ?_
          obtain ⟨v6, hv6, hf⟩ := ob hf
          refine kX7_of hx hb hml hown hts hKW q658 (hP.sub [1, 2] rfl) hv6 hl.1 (Nat.le_of_ble_eq_true rfl) ⟨Nat.le_of_ble_eq_true rfl, Nat.le_of_ble_eq_true rfl⟩ ⟨Nat.zero_le _, Nat.zero_le _⟩ dX4_fewestAdded_62 ?_
          refine lv_iload_n hx hb dX4_fewestAdded_65 rfl (lv_at hl 2 rfl) ?_
          refine lv_icmp_lt (tgt := 71) hx hb dX4_fewestAdded_66 (by decide) (fun c7 => ?_) (fun c7 => ?_)
          · replace hf := it hf c7
            refine lv_iload hx hb dX4_fewestAdded_71 (lv_at hl 7 rfl) ?_
            refine lv_iconst (v := 1) hx hb dX4_fewestAdded_73 (by decide) ?_
            refine lv_iadd hx hb dX4_fewestAdded_74 ?_
            refine lv_istore (lv' := [(8, .int (l6 + 1)), (7, .int (l3 ||| ((1 : Int32) <<< (l6 &&& 31)))), (0, .ref a_this), (1, .int l1), (2, .int l2), (3, .int l3), (4, .int l4), (5, .int l5), (6, .int l6)]) hx hb dX4_fewestAdded_75 hl (by decide) rfl (fun ls hl => ?_)
            exact hB77 fu l1 l2 l3 l4 l5 l6 (l3 ||| ((1 : Int32) <<< (l6 &&& 31))) (l6 + 1) ls (lv_sub hl [2, 3, 4, 5, 6, 7, 8, 1, 0] rfl) hf
          · replace hf := ie hf c7
            refine lv_iconst (v := 1) hx hb dX4_fewestAdded_69 (by decide) ?_
            cases hf
            exact W.iret hx hb hr (fun t ht _ => ⟨rfl, ht⟩) (fun q h => by cases h) dX4_fewestAdded_70
        · replace hf := it hf c5
          refine lv_goto (tgt := 134) hx hb dX4_fewestAdded_44 (by decide) ?_
          refine lv_iinc (v := (l6 + 1)) (lv' := [(6, .int (l6 + 1)), (0, .ref a_this), (1, .int l1), (2, .int l2), (3, .int l3), (4, .int l4), (5, .int l5)]) hx hb dX4_fewestAdded_134 hl (k := 6) rfl rfl (by decide) rfl (fun ls hl => ?_)
          refine lv_goto (tgt := 22) hx hb dX4_fewestAdded_137 (by decide) ?_
          exact ih22 l1 l2 l3 l4 l5 (l6 + 1) ls (lv_sub hl [1, 2, 3, 4, 5, 6, 0] rfl) hf
  unfold fX4_fewestAdded at hf
  refine lv_aload_n hx hb dX4_fewestAdded_0 rfl (lv_at hl 0 rfl) ?_
  refine va_get (D := D) (ci := 4) (v := .ref a_strength) (C := RX4) (T := TX4) (N := 3) hx hb hts inTX4 hown hK hP 0 rfl rfl 1 (by decide) (hts _ q221) (fun _ h9 => h9) rfl dX4_fewestAdded_1 ?_
  refine lv_iload_n hx hb dX4_fewestAdded_4 rfl (lv_at hl 2 rfl) ?_
  refine lv_iload_n hx hb dX4_fewestAdded_5 rfl (lv_at hl 3 rfl) ?_
  obtain ⟨v1, hv1, hf⟩ := ob hf
  refine kX7_of hx hb hml hown hts hKW q658 (hP.sub [1, 2] rfl) hv1 hl.1 (Nat.le_of_ble_eq_true rfl) ⟨Nat.le_of_ble_eq_true rfl, Nat.le_of_ble_eq_true rfl⟩ ⟨Nat.zero_le _, Nat.zero_le _⟩ dX4_fewestAdded_6 ?_
  refine lv_iload_n hx hb dX4_fewestAdded_9 rfl (lv_at hl 1 rfl) ?_
  refine lv_icmp_lt (tgt := 15) hx hb dX4_fewestAdded_10 (by decide) (fun c2 => ?_) (fun c2 => ?_)
  · replace hf := it hf c2
    refine lv_bipush (v := -9) hx hb dX4_fewestAdded_15 (by decide) ?_
    refine lv_istore (lv' := [(5, .int (-9)), (0, .ref a_this), (1, .int p1), (2, .int p2), (3, .int p3), (4, .int p4)]) hx hb dX4_fewestAdded_17 hl (by decide) rfl (fun ls hl => ?_)
    refine lv_iconst (v := 0) hx hb dX4_fewestAdded_19 (by decide) ?_
    refine lv_istore (lv' := [(6, .int 0), (5, .int (-9)), (0, .ref a_this), (1, .int p1), (2, .int p2), (3, .int p3), (4, .int p4)]) hx hb dX4_fewestAdded_20 hl (by decide) rfl (fun ls hl => ?_)
    exact hB22 fu p1 p2 p3 p4 (-9) 0 ls (lv_sub hl [2, 3, 4, 5, 6, 1, 0] rfl) hf
  · replace hf := ie hf c2
    refine lv_iconst (v := 0) hx hb dX4_fewestAdded_13 (by decide) ?_
    cases hf
    exact W.iret hx hb hr (fun t ht _ => ⟨rfl, ht⟩) (fun q h => by cases h) dX4_fewestAdded_14
theorem kX4_fewestAdded {p : Program} {l : Launch} {e : Env} {R : Room} {s : State} {m : MethodId} {args : Array Value} {below : List Frame} {meth : Method} {c : Code} {H : Heap} {locs : List Loc} {cells slots : Nat} {Q : State → Prop} {cc : ByteArray} {nL pc index : Nat} {ls : Array Slot} {rest : List Value} {own : String} {D : va_G} {cI cZ cQ : ClassId} {a_this a_folk a_strength a_present a_strength_borne a_folk_bank a_folk_kind a_folk_word a_folk_slow a_folk_told : Nat} {z_folk_planks z_folk_size z_folk_sworn p1 p2 p3 p4 : Int32} {z_strength_borne : Nat → Int32} {fu : Nat} {r : Int32} (hx : p.tables.exec = Jvm.exec) (hb : c.code = cc) (hml : c.maxLocals = nL) (hown : s.vm.findClass own = some m.cls) (hts : ∀ w ∈ TB, w.before args s = true) (hKW : KW D (TY cI cZ cQ) s) (hlk : Cond.methodLink own index yX4_fewestAdded ∈ TB) (hP : va_P D vwCl [(a_this, .inr (4, [.ref a_folk, .ref a_strength, .ref a_present])), (a_strength, .inr (7, [.ref a_folk, .ref a_strength_borne])), (a_strength_borne, .inl (cI, 512, .inl z_strength_borne)), (a_folk, .inr (0, [.int z_folk_planks, .int z_folk_size, .int z_folk_sworn, .ref a_folk_bank, .ref a_folk_kind, .ref a_folk_word, .ref a_folk_slow, .ref a_folk_told]))] H) (hf : fX4_fewestAdded fu z_strength_borne z_folk_size p1 p2 p3 p4 = some (r)) (hn : ls.size = nL) (hW : (rest.map fun v => v.category).sum ≤ 8) (hR : 1 + 1 ≤ R.frames ∧ 8 + (9 + 11) + 22 ≤ R.locals) (hcs : cells ≤ R.cells ∧ slots ≤ R.slots) (hdg : decode cc pc = .ok (.invokevirtual index, 3)) (kk : W p l e R s m args below meth c H locs cells slots Q (F0 m (pc + 3) ls (.int r :: rest))) : W p l e R s m args below meth c H locs cells slots Q (F0 m pc ls (.int p4 :: .int p3 :: .int p2 :: .int p1 :: .ref a_this :: rest)) :=
  x_ret (va_runV (As := [.int p1, .int p2, .int p3, .int p4]) (rest := rest) ⟨hx, hb, hml, hown, hts⟩ (tX4_fewestAdded hf) (cwV 4 hts (tb_V hlk q673 q674 q45 q675) rfl rfl rfl (by decide +kernel) hR) ⟨roB, va_recv hKW.1 hP (ci := 4) (q0 := 0) rfl rfl, fun U hU hW => ⟨rfl, by rw [hU]; exact hP, hKW.warm hW⟩⟩ rfl rfl hn rfl (lv_room hW) hdg hcs) kk

-- HalfPlanks$Planner.moreFor(II)I
set_option maxHeartbeats 4000000 in
set_option maxRecDepth 100000 in
theorem tX4_moreFor {l : Launch} {D : va_G} {cI cZ cQ : ClassId} {a_this a_folk a_strength a_present a_present_came a_present_under a_present_due a_folk_bank a_folk_kind a_folk_word a_folk_slow a_folk_told a_strength_borne : Nat} {z_present_day z_present_crossed z_folk_planks z_folk_size z_folk_sworn p1 p2 : Int32} {z_present_came z_present_under z_strength_borne : Nat → Int32} {fu : Nat} {r : Int32} (hf : fX4_moreFor fu z_present_came z_present_under z_folk_size z_strength_borne p1 p2 = some (r)) : Met l yX4_moreFor (.code yX4_moreFor cX4_moreFor 4 (some .int) :: TB) ({ frames := 2, cells := 0, slots := 0, locals := 50 } : Room) (roP D (TY cI cZ cQ) [(a_this, .inr (4, [.ref a_folk, .ref a_strength, .ref a_present])), (a_present, .inr (5, [.int z_present_day, .int z_present_crossed, .ref a_present_came, .ref a_present_under, .ref a_present_due])), (a_present_came, .inl (cI, 8, .inl z_present_came)), (a_present_under, .inl (cI, 8, .inl z_present_under)), (a_folk, .inr (0, [.int z_folk_planks, .int z_folk_size, .int z_folk_sworn, .ref a_folk_bank, .ref a_folk_kind, .ref a_folk_word, .ref a_folk_slow, .ref a_folk_told])), (a_strength, .inr (7, [.ref a_folk, .ref a_strength_borne])), (a_strength_borne, .inl (cI, 512, .inl z_strength_borne))] [.ref a_this, .int p1, .int p2]) (roQ (some (.int r))) 0 0 (fun _ => False) := by
  refine Met.ofW (cc := cX4_moreFor) (maxL := 4) (ret := (some .int)) (by decide) rfl ?_
  intro p e s m args below meth c s₁ B hml hv
  obtain ⟨rfl, hP, hKW⟩ := hv
  have hx := B.exec
  have hb := B.bytes
  have hr := B.returns
  have hts : ∀ w ∈ TB, w.before ([.ref a_this, .int p1, .int p2] : List Value).toArray s = true := fun w h => atoms_spec (ws := .code yX4_moreFor cX4_moreFor 4 (some .int) :: TB) B.pre w (List.mem_cons_of_mem _ h)
  have hown : s.vm.findClass RX4 = some m.cls := findClass_of_methodNamed B.named
  have hlocks := B.notSynchronized
  have hK := hKW.1
  have hl := lv_entry [.ref a_this, .int p1, .int p2] (n := 4) (Nat.le_of_ble_eq_true rfl)
  rw [lg_entry_eq]
  generalize (lg_sl [.ref a_this, .int p1, .int p2] ++ List.replicate (4 - (lg_sl [.ref a_this, .int p1, .int p2]).length) Slot.unset).toArray = ls at hl ⊢
  have hl : lv_has ls 4 [(0, .ref a_this), (1, .int p1), (2, .int p2)] := hl
  show W p l e ({ frames := 2, cells := 0, slots := 0, locals := 50 } : Room) s m ([.ref a_this, .int p1, .int p2] : List Value).toArray below meth c s.heap [] 0 0 (MQ below (roQ (some (.int r))) ([.ref a_this, .int p1, .int p2] : List Value).toArray s 0 0 (fun _ => False)) (F0 m 0 ls [])
  unfold fX4_moreFor at hf
  refine lv_aload_n hx hb dX4_moreFor_0 rfl (lv_at hl 0 rfl) ?_
  refine va_get (D := D) (ci := 4) (v := .ref a_present) (C := RX4) (T := TX4) (N := 3) hx hb hts inTX4 hown hK hP 0 rfl rfl 2 (by decide) (hts _ q222) (fun _ h9 => h9) rfl dX4_moreFor_1 ?_
  refine va_get (D := D) (ci := 5) (v := .ref a_present_came) (C := RX5) (T := TX5) (N := 5) hx hb hts inTX5 hown hK hP 1 rfl rfl 2 (by decide) (hts _ q175) (fun _ h9 => h9) rfl dX4_moreFor_4 ?_
  refine lv_iload_n hx hb dX4_moreFor_7 rfl (lv_at hl 2 rfl) ?_
  obtain ⟨v1, hv1, hf⟩ := ob hf
  refine x_iald hx hb hK hP 2 0 rfl rfl hv1 dX4_moreFor_8 ?_
  refine lv_aload_n hx hb dX4_moreFor_9 rfl (lv_at hl 0 rfl) ?_
  refine va_get (D := D) (ci := 4) (v := .ref a_present) (C := RX4) (T := TX4) (N := 3) hx hb hts inTX4 hown hK hP 0 rfl rfl 2 (by decide) (hts _ q222) (fun _ h9 => h9) rfl dX4_moreFor_10 ?_
  refine va_get (D := D) (ci := 5) (v := .ref a_present_under) (C := RX5) (T := TX5) (N := 5) hx hb hts inTX5 hown hK hP 1 rfl rfl 3 (by decide) (hts _ q180) (fun _ h9 => h9) rfl dX4_moreFor_13 ?_
  refine lv_iload_n hx hb dX4_moreFor_16 rfl (lv_at hl 2 rfl) ?_
  obtain ⟨v2, hv2, hf⟩ := ob hf
  refine x_iald hx hb hK hP 3 0 rfl rfl hv2 dX4_moreFor_17 ?_
  refine lv_ior hx hb dX4_moreFor_18 ?_
  refine lv_istore_n (lv' := [(3, .int (v1 ||| v2)), (0, .ref a_this), (1, .int p1), (2, .int p2)]) hx hb dX4_moreFor_19 rfl hl (by decide) rfl (fun ls hl => ?_)
  refine lv_aload_n hx hb dX4_moreFor_20 rfl (lv_at hl 1 rfl) ?_
  refine lv_iload_n hx hb dX4_moreFor_21 rfl (lv_at hl 2 rfl) ?_
  refine lv_iload_n hx hb dX4_moreFor_22 rfl (lv_at hl 3 rfl) ?_
  refine lv_iload_n hx hb dX4_moreFor_23 rfl (lv_at hl 0 rfl) ?_
  refine lv_aload_n hx hb dX4_moreFor_24 rfl (lv_at hl 1 rfl) ?_
  refine va_get (D := D) (ci := 4) (v := .ref a_folk) (C := RX4) (T := TX4) (N := 3) hx hb hts inTX4 hown hK hP 0 rfl rfl 0 (by decide) (hts _ q220) (fun _ h9 => h9) rfl dX4_moreFor_25 ?_
  obtain ⟨v3, hv3, hf⟩ := ob hf
  refine kX0_everyone hx hb hml hown hts hKW q671 (hP.sub [4] rfl) hv3 hl.1 (Nat.le_of_ble_eq_true rfl) ⟨Nat.le_of_ble_eq_true rfl, Nat.le_of_ble_eq_true rfl⟩ ⟨Nat.zero_le _, Nat.zero_le _⟩ dX4_moreFor_28 ?_
  refine lv_iload_n hx hb dX4_moreFor_31 rfl (lv_at hl 0 rfl) ?_
  refine lv_iconst (v := -1) hx hb dX4_moreFor_32 (by decide) ?_
  refine lv_ixor hx hb dX4_moreFor_33 ?_
  refine lv_iand hx hb dX4_moreFor_34 ?_
  obtain ⟨v4, hv4, hf⟩ := ob hf
  refine kX4_fewestAdded hx hb hml hown hts hKW q672 (hP.sub [0, 5, 6, 4] rfl) hv4 hl.1 (Nat.le_of_ble_eq_true rfl) ⟨Nat.le_of_ble_eq_true rfl, Nat.le_of_ble_eq_true rfl⟩ ⟨Nat.zero_le _, Nat.zero_le _⟩ dX4_moreFor_35 ?_
  cases hf
  exact W.iret hx hb hr (fun t ht _ => ⟨rfl, ht⟩) (fun q h => by cases h) dX4_moreFor_38
theorem kX4_moreFor {p : Program} {l : Launch} {e : Env} {R : Room} {s : State} {m : MethodId} {args : Array Value} {below : List Frame} {meth : Method} {c : Code} {H : Heap} {locs : List Loc} {cells slots : Nat} {Q : State → Prop} {cc : ByteArray} {nL pc index : Nat} {ls : Array Slot} {rest : List Value} {own : String} {D : va_G} {cI cZ cQ : ClassId} {a_this a_folk a_strength a_present a_present_came a_present_under a_present_due a_folk_bank a_folk_kind a_folk_word a_folk_slow a_folk_told a_strength_borne : Nat} {z_present_day z_present_crossed z_folk_planks z_folk_size z_folk_sworn p1 p2 : Int32} {z_present_came z_present_under z_strength_borne : Nat → Int32} {fu : Nat} {r : Int32} (hx : p.tables.exec = Jvm.exec) (hb : c.code = cc) (hml : c.maxLocals = nL) (hown : s.vm.findClass own = some m.cls) (hts : ∀ w ∈ TB, w.before args s = true) (hKW : KW D (TY cI cZ cQ) s) (hlk : Cond.methodLink own index yX4_moreFor ∈ TB) (hP : va_P D vwCl [(a_this, .inr (4, [.ref a_folk, .ref a_strength, .ref a_present])), (a_present, .inr (5, [.int z_present_day, .int z_present_crossed, .ref a_present_came, .ref a_present_under, .ref a_present_due])), (a_present_came, .inl (cI, 8, .inl z_present_came)), (a_present_under, .inl (cI, 8, .inl z_present_under)), (a_folk, .inr (0, [.int z_folk_planks, .int z_folk_size, .int z_folk_sworn, .ref a_folk_bank, .ref a_folk_kind, .ref a_folk_word, .ref a_folk_slow, .ref a_folk_told])), (a_strength, .inr (7, [.ref a_folk, .ref a_strength_borne])), (a_strength_borne, .inl (cI, 512, .inl z_strength_borne))] H) (hf : fX4_moreFor fu z_present_came z_present_under z_folk_size z_strength_borne p1 p2 = some (r)) (hn : ls.size = nL) (hW : (rest.map fun v => v.category).sum ≤ 8) (hR : 2 + 1 ≤ R.frames ∧ 8 + (4 + 11) + 50 ≤ R.locals) (hcs : cells ≤ R.cells ∧ slots ≤ R.slots) (hdg : decode cc pc = .ok (.invokevirtual index, 3)) (kk : W p l e R s m args below meth c H locs cells slots Q (F0 m (pc + 3) ls (.int r :: rest))) : W p l e R s m args below meth c H locs cells slots Q (F0 m pc ls (.int p2 :: .int p1 :: .ref a_this :: rest)) :=
  x_ret (va_runV (As := [.int p1, .int p2]) (rest := rest) ⟨hx, hb, hml, hown, hts⟩ (tX4_moreFor hf) (cwV 2 hts (tb_V hlk q668 q669 q45 q670) rfl rfl rfl (by decide +kernel) hR) ⟨roB, va_recv hKW.1 hP (ci := 4) (q0 := 0) rfl rfl, fun U hU hW => ⟨rfl, by rw [hU]; exact hP, hKW.warm hW⟩⟩ rfl rfl hn rfl (lv_room hW) hdg hcs) kk

-- HalfPlanks$Planner.moreForAll(I)I
set_option maxHeartbeats 4000000 in
set_option maxRecDepth 100000 in
theorem tX4_moreForAll {l : Launch} {D : va_G} {cI cZ cQ : ClassId} {a_this a_folk a_strength a_present a_folk_bank a_folk_kind a_folk_word a_folk_slow a_folk_told a_present_came a_present_under a_present_due a_strength_borne : Nat} {z_folk_planks z_folk_size z_folk_sworn z_present_day z_present_crossed p1 : Int32} {z_present_came z_present_under z_strength_borne : Nat → Int32} {fu : Nat} {r : Int32} (hf : fX4_moreForAll fu z_folk_planks z_present_came z_present_under z_folk_size z_strength_borne p1 = some (r)) : Met l yX4_moreForAll (.code yX4_moreForAll cX4_moreForAll 5 (some .int) :: TB) ({ frames := 3, cells := 0, slots := 0, locals := 73 } : Room) (roP D (TY cI cZ cQ) [(a_this, .inr (4, [.ref a_folk, .ref a_strength, .ref a_present])), (a_folk, .inr (0, [.int z_folk_planks, .int z_folk_size, .int z_folk_sworn, .ref a_folk_bank, .ref a_folk_kind, .ref a_folk_word, .ref a_folk_slow, .ref a_folk_told])), (a_present, .inr (5, [.int z_present_day, .int z_present_crossed, .ref a_present_came, .ref a_present_under, .ref a_present_due])), (a_present_came, .inl (cI, 8, .inl z_present_came)), (a_present_under, .inl (cI, 8, .inl z_present_under)), (a_strength, .inr (7, [.ref a_folk, .ref a_strength_borne])), (a_strength_borne, .inl (cI, 512, .inl z_strength_borne))] [.ref a_this, .int p1]) (roQ (some (.int r))) 0 0 (fun _ => False) := by
  refine Met.ofW (cc := cX4_moreForAll) (maxL := 5) (ret := (some .int)) (by decide) rfl ?_
  intro p e s m args below meth c s₁ B hml hv
  obtain ⟨rfl, hP, hKW⟩ := hv
  have hx := B.exec
  have hb := B.bytes
  have hr := B.returns
  have hts : ∀ w ∈ TB, w.before ([.ref a_this, .int p1] : List Value).toArray s = true := fun w h => atoms_spec (ws := .code yX4_moreForAll cX4_moreForAll 5 (some .int) :: TB) B.pre w (List.mem_cons_of_mem _ h)
  have hown : s.vm.findClass RX4 = some m.cls := findClass_of_methodNamed B.named
  have hlocks := B.notSynchronized
  have hK := hKW.1
  have hl := lv_entry [.ref a_this, .int p1] (n := 5) (Nat.le_of_ble_eq_true rfl)
  rw [lg_entry_eq]
  generalize (lg_sl [.ref a_this, .int p1] ++ List.replicate (5 - (lg_sl [.ref a_this, .int p1]).length) Slot.unset).toArray = ls at hl ⊢
  have hl : lv_has ls 5 [(0, .ref a_this), (1, .int p1)] := hl
  show W p l e ({ frames := 3, cells := 0, slots := 0, locals := 73 } : Room) s m ([.ref a_this, .int p1] : List Value).toArray below meth c s.heap [] 0 0 (MQ below (roQ (some (.int r))) ([.ref a_this, .int p1] : List Value).toArray s 0 0 (fun _ => False)) (F0 m 0 ls [])
  have hB4 : ∀ (n4 : Nat) (l1 : Int32) (l2 : Int32) (l3 : Int32) (ls : Array Slot), lv_has ls 5 [(0, .ref a_this), (1, .int l1), (2, .int l2), (3, .int l3)] → fX4_moreForAll_b4 fu z_folk_planks z_present_came z_present_under z_folk_size z_strength_borne n4 l1 l2 l3 = some (r) → W p l e ({ frames := 3, cells := 0, slots := 0, locals := 73 } : Room) s m ([.ref a_this, .int p1] : List Value).toArray below meth c s.heap [] 0 0 (MQ below (roQ (some (.int r))) ([.ref a_this, .int p1] : List Value).toArray s 0 0 (fun _ => False)) (F0 m 4 ls []) := by
    intro n4
    induction n4 with
    | zero => intro l1 l2 l3 ls hl hf; exact nn hf
    | succ n4 ih4 =>
      intro l1 l2 l3 ls hl hf
      replace hf : fX4_moreForAll_b4_body fu z_folk_planks z_present_came z_present_under z_folk_size z_strength_borne (fX4_moreForAll_b4 fu z_folk_planks z_present_came z_present_under z_folk_size z_strength_borne n4) l1 l2 l3 = some (r) := hf
      unfold fX4_moreForAll_b4_body at hf
      refine lv_iload_n hx hb dX4_moreForAll_4 rfl (lv_at hl 3 rfl) ?_
      refine lv_aload_n hx hb dX4_moreForAll_5 rfl (lv_at hl 0 rfl) ?_
      refine va_get (D := D) (ci := 4) (v := .ref a_folk) (C := RX4) (T := TX4) (N := 3) hx hb hts inTX4 hown hK hP 0 rfl rfl 0 (by decide) (hts _ q220) (fun _ h9 => h9) rfl dX4_moreForAll_6 ?_
      refine va_get (D := D) (ci := 0) (v := .int z_folk_planks) (C := RX0) (T := TX0) (N := 8) hx hb hts inTX0 hown hK hP 1 rfl rfl 0 (by decide) (hts _ q72) (fun _ h9 => h9) rfl dX4_moreForAll_9 ?_
      refine lv_icmp_ge (tgt := 44) hx hb dX4_moreForAll_12 (by decide) (fun c1 => ?_) (fun c1 => ?_)
      · replace hf := it hf c1
        refine lv_iload_n hx hb dX4_moreForAll_44 rfl (lv_at hl 2 rfl) ?_
        cases hf
        exact W.iret hx hb hr (fun t ht _ => ⟨rfl, ht⟩) (fun q h => by cases h) dX4_moreForAll_45
      · replace hf := ie hf c1
        refine lv_aload_n hx hb dX4_moreForAll_15 rfl (lv_at hl 0 rfl) ?_
        refine lv_iload_n hx hb dX4_moreForAll_16 rfl (lv_at hl 1 rfl) ?_
        refine lv_iload_n hx hb dX4_moreForAll_17 rfl (lv_at hl 3 rfl) ?_
        obtain ⟨v2, hv2, hf⟩ := ob hf
        refine kX4_moreFor hx hb hml hown hts hKW q667 (hP.sub [0, 2, 3, 4, 1, 5, 6] rfl) hv2 hl.1 (Nat.le_of_ble_eq_true rfl) ⟨Nat.le_of_ble_eq_true rfl, Nat.le_of_ble_eq_true rfl⟩ ⟨Nat.zero_le _, Nat.zero_le _⟩ dX4_moreForAll_18 ?_
        refine lv_istore (lv' := [(4, .int v2), (0, .ref a_this), (1, .int l1), (2, .int l2), (3, .int l3)]) hx hb dX4_moreForAll_21 hl (by decide) rfl (fun ls hl => ?_)
        refine lv_iload hx hb dX4_moreForAll_23 (lv_at hl 0 rfl) ?_
        refine lv_bipush (v := -9) hx hb dX4_moreForAll_25 (by decide) ?_
        refine lv_icmp_ne (tgt := 33) hx hb dX4_moreForAll_27 (by decide) (fun c3 => ?_) (fun c3 => ?_)
        · replace hf := ie hf c3
          refine lv_iload_n hx hb dX4_moreForAll_33 rfl (lv_at hl 3 rfl) ?_
          refine lv_iload hx hb dX4_moreForAll_34 (lv_at hl 0 rfl) ?_
          refine lv_iadd hx hb dX4_moreForAll_36 ?_
          refine lv_istore_n (lv' := [(2, .int (l2 + v2)), (4, .int v2), (0, .ref a_this), (1, .int l1), (3, .int l3)]) hx hb dX4_moreForAll_37 rfl hl (by decide) rfl (fun ls hl => ?_)
          refine lv_iinc (v := (l3 + 1)) (lv' := [(3, .int (l3 + 1)), (2, .int (l2 + v2)), (4, .int v2), (0, .ref a_this), (1, .int l1)]) hx hb dX4_moreForAll_38 hl (k := 4) rfl rfl (by decide) rfl (fun ls hl => ?_)
          refine lv_goto (tgt := 4) hx hb dX4_moreForAll_41 (by decide) ?_
          exact ih4 l1 (l2 + v2) (l3 + 1) ls (lv_sub hl [3, 4, 1, 0] rfl) hf
        · replace hf := it hf c3
          refine lv_bipush (v := -9) hx hb dX4_moreForAll_30 (by decide) ?_
          cases hf
          exact W.iret hx hb hr (fun t ht _ => ⟨rfl, ht⟩) (fun q h => by cases h) dX4_moreForAll_32
  unfold fX4_moreForAll at hf
  refine lv_iconst (v := 0) hx hb dX4_moreForAll_0 (by decide) ?_
  refine lv_istore_n (lv' := [(2, .int 0), (0, .ref a_this), (1, .int p1)]) hx hb dX4_moreForAll_1 rfl hl (by decide) rfl (fun ls hl => ?_)
  refine lv_iconst (v := 0) hx hb dX4_moreForAll_2 (by decide) ?_
  refine lv_istore_n (lv' := [(3, .int 0), (2, .int 0), (0, .ref a_this), (1, .int p1)]) hx hb dX4_moreForAll_3 rfl hl (by decide) rfl (fun ls hl => ?_)
  exact hB4 fu p1 0 0 ls (lv_sub hl [2, 3, 1, 0] rfl) hf
theorem kX4_moreForAll {p : Program} {l : Launch} {e : Env} {R : Room} {s : State} {m : MethodId} {args : Array Value} {below : List Frame} {meth : Method} {c : Code} {H : Heap} {locs : List Loc} {cells slots : Nat} {Q : State → Prop} {cc : ByteArray} {nL pc index : Nat} {ls : Array Slot} {rest : List Value} {own : String} {D : va_G} {cI cZ cQ : ClassId} {a_this a_folk a_strength a_present a_folk_bank a_folk_kind a_folk_word a_folk_slow a_folk_told a_present_came a_present_under a_present_due a_strength_borne : Nat} {z_folk_planks z_folk_size z_folk_sworn z_present_day z_present_crossed p1 : Int32} {z_present_came z_present_under z_strength_borne : Nat → Int32} {fu : Nat} {r : Int32} (hx : p.tables.exec = Jvm.exec) (hb : c.code = cc) (hml : c.maxLocals = nL) (hown : s.vm.findClass own = some m.cls) (hts : ∀ w ∈ TB, w.before args s = true) (hKW : KW D (TY cI cZ cQ) s) (hlk : Cond.methodLink own index yX4_moreForAll ∈ TB) (hP : va_P D vwCl [(a_this, .inr (4, [.ref a_folk, .ref a_strength, .ref a_present])), (a_folk, .inr (0, [.int z_folk_planks, .int z_folk_size, .int z_folk_sworn, .ref a_folk_bank, .ref a_folk_kind, .ref a_folk_word, .ref a_folk_slow, .ref a_folk_told])), (a_present, .inr (5, [.int z_present_day, .int z_present_crossed, .ref a_present_came, .ref a_present_under, .ref a_present_due])), (a_present_came, .inl (cI, 8, .inl z_present_came)), (a_present_under, .inl (cI, 8, .inl z_present_under)), (a_strength, .inr (7, [.ref a_folk, .ref a_strength_borne])), (a_strength_borne, .inl (cI, 512, .inl z_strength_borne))] H) (hf : fX4_moreForAll fu z_folk_planks z_present_came z_present_under z_folk_size z_strength_borne p1 = some (r)) (hn : ls.size = nL) (hW : (rest.map fun v => v.category).sum ≤ 8) (hR : 3 + 1 ≤ R.frames ∧ 8 + (5 + 11) + 73 ≤ R.locals) (hcs : cells ≤ R.cells ∧ slots ≤ R.slots) (hdg : decode cc pc = .ok (.invokevirtual index, 3)) (kk : W p l e R s m args below meth c H locs cells slots Q (F0 m (pc + 3) ls (.int r :: rest))) : W p l e R s m args below meth c H locs cells slots Q (F0 m pc ls (.int p1 :: .ref a_this :: rest)) :=
  x_ret (va_runV (As := [.int p1]) (rest := rest) ⟨hx, hb, hml, hown, hts⟩ (tX4_moreForAll hf) (cwV 1 hts (tb_V hlk q664 q665 q45 q666) rfl rfl rfl (by decide +kernel) hR) ⟨roB, va_recv hKW.1 hP (ci := 4) (q0 := 0) rfl rfl, fun U hU hW => ⟨rfl, by rw [hU]; exact hP, hKW.warm hW⟩⟩ rfl rfl hn rfl (lv_room hW) hdg hcs) kk

-- HalfPlanks$Planner.quickEnough(I)I
set_option maxHeartbeats 4000000 in
set_option maxRecDepth 100000 in
theorem tX4_quickEnough {l : Launch} {D : va_G} {cI cZ cQ : ClassId} {a_this a_folk a_strength a_present a_folk_bank a_folk_kind a_folk_word a_folk_slow a_folk_told : Nat} {z_folk_planks z_folk_size z_folk_sworn p1 : Int32} {z_folk_slow : Nat → Int32} {fu : Nat} {r : Int32} (hf : fX4_quickEnough fu z_folk_size z_folk_slow p1 = some (r)) : Met l yX4_quickEnough (.code yX4_quickEnough cX4_quickEnough 4 (some .int) :: TB) ({ frames := 0, cells := 0, slots := 0, locals := 0 } : Room) (roP D (TY cI cZ cQ) [(a_this, .inr (4, [.ref a_folk, .ref a_strength, .ref a_present])), (a_folk, .inr (0, [.int z_folk_planks, .int z_folk_size, .int z_folk_sworn, .ref a_folk_bank, .ref a_folk_kind, .ref a_folk_word, .ref a_folk_slow, .ref a_folk_told])), (a_folk_slow, .inl (cI, 8, .inl z_folk_slow))] [.ref a_this, .int p1]) (roQ (some (.int r))) 0 0 (fun _ => False) := by
  refine Met.ofW (cc := cX4_quickEnough) (maxL := 4) (ret := (some .int)) (by decide) rfl ?_
  intro p e s m args below meth c s₁ B hml hv
  obtain ⟨rfl, hP, hKW⟩ := hv
  have hx := B.exec
  have hb := B.bytes
  have hr := B.returns
  have hts : ∀ w ∈ TB, w.before ([.ref a_this, .int p1] : List Value).toArray s = true := fun w h => atoms_spec (ws := .code yX4_quickEnough cX4_quickEnough 4 (some .int) :: TB) B.pre w (List.mem_cons_of_mem _ h)
  have hown : s.vm.findClass RX4 = some m.cls := findClass_of_methodNamed B.named
  have hlocks := B.notSynchronized
  have hK := hKW.1
  have hl := lv_entry [.ref a_this, .int p1] (n := 4) (Nat.le_of_ble_eq_true rfl)
  rw [lg_entry_eq]
  generalize (lg_sl [.ref a_this, .int p1] ++ List.replicate (4 - (lg_sl [.ref a_this, .int p1]).length) Slot.unset).toArray = ls at hl ⊢
  have hl : lv_has ls 4 [(0, .ref a_this), (1, .int p1)] := hl
  show W p l e ({ frames := 0, cells := 0, slots := 0, locals := 0 } : Room) s m ([.ref a_this, .int p1] : List Value).toArray below meth c s.heap [] 0 0 (MQ below (roQ (some (.int r))) ([.ref a_this, .int p1] : List Value).toArray s 0 0 (fun _ => False)) (F0 m 0 ls [])
  have hB4 : ∀ (n4 : Nat) (l1 : Int32) (l2 : Int32) (l3 : Int32) (ls : Array Slot), lv_has ls 4 [(0, .ref a_this), (1, .int l1), (2, .int l2), (3, .int l3)] → fX4_quickEnough_b4 fu z_folk_size z_folk_slow n4 l1 l2 l3 = some (r) → W p l e ({ frames := 0, cells := 0, slots := 0, locals := 0 } : Room) s m ([.ref a_this, .int p1] : List Value).toArray below meth c s.heap [] 0 0 (MQ below (roQ (some (.int r))) ([.ref a_this, .int p1] : List Value).toArray s 0 0 (fun _ => False)) (F0 m 4 ls []) := by
    intro n4
    induction n4 with
    | zero => intro l1 l2 l3 ls hl hf; exact nn hf
    | succ n4 ih4 =>
      intro l1 l2 l3 ls hl hf
      replace hf : fX4_quickEnough_b4_body fu z_folk_size z_folk_slow (fX4_quickEnough_b4 fu z_folk_size z_folk_slow n4) l1 l2 l3 = some (r) := hf
      unfold fX4_quickEnough_b4_body at hf
      refine lv_iload_n hx hb dX4_quickEnough_4 rfl (lv_at hl 3 rfl) ?_
      refine lv_aload_n hx hb dX4_quickEnough_5 rfl (lv_at hl 0 rfl) ?_
      refine va_get (D := D) (ci := 4) (v := .ref a_folk) (C := RX4) (T := TX4) (N := 3) hx hb hts inTX4 hown hK hP 0 rfl rfl 0 (by decide) (hts _ q220) (fun _ h9 => h9) rfl dX4_quickEnough_6 ?_
      refine va_get (D := D) (ci := 0) (v := .int z_folk_size) (C := RX0) (T := TX0) (N := 8) hx hb hts inTX0 hown hK hP 1 rfl rfl 1 (by decide) (hts _ q83) (fun _ h9 => h9) rfl dX4_quickEnough_9 ?_
      refine lv_icmp_ge (tgt := 40) hx hb dX4_quickEnough_12 (by decide) (fun c1 => ?_) (fun c1 => ?_)
      · replace hf := it hf c1
        refine lv_iload_n hx hb dX4_quickEnough_40 rfl (lv_at hl 2 rfl) ?_
        cases hf
        exact W.iret hx hb hr (fun t ht _ => ⟨rfl, ht⟩) (fun q h => by cases h) dX4_quickEnough_41
      · replace hf := ie hf c1
        refine lv_aload_n hx hb dX4_quickEnough_15 rfl (lv_at hl 0 rfl) ?_
        refine va_get (D := D) (ci := 4) (v := .ref a_folk) (C := RX4) (T := TX4) (N := 3) hx hb hts inTX4 hown hK hP 0 rfl rfl 0 (by decide) (hts _ q220) (fun _ h9 => h9) rfl dX4_quickEnough_16 ?_
        refine va_get (D := D) (ci := 0) (v := .ref a_folk_slow) (C := RX0) (T := TX0) (N := 8) hx hb hts inTX0 hown hK hP 1 rfl rfl 6 (by decide) (hts _ q99) (fun _ h9 => h9) rfl dX4_quickEnough_19 ?_
        refine lv_iload_n hx hb dX4_quickEnough_22 rfl (lv_at hl 3 rfl) ?_
        obtain ⟨v2, hv2, hf⟩ := ob hf
        refine x_iald hx hb hK hP 2 0 rfl rfl hv2 dX4_quickEnough_23 ?_
        refine lv_iload_n hx hb dX4_quickEnough_24 rfl (lv_at hl 1 rfl) ?_
        refine lv_icmp_gt (tgt := 34) hx hb dX4_quickEnough_25 (by decide) (fun c3 => ?_) (fun c3 => ?_)
        · replace hf := it hf c3
          refine lv_iinc (v := (l3 + 1)) (lv' := [(3, .int (l3 + 1)), (0, .ref a_this), (1, .int l1), (2, .int l2)]) hx hb dX4_quickEnough_34 hl (k := 3) rfl rfl (by decide) rfl (fun ls hl => ?_)
          refine lv_goto (tgt := 4) hx hb dX4_quickEnough_37 (by decide) ?_
          exact ih4 l1 l2 (l3 + 1) ls (lv_sub hl [1, 2, 3, 0] rfl) hf
        · replace hf := ie hf c3
          refine lv_iload_n hx hb dX4_quickEnough_28 rfl (lv_at hl 2 rfl) ?_
          refine lv_iconst (v := 1) hx hb dX4_quickEnough_29 (by decide) ?_
          refine lv_iload_n hx hb dX4_quickEnough_30 rfl (lv_at hl 3 rfl) ?_
          refine lv_ishl hx hb dX4_quickEnough_31 ?_
          refine lv_ior hx hb dX4_quickEnough_32 ?_
          refine lv_istore_n (lv' := [(2, .int (l2 ||| ((1 : Int32) <<< (l3 &&& 31)))), (0, .ref a_this), (1, .int l1), (3, .int l3)]) hx hb dX4_quickEnough_33 rfl hl (by decide) rfl (fun ls hl => ?_)
          refine lv_iinc (v := (l3 + 1)) (lv' := [(3, .int (l3 + 1)), (2, .int (l2 ||| ((1 : Int32) <<< (l3 &&& 31)))), (0, .ref a_this), (1, .int l1)]) hx hb dX4_quickEnough_34 hl (k := 3) rfl rfl (by decide) rfl (fun ls hl => ?_)
          refine lv_goto (tgt := 4) hx hb dX4_quickEnough_37 (by decide) ?_
          exact ih4 l1 (l2 ||| ((1 : Int32) <<< (l3 &&& 31))) (l3 + 1) ls (lv_sub hl [2, 3, 1, 0] rfl) hf
  unfold fX4_quickEnough at hf
  refine lv_iconst (v := 0) hx hb dX4_quickEnough_0 (by decide) ?_
  refine lv_istore_n (lv' := [(2, .int 0), (0, .ref a_this), (1, .int p1)]) hx hb dX4_quickEnough_1 rfl hl (by decide) rfl (fun ls hl => ?_)
  refine lv_iconst (v := 0) hx hb dX4_quickEnough_2 (by decide) ?_
  refine lv_istore_n (lv' := [(3, .int 0), (2, .int 0), (0, .ref a_this), (1, .int p1)]) hx hb dX4_quickEnough_3 rfl hl (by decide) rfl (fun ls hl => ?_)
  exact hB4 fu p1 0 0 ls (lv_sub hl [2, 3, 1, 0] rfl) hf
theorem kX4_quickEnough {p : Program} {l : Launch} {e : Env} {R : Room} {s : State} {m : MethodId} {args : Array Value} {below : List Frame} {meth : Method} {c : Code} {H : Heap} {locs : List Loc} {cells slots : Nat} {Q : State → Prop} {cc : ByteArray} {nL pc index : Nat} {ls : Array Slot} {rest : List Value} {own : String} {D : va_G} {cI cZ cQ : ClassId} {a_this a_folk a_strength a_present a_folk_bank a_folk_kind a_folk_word a_folk_slow a_folk_told : Nat} {z_folk_planks z_folk_size z_folk_sworn p1 : Int32} {z_folk_slow : Nat → Int32} {fu : Nat} {r : Int32} (hx : p.tables.exec = Jvm.exec) (hb : c.code = cc) (hml : c.maxLocals = nL) (hown : s.vm.findClass own = some m.cls) (hts : ∀ w ∈ TB, w.before args s = true) (hKW : KW D (TY cI cZ cQ) s) (hlk : Cond.methodLink own index yX4_quickEnough ∈ TB) (hP : va_P D vwCl [(a_this, .inr (4, [.ref a_folk, .ref a_strength, .ref a_present])), (a_folk, .inr (0, [.int z_folk_planks, .int z_folk_size, .int z_folk_sworn, .ref a_folk_bank, .ref a_folk_kind, .ref a_folk_word, .ref a_folk_slow, .ref a_folk_told])), (a_folk_slow, .inl (cI, 8, .inl z_folk_slow))] H) (hf : fX4_quickEnough fu z_folk_size z_folk_slow p1 = some (r)) (hn : ls.size = nL) (hW : (rest.map fun v => v.category).sum ≤ 8) (hR : 0 + 1 ≤ R.frames ∧ 8 + (4 + 11) + 0 ≤ R.locals) (hcs : cells ≤ R.cells ∧ slots ≤ R.slots) (hdg : decode cc pc = .ok (.invokevirtual index, 3)) (kk : W p l e R s m args below meth c H locs cells slots Q (F0 m (pc + 3) ls (.int r :: rest))) : W p l e R s m args below meth c H locs cells slots Q (F0 m pc ls (.int p1 :: .ref a_this :: rest)) :=
  x_ret (va_runV (As := [.int p1]) (rest := rest) ⟨hx, hb, hml, hown, hts⟩ (tX4_quickEnough hf) (cwV 1 hts (tb_V hlk q691 q692 q45 q693) rfl rfl rfl (by decide +kernel) hR) ⟨roB, va_recv hKW.1 hP (ci := 4) (q0 := 0) rfl rfl, fun U hU hW => ⟨rfl, by rw [hU]; exact hP, hKW.warm hW⟩⟩ rfl rfl hn rfl (lv_room hW) hdg hcs) kk

-- HalfPlanks$Planner.possibleBehind(II)Z
set_option maxHeartbeats 4000000 in
set_option maxRecDepth 100000 in
theorem tX4_possibleBehind {l : Launch} {D : va_G} {cI cZ cQ : ClassId} {a_this a_folk a_strength a_present a_folk_bank a_folk_kind a_folk_word a_folk_slow a_folk_told a_present_came a_present_under a_present_due a_strength_borne : Nat} {z_folk_planks z_folk_size z_folk_sworn z_present_day z_present_crossed p1 p2 : Int32} {z_folk_slow z_present_came z_present_under z_present_due z_strength_borne : Nat → Int32} {fu : Nat} {r : Int32} (hf : fX4_possibleBehind fu z_folk_size z_folk_slow z_folk_planks z_present_day z_present_came z_present_under z_present_due z_strength_borne p1 p2 = some (r)) : Met l yX4_possibleBehind (.code yX4_possibleBehind cX4_possibleBehind 7 (some .boolean) :: TB) ({ frames := 2, cells := 0, slots := 0, locals := 50 } : Room) (roP D (TY cI cZ cQ) [(a_this, .inr (4, [.ref a_folk, .ref a_strength, .ref a_present])), (a_folk, .inr (0, [.int z_folk_planks, .int z_folk_size, .int z_folk_sworn, .ref a_folk_bank, .ref a_folk_kind, .ref a_folk_word, .ref a_folk_slow, .ref a_folk_told])), (a_folk_slow, .inl (cI, 8, .inl z_folk_slow)), (a_present, .inr (5, [.int z_present_day, .int z_present_crossed, .ref a_present_came, .ref a_present_under, .ref a_present_due])), (a_present_came, .inl (cI, 8, .inl z_present_came)), (a_present_under, .inl (cI, 8, .inl z_present_under)), (a_present_due, .inl (cI, 64, .inl z_present_due)), (a_strength, .inr (7, [.ref a_folk, .ref a_strength_borne])), (a_strength_borne, .inl (cI, 512, .inl z_strength_borne))] [.ref a_this, .int p1, .int p2]) (roQ (some (.int r))) 0 0 (fun _ => False) := by
  refine Met.ofW (cc := cX4_possibleBehind) (maxL := 7) (ret := (some .boolean)) (by decide) rfl ?_
  intro p e s m args below meth c s₁ B hml hv
  obtain ⟨rfl, hP, hKW⟩ := hv
  have hx := B.exec
  have hb := B.bytes
  have hr := B.returns
  have hts : ∀ w ∈ TB, w.before ([.ref a_this, .int p1, .int p2] : List Value).toArray s = true := fun w h => atoms_spec (ws := .code yX4_possibleBehind cX4_possibleBehind 7 (some .boolean) :: TB) B.pre w (List.mem_cons_of_mem _ h)
  have hown : s.vm.findClass RX4 = some m.cls := findClass_of_methodNamed B.named
  have hlocks := B.notSynchronized
  have hK := hKW.1
  have hl := lv_entry [.ref a_this, .int p1, .int p2] (n := 7) (Nat.le_of_ble_eq_true rfl)
  rw [lg_entry_eq]
  generalize (lg_sl [.ref a_this, .int p1, .int p2] ++ List.replicate (7 - (lg_sl [.ref a_this, .int p1, .int p2]).length) Slot.unset).toArray = ls at hl ⊢
  have hl : lv_has ls 7 [(0, .ref a_this), (1, .int p1), (2, .int p2)] := hl
  show W p l e ({ frames := 2, cells := 0, slots := 0, locals := 50 } : Room) s m ([.ref a_this, .int p1, .int p2] : List Value).toArray below meth c s.heap [] 0 0 (MQ below (roQ (some (.int r))) ([.ref a_this, .int p1, .int p2] : List Value).toArray s 0 0 (fun _ => False)) (F0 m 0 ls [])
  have hB9 : ∀ (n9 : Nat) (l1 : Int32) (l2 : Int32) (l3 : Int32) (l4 : Int32) (ls : Array Slot), lv_has ls 7 [(0, .ref a_this), (1, .int l1), (2, .int l2), (3, .int l3), (4, .int l4)] → fX4_possibleBehind_b9 fu z_folk_size z_folk_slow z_folk_planks z_present_day z_present_came z_present_under z_present_due z_strength_borne n9 l1 l2 l3 l4 = some (r) → W p l e ({ frames := 2, cells := 0, slots := 0, locals := 50 } : Room) s m ([.ref a_this, .int p1, .int p2] : List Value).toArray below meth c s.heap [] 0 0 (MQ below (roQ (some (.int r))) ([.ref a_this, .int p1, .int p2] : List Value).toArray s 0 0 (fun _ => False)) (F0 m 9 ls []) := by
    intro n9
    induction n9 with
    | zero => intro l1 l2 l3 l4 ls hl hf; exact nn hf
    | succ n9 ih9 =>
      intro l1 l2 l3 l4 ls hl hf
      replace hf : fX4_possibleBehind_b9_body fu z_folk_size z_folk_slow z_folk_planks z_present_day z_present_came z_present_under z_present_due z_strength_borne (fX4_possibleBehind_b9 fu z_folk_size z_folk_slow z_folk_planks z_present_day z_present_came z_present_under z_present_due z_strength_borne n9) l1 l2 l3 l4 = some (r) := hf
      unfold fX4_possibleBehind_b9_body at hf
      refine lv_iload hx hb dX4_possibleBehind_9 (lv_at hl 4 rfl) ?_
      refine lv_aload_n hx hb dX4_possibleBehind_11 rfl (lv_at hl 0 rfl) ?_
      refine va_get (D := D) (ci := 4) (v := .ref a_folk) (C := RX4) (T := TX4) (N := 3) hx hb hts inTX4 hown hK hP 0 rfl rfl 0 (by decide) (hts _ q220) (fun _ h9 => h9) rfl dX4_possibleBehind_12 ?_
      refine va_get (D := D) (ci := 0) (v := .int z_folk_planks) (C := RX0) (T := TX0) (N := 8) hx hb hts inTX0 hown hK hP 1 rfl rfl 0 (by decide) (hts _ q72) (fun _ h9 => h9) rfl dX4_possibleBehind_15 ?_
      refine lv_icmp_ge (tgt := 92) hx hb dX4_possibleBehind_18 (by decide) (fun c2 => ?_) (fun c2 => ?_)
      · replace hf := it hf c2
        refine lv_iconst (v := 1) hx hb dX4_possibleBehind_92 (by decide) ?_
        cases hf
        exact W.zret hx hb hr rfl (fun t ht _ => ⟨rfl, ht⟩) (fun q h => by cases h) dX4_possibleBehind_93
      · replace hf := ie hf c2
        refine lv_aload_n hx hb dX4_possibleBehind_21 rfl (lv_at hl 0 rfl) ?_
        refine va_get (D := D) (ci := 4) (v := .ref a_present) (C := RX4) (T := TX4) (N := 3) hx hb hts inTX4 hown hK hP 0 rfl rfl 2 (by decide) (hts _ q222) (fun _ h9 => h9) rfl dX4_possibleBehind_22 ?_
        refine lv_iload hx hb dX4_possibleBehind_25 (lv_at hl 4 rfl) ?_
        refine lv_aload_n hx hb dX4_possibleBehind_27 rfl (lv_at hl 0 rfl) ?_
        refine va_get (D := D) (ci := 4) (v := .ref a_present) (C := RX4) (T := TX4) (N := 3) hx hb hts inTX4 hown hK hP 0 rfl rfl 2 (by decide) (hts _ q222) (fun _ h9 => h9) rfl dX4_possibleBehind_28 ?_
        refine va_get (D := D) (ci := 5) (v := .int z_present_day) (C := RX5) (T := TX5) (N := 5) hx hb hts inTX5 hown hK hP 3 rfl rfl 0 (by decide) (hts _ q169) (fun _ h9 => h9) rfl dX4_possibleBehind_31 ?_
        refine lv_iload_n hx hb dX4_possibleBehind_34 rfl (lv_at hl 1 rfl) ?_
        refine lv_iadd hx hb dX4_possibleBehind_35 ?_
        obtain ⟨v3, hv3, hf⟩ := ob hf
        refine kX5_cameBy hx hb hml hown hts hKW q657 (hP.sub [3, 4, 5, 6] rfl) hv3 hl.1 (Nat.le_of_ble_eq_true rfl) ⟨Nat.le_of_ble_eq_true rfl, Nat.le_of_ble_eq_true rfl⟩ ⟨Nat.zero_le _, Nat.zero_le _⟩ dX4_possibleBehind_36 ?_
        refine lv_istore (lv' := [(5, .int v3), (0, .ref a_this), (1, .int l1), (2, .int l2), (3, .int l3), (4, .int l4)]) hx hb dX4_possibleBehind_39 hl (by decide) rfl (fun ls hl => ?_)
        refine lv_iload_n hx hb dX4_possibleBehind_41 rfl (lv_at hl 4 rfl) ?_
        refine lv_aload_n hx hb dX4_possibleBehind_42 rfl (lv_at hl 1 rfl) ?_
        refine va_get (D := D) (ci := 4) (v := .ref a_present) (C := RX4) (T := TX4) (N := 3) hx hb hts inTX4 hown hK hP 0 rfl rfl 2 (by decide) (hts _ q222) (fun _ h9 => h9) rfl dX4_possibleBehind_43 ?_
        refine va_get (D := D) (ci := 5) (v := .ref a_present_came) (C := RX5) (T := TX5) (N := 5) hx hb hts inTX5 hown hK hP 3 rfl rfl 2 (by decide) (hts _ q175) (fun _ h9 => h9) rfl dX4_possibleBehind_46 ?_
        refine lv_iload hx hb dX4_possibleBehind_49 (lv_at hl 5 rfl) ?_
        obtain ⟨v4, hv4, hf⟩ := ob hf
        refine x_iald hx hb hK hP 4 0 rfl rfl hv4 dX4_possibleBehind_51 ?_
        refine lv_aload_n hx hb dX4_possibleBehind_52 rfl (lv_at hl 1 rfl) ?_
        refine va_get (D := D) (ci := 4) (v := .ref a_present) (C := RX4) (T := TX4) (N := 3) hx hb hts inTX4 hown hK hP 0 rfl rfl 2 (by decide) (hts _ q222) (fun _ h9 => h9) rfl dX4_possibleBehind_53 ?_
        refine va_get (D := D) (ci := 5) (v := .ref a_present_under) (C := RX5) (T := TX5) (N := 5) hx hb hts inTX5 hown hK hP 3 rfl rfl 3 (by decide) (hts _ q180) (fun _ h9 => h9) rfl dX4_possibleBehind_56 ?_
        refine lv_iload hx hb dX4_possibleBehind_59 (lv_at hl 5 rfl) ?_
        obtain ⟨v5, hv5, hf⟩ := ob hf
        refine x_iald hx hb hK hP 5 0 rfl rfl hv5 dX4_possibleBehind_61 ?_
        refine lv_ior hx hb dX4_possibleBehind_62 ?_
        refine lv_iconst (v := -1) hx hb dX4_possibleBehind_63 (by decide) ?_
        refine lv_ixor hx hb dX4_possibleBehind_64 ?_
        refine lv_iand hx hb dX4_possibleBehind_65 ?_
        refine lv_istore (lv' := [(6, .int (l3 &&& ((v4 ||| v5) ^^^ (-1)))), (5, .int v3), (0, .ref a_this), (1, .int l1), (2, .int l2), (3, .int l3), (4, .int l4)]) hx hb dX4_possibleBehind_66 hl (by decide) rfl (fun ls hl => ?_)
        refine lv_aload_n hx hb dX4_possibleBehind_68 rfl (lv_at hl 2 rfl) ?_
        refine lv_iload_n hx hb dX4_possibleBehind_69 rfl (lv_at hl 4 rfl) ?_
        refine lv_iload hx hb dX4_possibleBehind_70 (lv_at hl 6 rfl) ?_
        refine lv_iload hx hb dX4_possibleBehind_72 (lv_at hl 1 rfl) ?_
        refine lv_iload hx hb dX4_possibleBehind_74 (lv_at hl 0 rfl) ?_
        obtain ⟨v6, hv6, hf⟩ := ob hf
        refine kX4_fewestAdded hx hb hml hown hts hKW q672 (hP.sub [0, 7, 8, 1] rfl) hv6 hl.1 (Nat.le_of_ble_eq_true rfl) ⟨Nat.le_of_ble_eq_true rfl, Nat.le_of_ble_eq_true rfl⟩ ⟨Nat.zero_le _, Nat.zero_le _⟩ dX4_possibleBehind_76 ?_
        refine lv_bipush (v := -9) hx hb dX4_possibleBehind_79 (by decide) ?_
        refine lv_icmp_ne (tgt := 86) hx hb dX4_possibleBehind_81 (by decide) (fun c7 => ?_) (fun c7 => ?_)
        · replace hf := ie hf c7
          refine lv_iinc (v := (l4 + 1)) (lv' := [(4, .int (l4 + 1)), (6, .int (l3 &&& ((v4 ||| v5) ^^^ (-1)))), (5, .int v3), (0, .ref a_this), (1, .int l1), (2, .int l2), (3, .int l3)]) hx hb dX4_possibleBehind_86 hl (k := 6) rfl rfl (by decide) rfl (fun ls hl => ?_)
          refine lv_goto (tgt := 9) hx hb dX4_possibleBehind_89 (by decide) ?_
          exact ih9 l1 l2 l3 (l4 + 1) ls (lv_sub hl [3, 4, 5, 6, 0] rfl) hf
        · replace hf := it hf c7
          refine lv_iconst (v := 0) hx hb dX4_possibleBehind_84 (by decide) ?_
          cases hf
          exact W.zret hx hb hr rfl (fun t ht _ => ⟨rfl, ht⟩) (fun q h => by cases h) dX4_possibleBehind_85
  unfold fX4_possibleBehind at hf
  refine lv_aload_n hx hb dX4_possibleBehind_0 rfl (lv_at hl 0 rfl) ?_
  refine lv_iload_n hx hb dX4_possibleBehind_1 rfl (lv_at hl 1 rfl) ?_
  obtain ⟨v1, hv1, hf⟩ := ob hf
  refine kX4_quickEnough hx hb hml hown hts hKW q690 (hP.sub [0, 1, 2] rfl) hv1 hl.1 (Nat.le_of_ble_eq_true rfl) ⟨Nat.le_of_ble_eq_true rfl, Nat.le_of_ble_eq_true rfl⟩ ⟨Nat.zero_le _, Nat.zero_le _⟩ dX4_possibleBehind_2 ?_
  refine lv_istore_n (lv' := [(3, .int v1), (0, .ref a_this), (1, .int p1), (2, .int p2)]) hx hb dX4_possibleBehind_5 rfl hl (by decide) rfl (fun ls hl => ?_)
  refine lv_iconst (v := 0) hx hb dX4_possibleBehind_6 (by decide) ?_
  refine lv_istore (lv' := [(4, .int 0), (3, .int v1), (0, .ref a_this), (1, .int p1), (2, .int p2)]) hx hb dX4_possibleBehind_7 hl (by decide) rfl (fun ls hl => ?_)
  exact hB9 fu p1 p2 v1 0 ls (lv_sub hl [2, 3, 4, 1, 0] rfl) hf
theorem kX4_possibleBehind {p : Program} {l : Launch} {e : Env} {R : Room} {s : State} {m : MethodId} {args : Array Value} {below : List Frame} {meth : Method} {c : Code} {H : Heap} {locs : List Loc} {cells slots : Nat} {Q : State → Prop} {cc : ByteArray} {nL pc index : Nat} {ls : Array Slot} {rest : List Value} {own : String} {D : va_G} {cI cZ cQ : ClassId} {a_this a_folk a_strength a_present a_folk_bank a_folk_kind a_folk_word a_folk_slow a_folk_told a_present_came a_present_under a_present_due a_strength_borne : Nat} {z_folk_planks z_folk_size z_folk_sworn z_present_day z_present_crossed p1 p2 : Int32} {z_folk_slow z_present_came z_present_under z_present_due z_strength_borne : Nat → Int32} {fu : Nat} {r : Int32} (hx : p.tables.exec = Jvm.exec) (hb : c.code = cc) (hml : c.maxLocals = nL) (hown : s.vm.findClass own = some m.cls) (hts : ∀ w ∈ TB, w.before args s = true) (hKW : KW D (TY cI cZ cQ) s) (hlk : Cond.methodLink own index yX4_possibleBehind ∈ TB) (hP : va_P D vwCl [(a_this, .inr (4, [.ref a_folk, .ref a_strength, .ref a_present])), (a_folk, .inr (0, [.int z_folk_planks, .int z_folk_size, .int z_folk_sworn, .ref a_folk_bank, .ref a_folk_kind, .ref a_folk_word, .ref a_folk_slow, .ref a_folk_told])), (a_folk_slow, .inl (cI, 8, .inl z_folk_slow)), (a_present, .inr (5, [.int z_present_day, .int z_present_crossed, .ref a_present_came, .ref a_present_under, .ref a_present_due])), (a_present_came, .inl (cI, 8, .inl z_present_came)), (a_present_under, .inl (cI, 8, .inl z_present_under)), (a_present_due, .inl (cI, 64, .inl z_present_due)), (a_strength, .inr (7, [.ref a_folk, .ref a_strength_borne])), (a_strength_borne, .inl (cI, 512, .inl z_strength_borne))] H) (hf : fX4_possibleBehind fu z_folk_size z_folk_slow z_folk_planks z_present_day z_present_came z_present_under z_present_due z_strength_borne p1 p2 = some (r)) (hn : ls.size = nL) (hW : (rest.map fun v => v.category).sum ≤ 8) (hR : 2 + 1 ≤ R.frames ∧ 8 + (7 + 11) + 50 ≤ R.locals) (hcs : cells ≤ R.cells ∧ slots ≤ R.slots) (hdg : decode cc pc = .ok (.invokevirtual index, 3)) (kk : W p l e R s m args below meth c H locs cells slots Q (F0 m (pc + 3) ls (.int r :: rest))) : W p l e R s m args below meth c H locs cells slots Q (F0 m pc ls (.int p2 :: .int p1 :: .ref a_this :: rest)) :=
  x_ret (va_runV (As := [.int p1, .int p2]) (rest := rest) ⟨hx, hb, hml, hown, hts⟩ (tX4_possibleBehind hf) (cwV 2 hts (tb_V hlk q687 q688 q45 q689) rfl rfl rfl (by decide +kernel) hR) ⟨roB, va_recv hKW.1 hP (ci := 4) (q0 := 0) rfl rfl, fun U hU hW => ⟨rfl, by rw [hU]; exact hP, hKW.warm hW⟩⟩ rfl rfl hn rfl (lv_room hW) hdg hcs) kk

-- HalfPlanks$Planner.firstPossible(I)I
set_option maxHeartbeats 4000000 in
set_option maxRecDepth 100000 in
theorem tX4_firstPossible {l : Launch} {D : va_G} {cI cZ cQ : ClassId} {a_this a_folk a_strength a_present a_folk_bank a_folk_kind a_folk_word a_folk_slow a_folk_told a_present_came a_present_under a_present_due a_strength_borne : Nat} {z_folk_planks z_folk_size z_folk_sworn z_present_day z_present_crossed p1 : Int32} {z_folk_slow z_present_came z_present_under z_present_due z_strength_borne : Nat → Int32} {fu : Nat} {r : Int32} (hf : fX4_firstPossible fu z_folk_size z_folk_slow z_folk_planks z_present_day z_present_came z_present_under z_present_due z_strength_borne p1 = some (r)) : Met l yX4_firstPossible (.code yX4_firstPossible cX4_firstPossible 3 (some .int) :: TB) ({ frames := 3, cells := 0, slots := 0, locals := 76 } : Room) (roP D (TY cI cZ cQ) [(a_this, .inr (4, [.ref a_folk, .ref a_strength, .ref a_present])), (a_folk, .inr (0, [.int z_folk_planks, .int z_folk_size, .int z_folk_sworn, .ref a_folk_bank, .ref a_folk_kind, .ref a_folk_word, .ref a_folk_slow, .ref a_folk_told])), (a_folk_slow, .inl (cI, 8, .inl z_folk_slow)), (a_present, .inr (5, [.int z_present_day, .int z_present_crossed, .ref a_present_came, .ref a_present_under, .ref a_present_due])), (a_present_came, .inl (cI, 8, .inl z_present_came)), (a_present_under, .inl (cI, 8, .inl z_present_under)), (a_present_due, .inl (cI, 64, .inl z_present_due)), (a_strength, .inr (7, [.ref a_folk, .ref a_strength_borne])), (a_strength_borne, .inl (cI, 512, .inl z_strength_borne))] [.ref a_this, .int p1]) (roQ (some (.int r))) 0 0 (fun _ => False) := by
  refine Met.ofW (cc := cX4_firstPossible) (maxL := 3) (ret := (some .int)) (by decide) rfl ?_
  intro p e s m args below meth c s₁ B hml hv
  obtain ⟨rfl, hP, hKW⟩ := hv
  have hx := B.exec
  have hb := B.bytes
  have hr := B.returns
  have hts : ∀ w ∈ TB, w.before ([.ref a_this, .int p1] : List Value).toArray s = true := fun w h => atoms_spec (ws := .code yX4_firstPossible cX4_firstPossible 3 (some .int) :: TB) B.pre w (List.mem_cons_of_mem _ h)
  have hown : s.vm.findClass RX4 = some m.cls := findClass_of_methodNamed B.named
  have hlocks := B.notSynchronized
  have hK := hKW.1
  have hl := lv_entry [.ref a_this, .int p1] (n := 3) (Nat.le_of_ble_eq_true rfl)
  rw [lg_entry_eq]
  generalize (lg_sl [.ref a_this, .int p1] ++ List.replicate (3 - (lg_sl [.ref a_this, .int p1]).length) Slot.unset).toArray = ls at hl ⊢
  have hl : lv_has ls 3 [(0, .ref a_this), (1, .int p1)] := hl
  show W p l e ({ frames := 3, cells := 0, slots := 0, locals := 76 } : Room) s m ([.ref a_this, .int p1] : List Value).toArray below meth c s.heap [] 0 0 (MQ below (roQ (some (.int r))) ([.ref a_this, .int p1] : List Value).toArray s 0 0 (fun _ => False)) (F0 m 0 ls [])
  have hB2 : ∀ (n2 : Nat) (l1 : Int32) (l2 : Int32) (ls : Array Slot), lv_has ls 3 [(0, .ref a_this), (1, .int l1), (2, .int l2)] → fX4_firstPossible_b2 fu z_folk_size z_folk_slow z_folk_planks z_present_day z_present_came z_present_under z_present_due z_strength_borne n2 l1 l2 = some (r) → W p l e ({ frames := 3, cells := 0, slots := 0, locals := 76 } : Room) s m ([.ref a_this, .int p1] : List Value).toArray below meth c s.heap [] 0 0 (MQ below (roQ (some (.int r))) ([.ref a_this, .int p1] : List Value).toArray s 0 0 (fun _ => False)) (F0 m 2 ls []) := by
    intro n2
    induction n2 with
    | zero => intro l1 l2 ls hl hf; exact nn hf
    | succ n2 ih2 =>
      intro l1 l2 ls hl hf
      replace hf : fX4_firstPossible_b2_body fu z_folk_size z_folk_slow z_folk_planks z_present_day z_present_came z_present_under z_present_due z_strength_borne (fX4_firstPossible_b2 fu z_folk_size z_folk_slow z_folk_planks z_present_day z_present_came z_present_under z_present_due z_strength_borne n2) l1 l2 = some (r) := hf
      unfold fX4_firstPossible_b2_body at hf
      refine lv_iload_n hx hb dX4_firstPossible_2 rfl (lv_at hl 2 rfl) ?_
      refine lv_bipush (v := 20) hx hb dX4_firstPossible_3 (by decide) ?_
      refine lv_icmp_gt (tgt := 25) hx hb dX4_firstPossible_5 (by decide) (fun c1 => ?_) (fun c1 => ?_)
      · replace hf := it hf c1
        refine lv_bipush (v := -9) hx hb dX4_firstPossible_25 (by decide) ?_
        cases hf
        exact W.iret hx hb hr (fun t ht _ => ⟨rfl, ht⟩) (fun q h => by cases h) dX4_firstPossible_27
      · replace hf := ie hf c1
        refine lv_aload_n hx hb dX4_firstPossible_8 rfl (lv_at hl 0 rfl) ?_
        refine lv_iload_n hx hb dX4_firstPossible_9 rfl (lv_at hl 2 rfl) ?_
        refine lv_iload_n hx hb dX4_firstPossible_10 rfl (lv_at hl 1 rfl) ?_
        obtain ⟨v2, hv2, hf⟩ := ob hf
        refine kX4_possibleBehind hx hb hml hown hts hKW q686 (hP.sub [0, 1, 2, 3, 4, 5, 6, 7, 8] rfl) hv2 hl.1 (Nat.le_of_ble_eq_true rfl) ⟨Nat.le_of_ble_eq_true rfl, Nat.le_of_ble_eq_true rfl⟩ ⟨Nat.zero_le _, Nat.zero_le _⟩ dX4_firstPossible_11 ?_
        refine lv_if_eq (tgt := 19) hx hb dX4_firstPossible_14 (by decide) (fun c3 => ?_) (fun c3 => ?_)
        · replace hf := it hf c3
          refine lv_iinc (v := (l2 + 1)) (lv' := [(2, .int (l2 + 1)), (0, .ref a_this), (1, .int l1)]) hx hb dX4_firstPossible_19 hl (k := 2) rfl rfl (by decide) rfl (fun ls hl => ?_)
          refine lv_goto (tgt := 2) hx hb dX4_firstPossible_22 (by decide) ?_
          exact ih2 l1 (l2 + 1) ls (lv_sub hl [1, 2, 0] rfl) hf
        · replace hf := ie hf c3
          refine lv_iload_n hx hb dX4_firstPossible_17 rfl (lv_at hl 2 rfl) ?_
          cases hf
          exact W.iret hx hb hr (fun t ht _ => ⟨rfl, ht⟩) (fun q h => by cases h) dX4_firstPossible_18
  unfold fX4_firstPossible at hf
  refine lv_iconst (v := 0) hx hb dX4_firstPossible_0 (by decide) ?_
  refine lv_istore_n (lv' := [(2, .int 0), (0, .ref a_this), (1, .int p1)]) hx hb dX4_firstPossible_1 rfl hl (by decide) rfl (fun ls hl => ?_)
  exact hB2 fu p1 0 ls (lv_sub hl [1, 2, 0] rfl) hf
theorem kX4_firstPossible {p : Program} {l : Launch} {e : Env} {R : Room} {s : State} {m : MethodId} {args : Array Value} {below : List Frame} {meth : Method} {c : Code} {H : Heap} {locs : List Loc} {cells slots : Nat} {Q : State → Prop} {cc : ByteArray} {nL pc index : Nat} {ls : Array Slot} {rest : List Value} {own : String} {D : va_G} {cI cZ cQ : ClassId} {a_this a_folk a_strength a_present a_folk_bank a_folk_kind a_folk_word a_folk_slow a_folk_told a_present_came a_present_under a_present_due a_strength_borne : Nat} {z_folk_planks z_folk_size z_folk_sworn z_present_day z_present_crossed p1 : Int32} {z_folk_slow z_present_came z_present_under z_present_due z_strength_borne : Nat → Int32} {fu : Nat} {r : Int32} (hx : p.tables.exec = Jvm.exec) (hb : c.code = cc) (hml : c.maxLocals = nL) (hown : s.vm.findClass own = some m.cls) (hts : ∀ w ∈ TB, w.before args s = true) (hKW : KW D (TY cI cZ cQ) s) (hlk : Cond.methodLink own index yX4_firstPossible ∈ TB) (hP : va_P D vwCl [(a_this, .inr (4, [.ref a_folk, .ref a_strength, .ref a_present])), (a_folk, .inr (0, [.int z_folk_planks, .int z_folk_size, .int z_folk_sworn, .ref a_folk_bank, .ref a_folk_kind, .ref a_folk_word, .ref a_folk_slow, .ref a_folk_told])), (a_folk_slow, .inl (cI, 8, .inl z_folk_slow)), (a_present, .inr (5, [.int z_present_day, .int z_present_crossed, .ref a_present_came, .ref a_present_under, .ref a_present_due])), (a_present_came, .inl (cI, 8, .inl z_present_came)), (a_present_under, .inl (cI, 8, .inl z_present_under)), (a_present_due, .inl (cI, 64, .inl z_present_due)), (a_strength, .inr (7, [.ref a_folk, .ref a_strength_borne])), (a_strength_borne, .inl (cI, 512, .inl z_strength_borne))] H) (hf : fX4_firstPossible fu z_folk_size z_folk_slow z_folk_planks z_present_day z_present_came z_present_under z_present_due z_strength_borne p1 = some (r)) (hn : ls.size = nL) (hW : (rest.map fun v => v.category).sum ≤ 8) (hR : 3 + 1 ≤ R.frames ∧ 8 + (3 + 11) + 76 ≤ R.locals) (hcs : cells ≤ R.cells ∧ slots ≤ R.slots) (hdg : decode cc pc = .ok (.invokevirtual index, 3)) (kk : W p l e R s m args below meth c H locs cells slots Q (F0 m (pc + 3) ls (.int r :: rest))) : W p l e R s m args below meth c H locs cells slots Q (F0 m pc ls (.int p1 :: .ref a_this :: rest)) :=
  x_ret (va_runV (As := [.int p1]) (rest := rest) ⟨hx, hb, hml, hown, hts⟩ (tX4_firstPossible hf) (cwV 1 hts (tb_V hlk q683 q684 q45 q685) rfl rfl rfl (by decide +kernel) hR) ⟨roB, va_recv hKW.1 hP (ci := 4) (q0 := 0) rfl rfl, fun U hU hW => ⟨rfl, by rw [hU]; exact hP, hKW.warm hW⟩⟩ rfl rfl hn rfl (lv_room hW) hdg hcs) kk

-- HalfPlanks$Planner.bearsAll(II)Z
set_option maxHeartbeats 4000000 in
set_option maxRecDepth 100000 in
theorem tX4_bearsAll {l : Launch} {D : va_G} {cI cZ cQ : ClassId} {a_this a_folk a_strength a_present a_folk_bank a_folk_kind a_folk_word a_folk_slow a_folk_told a_strength_borne : Nat} {z_folk_planks z_folk_size z_folk_sworn p1 p2 : Int32} {z_strength_borne : Nat → Int32} {fu : Nat} {r : Int32} (hf : fX4_bearsAll fu z_folk_planks z_strength_borne p1 p2 = some (r)) : Met l yX4_bearsAll (.code yX4_bearsAll cX4_bearsAll 4 (some .boolean) :: TB) ({ frames := 1, cells := 0, slots := 0, locals := 22 } : Room) (roP D (TY cI cZ cQ) [(a_this, .inr (4, [.ref a_folk, .ref a_strength, .ref a_present])), (a_folk, .inr (0, [.int z_folk_planks, .int z_folk_size, .int z_folk_sworn, .ref a_folk_bank, .ref a_folk_kind, .ref a_folk_word, .ref a_folk_slow, .ref a_folk_told])), (a_strength, .inr (7, [.ref a_folk, .ref a_strength_borne])), (a_strength_borne, .inl (cI, 512, .inl z_strength_borne))] [.ref a_this, .int p1, .int p2]) (roQ (some (.int r))) 0 0 (fun _ => False) := by
  refine Met.ofW (cc := cX4_bearsAll) (maxL := 4) (ret := (some .boolean)) (by decide) rfl ?_
  intro p e s m args below meth c s₁ B hml hv
  obtain ⟨rfl, hP, hKW⟩ := hv
  have hx := B.exec
  have hb := B.bytes
  have hr := B.returns
  have hts : ∀ w ∈ TB, w.before ([.ref a_this, .int p1, .int p2] : List Value).toArray s = true := fun w h => atoms_spec (ws := .code yX4_bearsAll cX4_bearsAll 4 (some .boolean) :: TB) B.pre w (List.mem_cons_of_mem _ h)
  have hown : s.vm.findClass RX4 = some m.cls := findClass_of_methodNamed B.named
  have hlocks := B.notSynchronized
  have hK := hKW.1
  have hl := lv_entry [.ref a_this, .int p1, .int p2] (n := 4) (Nat.le_of_ble_eq_true rfl)
  rw [lg_entry_eq]
  generalize (lg_sl [.ref a_this, .int p1, .int p2] ++ List.replicate (4 - (lg_sl [.ref a_this, .int p1, .int p2]).length) Slot.unset).toArray = ls at hl ⊢
  have hl : lv_has ls 4 [(0, .ref a_this), (1, .int p1), (2, .int p2)] := hl
  show W p l e ({ frames := 1, cells := 0, slots := 0, locals := 22 } : Room) s m ([.ref a_this, .int p1, .int p2] : List Value).toArray below meth c s.heap [] 0 0 (MQ below (roQ (some (.int r))) ([.ref a_this, .int p1, .int p2] : List Value).toArray s 0 0 (fun _ => False)) (F0 m 0 ls [])
  have hB2 : ∀ (n2 : Nat) (l1 : Int32) (l2 : Int32) (l3 : Int32) (ls : Array Slot), lv_has ls 4 [(0, .ref a_this), (1, .int l1), (2, .int l2), (3, .int l3)] → fX4_bearsAll_b2 fu z_folk_planks z_strength_borne n2 l1 l2 l3 = some (r) → W p l e ({ frames := 1, cells := 0, slots := 0, locals := 22 } : Room) s m ([.ref a_this, .int p1, .int p2] : List Value).toArray below meth c s.heap [] 0 0 (MQ below (roQ (some (.int r))) ([.ref a_this, .int p1, .int p2] : List Value).toArray s 0 0 (fun _ => False)) (F0 m 2 ls []) := by
    intro n2
    induction n2 with
    | zero => intro l1 l2 l3 ls hl hf; exact nn hf
    | succ n2 ih2 =>
      intro l1 l2 l3 ls hl hf
      replace hf : fX4_bearsAll_b2_body fu z_folk_planks z_strength_borne (fX4_bearsAll_b2 fu z_folk_planks z_strength_borne n2) l1 l2 l3 = some (r) := hf
      unfold fX4_bearsAll_b2_body at hf
      refine lv_iload_n hx hb dX4_bearsAll_2 rfl (lv_at hl 3 rfl) ?_
      refine lv_aload_n hx hb dX4_bearsAll_3 rfl (lv_at hl 0 rfl) ?_
      refine va_get (D := D) (ci := 4) (v := .ref a_folk) (C := RX4) (T := TX4) (N := 3) hx hb hts inTX4 hown hK hP 0 rfl rfl 0 (by decide) (hts _ q220) (fun _ h9 => h9) rfl dX4_bearsAll_4 ?_
      refine va_get (D := D) (ci := 0) (v := .int z_folk_planks) (C := RX0) (T := TX0) (N := 8) hx hb hts inTX0 hown hK hP 1 rfl rfl 0 (by decide) (hts _ q72) (fun _ h9 => h9) rfl dX4_bearsAll_7 ?_
      refine lv_icmp_ge (tgt := 34) hx hb dX4_bearsAll_10 (by decide) (fun c1 => ?_) (fun c1 => ?_)
      · replace hf := it hf c1
        refine lv_iconst (v := 1) hx hb dX4_bearsAll_34 (by decide) ?_
        cases hf
        exact W.zret hx hb hr rfl (fun t ht _ => ⟨rfl, ht⟩) (fun q h => by cases h) dX4_bearsAll_35
      · replace hf := ie hf c1
        refine lv_aload_n hx hb dX4_bearsAll_13 rfl (lv_at hl 0 rfl) ?_
        refine va_get (D := D) (ci := 4) (v := .ref a_strength) (C := RX4) (T := TX4) (N := 3) hx hb hts inTX4 hown hK hP 0 rfl rfl 1 (by decide) (hts _ q221) (fun _ h9 => h9) rfl dX4_bearsAll_14 ?_
        refine lv_iload_n hx hb dX4_bearsAll_17 rfl (lv_at hl 3 rfl) ?_
        refine lv_iload_n hx hb dX4_bearsAll_18 rfl (lv_at hl 1 rfl) ?_
        obtain ⟨v2, hv2, hf⟩ := ob hf
        refine kX7_of hx hb hml hown hts hKW q658 (hP.sub [2, 3] rfl) hv2 hl.1 (Nat.le_of_ble_eq_true rfl) ⟨Nat.le_of_ble_eq_true rfl, Nat.le_of_ble_eq_true rfl⟩ ⟨Nat.zero_le _, Nat.zero_le _⟩ dX4_bearsAll_19 ?_
        refine lv_iload_n hx hb dX4_bearsAll_22 rfl (lv_at hl 2 rfl) ?_
        refine lv_icmp_ge (tgt := 28) hx hb dX4_bearsAll_23 (by decide) (fun c3 => ?_) (fun c3 => ?_)
        · replace hf := it hf c3
          refine lv_iinc (v := (l3 + 1)) (lv' := [(3, .int (l3 + 1)), (0, .ref a_this), (1, .int l1), (2, .int l2)]) hx hb dX4_bearsAll_28 hl (k := 3) rfl rfl (by decide) rfl (fun ls hl => ?_)
          refine lv_goto (tgt := 2) hx hb dX4_bearsAll_31 (by decide) ?_
          exact ih2 l1 l2 (l3 + 1) ls (lv_sub hl [1, 2, 3, 0] rfl) hf
        · replace hf := ie hf c3
          refine lv_iconst (v := 0) hx hb dX4_bearsAll_26 (by decide) ?_
          cases hf
          exact W.zret hx hb hr rfl (fun t ht _ => ⟨rfl, ht⟩) (fun q h => by cases h) dX4_bearsAll_27
  unfold fX4_bearsAll at hf
  refine lv_iconst (v := 0) hx hb dX4_bearsAll_0 (by decide) ?_
  refine lv_istore_n (lv' := [(3, .int 0), (0, .ref a_this), (1, .int p1), (2, .int p2)]) hx hb dX4_bearsAll_1 rfl hl (by decide) rfl (fun ls hl => ?_)
  exact hB2 fu p1 p2 0 ls (lv_sub hl [1, 2, 3, 0] rfl) hf
theorem kX4_bearsAll {p : Program} {l : Launch} {e : Env} {R : Room} {s : State} {m : MethodId} {args : Array Value} {below : List Frame} {meth : Method} {c : Code} {H : Heap} {locs : List Loc} {cells slots : Nat} {Q : State → Prop} {cc : ByteArray} {nL pc index : Nat} {ls : Array Slot} {rest : List Value} {own : String} {D : va_G} {cI cZ cQ : ClassId} {a_this a_folk a_strength a_present a_folk_bank a_folk_kind a_folk_word a_folk_slow a_folk_told a_strength_borne : Nat} {z_folk_planks z_folk_size z_folk_sworn p1 p2 : Int32} {z_strength_borne : Nat → Int32} {fu : Nat} {r : Int32} (hx : p.tables.exec = Jvm.exec) (hb : c.code = cc) (hml : c.maxLocals = nL) (hown : s.vm.findClass own = some m.cls) (hts : ∀ w ∈ TB, w.before args s = true) (hKW : KW D (TY cI cZ cQ) s) (hlk : Cond.methodLink own index yX4_bearsAll ∈ TB) (hP : va_P D vwCl [(a_this, .inr (4, [.ref a_folk, .ref a_strength, .ref a_present])), (a_folk, .inr (0, [.int z_folk_planks, .int z_folk_size, .int z_folk_sworn, .ref a_folk_bank, .ref a_folk_kind, .ref a_folk_word, .ref a_folk_slow, .ref a_folk_told])), (a_strength, .inr (7, [.ref a_folk, .ref a_strength_borne])), (a_strength_borne, .inl (cI, 512, .inl z_strength_borne))] H) (hf : fX4_bearsAll fu z_folk_planks z_strength_borne p1 p2 = some (r)) (hn : ls.size = nL) (hW : (rest.map fun v => v.category).sum ≤ 8) (hR : 1 + 1 ≤ R.frames ∧ 8 + (4 + 11) + 22 ≤ R.locals) (hcs : cells ≤ R.cells ∧ slots ≤ R.slots) (hdg : decode cc pc = .ok (.invokevirtual index, 3)) (kk : W p l e R s m args below meth c H locs cells slots Q (F0 m (pc + 3) ls (.int r :: rest))) : W p l e R s m args below meth c H locs cells slots Q (F0 m pc ls (.int p2 :: .int p1 :: .ref a_this :: rest)) :=
  x_ret (va_runV (As := [.int p1, .int p2]) (rest := rest) ⟨hx, hb, hml, hown, hts⟩ (tX4_bearsAll hf) (cwV 2 hts (tb_V hlk q709 q710 q45 q711) rfl rfl rfl (by decide +kernel) hR) ⟨roB, va_recv hKW.1 hP (ci := 4) (q0 := 0) rfl rfl, fun U hU hW => ⟨rfl, by rw [hU]; exact hP, hKW.warm hW⟩⟩ rfl rfl hn rfl (lv_room hW) hdg hcs) kk

-- HalfPlanks$Planner.fewestPeople(I)I
set_option maxHeartbeats 4000000 in
set_option maxRecDepth 100000 in
theorem tX4_fewestPeople {l : Launch} {D : va_G} {cI cZ cQ : ClassId} {a_this a_folk a_strength a_present a_folk_bank a_folk_kind a_folk_word a_folk_slow a_folk_told a_strength_borne : Nat} {z_folk_planks z_folk_size z_folk_sworn p1 : Int32} {z_strength_borne : Nat → Int32} {fu : Nat} {r : Int32} (hf : fX4_fewestPeople fu z_folk_size z_folk_planks z_strength_borne p1 = some (r)) : Met l yX4_fewestPeople (.code yX4_fewestPeople cX4_fewestPeople 5 (some .int) :: TB) ({ frames := 2, cells := 0, slots := 0, locals := 45 } : Room) (roP D (TY cI cZ cQ) [(a_this, .inr (4, [.ref a_folk, .ref a_strength, .ref a_present])), (a_folk, .inr (0, [.int z_folk_planks, .int z_folk_size, .int z_folk_sworn, .ref a_folk_bank, .ref a_folk_kind, .ref a_folk_word, .ref a_folk_slow, .ref a_folk_told])), (a_strength, .inr (7, [.ref a_folk, .ref a_strength_borne])), (a_strength_borne, .inl (cI, 512, .inl z_strength_borne))] [.ref a_this, .int p1]) (roQ (some (.int r))) 0 0 (fun _ => False) := by
  refine Met.ofW (cc := cX4_fewestPeople) (maxL := 5) (ret := (some .int)) (by decide) rfl ?_
  intro p e s m args below meth c s₁ B hml hv
  obtain ⟨rfl, hP, hKW⟩ := hv
  have hx := B.exec
  have hb := B.bytes
  have hr := B.returns
  have hts : ∀ w ∈ TB, w.before ([.ref a_this, .int p1] : List Value).toArray s = true := fun w h => atoms_spec (ws := .code yX4_fewestPeople cX4_fewestPeople 5 (some .int) :: TB) B.pre w (List.mem_cons_of_mem _ h)
  have hown : s.vm.findClass RX4 = some m.cls := findClass_of_methodNamed B.named
  have hlocks := B.notSynchronized
  have hK := hKW.1
  have hl := lv_entry [.ref a_this, .int p1] (n := 5) (Nat.le_of_ble_eq_true rfl)
  rw [lg_entry_eq]
  generalize (lg_sl [.ref a_this, .int p1] ++ List.replicate (5 - (lg_sl [.ref a_this, .int p1]).length) Slot.unset).toArray = ls at hl ⊢
  have hl : lv_has ls 5 [(0, .ref a_this), (1, .int p1)] := hl
  show W p l e ({ frames := 2, cells := 0, slots := 0, locals := 45 } : Room) s m ([.ref a_this, .int p1] : List Value).toArray below meth c s.heap [] 0 0 (MQ below (roQ (some (.int r))) ([.ref a_this, .int p1] : List Value).toArray s 0 0 (fun _ => False)) (F0 m 0 ls [])
  have hB9 : ∀ (n9 : Nat) (l1 : Int32) (l2 : Int32) (l3 : Int32) (l4 : Int32) (ls : Array Slot), lv_has ls 5 [(0, .ref a_this), (1, .int l1), (2, .int l2), (3, .int l3), (4, .int l4)] → fX4_fewestPeople_b9 fu z_folk_size z_folk_planks z_strength_borne n9 l1 l2 l3 l4 = some (r) → W p l e ({ frames := 2, cells := 0, slots := 0, locals := 45 } : Room) s m ([.ref a_this, .int p1] : List Value).toArray below meth c s.heap [] 0 0 (MQ below (roQ (some (.int r))) ([.ref a_this, .int p1] : List Value).toArray s 0 0 (fun _ => False)) (F0 m 9 ls []) := by
    intro n9
    induction n9 with
    | zero => intro l1 l2 l3 l4 ls hl hf; exact nn hf
    | succ n9 ih9 =>
      intro l1 l2 l3 l4 ls hl hf
      replace hf : fX4_fewestPeople_b9_body fu z_folk_size z_folk_planks z_strength_borne (fX4_fewestPeople_b9 fu z_folk_size z_folk_planks z_strength_borne n9) l1 l2 l3 l4 = some (r) := hf
      unfold fX4_fewestPeople_b9_body at hf
      refine lv_iload hx hb dX4_fewestPeople_9 (lv_at hl 4 rfl) ?_
      refine lv_aload_n hx hb dX4_fewestPeople_11 rfl (lv_at hl 0 rfl) ?_
      refine va_get (D := D) (ci := 4) (v := .ref a_folk) (C := RX4) (T := TX4) (N := 3) hx hb hts inTX4 hown hK hP 0 rfl rfl 0 (by decide) (hts _ q220) (fun _ h9 => h9) rfl dX4_fewestPeople_12 ?_
      obtain ⟨v1, hv1, hf⟩ := ob hf
      refine kX0_everyone hx hb hml hown hts hKW q671 (hP.sub [1] rfl) hv1 hl.1 (Nat.le_of_ble_eq_true rfl) ⟨Nat.le_of_ble_eq_true rfl, Nat.le_of_ble_eq_true rfl⟩ ⟨Nat.zero_le _, Nat.zero_le _⟩ dX4_fewestPeople_15 ?_
      refine lv_icmp_gt (tgt := 55) hx hb dX4_fewestPeople_18 (by decide) (fun c2 => ?_) (fun c2 => ?_)
      · replace hf := it hf c2
        refine lv_iload_n hx hb dX4_fewestPeople_55 rfl (lv_at hl 2 rfl) ?_
        cases hf
        exact W.iret hx hb hr (fun t ht _ => ⟨rfl, ht⟩) (fun q h => by cases h) dX4_fewestPeople_56
      · replace hf := ie hf c2
        refine lv_iload hx hb dX4_fewestPeople_21 (lv_at hl 4 rfl) ?_
        obtain ⟨v3, hv3, hf⟩ := ob hf
        refine kJ6_bitCount_0f7a4 hx hb hml hown hts hKW q707  hv3 hl.1 (Nat.le_of_ble_eq_true rfl) ⟨Nat.le_of_ble_eq_true rfl, Nat.le_of_ble_eq_true rfl⟩ ⟨Nat.zero_le _, Nat.zero_le _⟩ dX4_fewestPeople_23 ?_
        refine lv_iload_n hx hb dX4_fewestPeople_26 rfl (lv_at hl 3 rfl) ?_
        refine lv_icmp_ge (tgt := 49) hx hb dX4_fewestPeople_27 (by decide) (fun c4 => ?_) (fun c4 => ?_)
        · replace hf := it hf c4
          refine lv_iinc (v := (l4 + 1)) (lv' := [(4, .int (l4 + 1)), (0, .ref a_this), (1, .int l1), (2, .int l2), (3, .int l3)]) hx hb dX4_fewestPeople_49 hl (k := 4) rfl rfl (by decide) rfl (fun ls hl => ?_)
          refine lv_goto (tgt := 9) hx hb dX4_fewestPeople_52 (by decide) ?_
          exact ih9 l1 l2 l3 (l4 + 1) ls (lv_sub hl [1, 2, 3, 4, 0] rfl) hf
        · replace hf := ie hf c4
          refine lv_aload_n hx hb dX4_fewestPeople_30 rfl (lv_at hl 0 rfl) ?_
          refine lv_iload hx hb dX4_fewestPeople_31 (lv_at hl 4 rfl) ?_
          refine lv_iload_n hx hb dX4_fewestPeople_33 rfl (lv_at hl 1 rfl) ?_
          obtain ⟨v5, hv5, hf⟩ := ob hf
          refine kX4_bearsAll hx hb hml hown hts hKW q708 (hP.sub [0, 1, 2, 3] rfl) hv5 hl.1 (Nat.le_of_ble_eq_true rfl) ⟨Nat.le_of_ble_eq_true rfl, Nat.le_of_ble_eq_true rfl⟩ ⟨Nat.zero_le _, Nat.zero_le _⟩ dX4_fewestPeople_34 ?_
          refine lv_if_eq (tgt := 49) hx hb dX4_fewestPeople_37 (by decide) (fun c6 => ?_) (fun c6 => ?_)
          · replace hf := it hf c6
            refine lv_iinc (v := (l4 + 1)) (lv' := [(4, .int (l4 + 1)), (0, .ref a_this), (1, .int l1), (2, .int l2), (3, .int l3)]) hx hb dX4_fewestPeople_49 hl (k := 4) rfl rfl (by decide) rfl (fun ls hl => ?_)
            refine lv_goto (tgt := 9) hx hb dX4_fewestPeople_52 (by decide) ?_
            exact ih9 l1 l2 l3 (l4 + 1) ls (lv_sub hl [1, 2, 3, 4, 0] rfl) hf
          · replace hf := ie hf c6
            refine lv_iload hx hb dX4_fewestPeople_40 (lv_at hl 4 rfl) ?_
            refine lv_istore_n (lv' := [(2, .int l4), (0, .ref a_this), (1, .int l1), (3, .int l3), (4, .int l4)]) hx hb dX4_fewestPeople_42 rfl hl (by decide) rfl (fun ls hl => ?_)
            refine lv_iload hx hb dX4_fewestPeople_43 (lv_at hl 4 rfl) ?_
            obtain ⟨v7, hv7, hf⟩ := ob hf
            refine kJ6_bitCount_0f7a4 hx hb hml hown hts hKW q707  hv7 hl.1 (Nat.le_of_ble_eq_true rfl) ⟨Nat.le_of_ble_eq_true rfl, Nat.le_of_ble_eq_true rfl⟩ ⟨Nat.zero_le _, Nat.zero_le _⟩ dX4_fewestPeople_45 ?_
            refine lv_istore_n (lv' := [(3, .int v7), (2, .int l4), (0, .ref a_this), (1, .int l1), (4, .int l4)]) hx hb dX4_fewestPeople_48 rfl hl (by decide) rfl (fun ls hl => ?_)
            refine lv_iinc (v := (l4 + 1)) (lv' := [(4, .int (l4 + 1)), (3, .int v7), (2, .int l4), (0, .ref a_this), (1, .int l1)]) hx hb dX4_fewestPeople_49 hl (k := 4) rfl rfl (by decide) rfl (fun ls hl => ?_)
            refine lv_goto (tgt := 9) hx hb dX4_fewestPeople_52 (by decide) ?_
            exact ih9 l1 l4 v7 (l4 + 1) ls (lv_sub hl [3, 4, 2, 1, 0] rfl) hf
  unfold fX4_fewestPeople at hf
  refine lv_bipush (v := -9) hx hb dX4_fewestPeople_0 (by decide) ?_
  refine lv_istore_n (lv' := [(2, .int (-9)), (0, .ref a_this), (1, .int p1)]) hx hb dX4_fewestPeople_2 rfl hl (by decide) rfl (fun ls hl => ?_)
  refine lv_bipush (v := 9) hx hb dX4_fewestPeople_3 (by decide) ?_
  refine lv_istore_n (lv' := [(3, .int 9), (2, .int (-9)), (0, .ref a_this), (1, .int p1)]) hx hb dX4_fewestPeople_5 rfl hl (by decide) rfl (fun ls hl => ?_)
  refine lv_iconst (v := 1) hx hb dX4_fewestPeople_6 (by decide) ?_
  refine lv_istore (lv' := [(4, .int 1), (3, .int 9), (2, .int (-9)), (0, .ref a_this), (1, .int p1)]) hx hb dX4_fewestPeople_7 hl (by decide) rfl (fun ls hl => ?_)
  exact hB9 fu p1 (-9) 9 1 ls (lv_sub hl [3, 4, 2, 1, 0] rfl) hf
theorem kX4_fewestPeople {p : Program} {l : Launch} {e : Env} {R : Room} {s : State} {m : MethodId} {args : Array Value} {below : List Frame} {meth : Method} {c : Code} {H : Heap} {locs : List Loc} {cells slots : Nat} {Q : State → Prop} {cc : ByteArray} {nL pc index : Nat} {ls : Array Slot} {rest : List Value} {own : String} {D : va_G} {cI cZ cQ : ClassId} {a_this a_folk a_strength a_present a_folk_bank a_folk_kind a_folk_word a_folk_slow a_folk_told a_strength_borne : Nat} {z_folk_planks z_folk_size z_folk_sworn p1 : Int32} {z_strength_borne : Nat → Int32} {fu : Nat} {r : Int32} (hx : p.tables.exec = Jvm.exec) (hb : c.code = cc) (hml : c.maxLocals = nL) (hown : s.vm.findClass own = some m.cls) (hts : ∀ w ∈ TB, w.before args s = true) (hKW : KW D (TY cI cZ cQ) s) (hlk : Cond.methodLink own index yX4_fewestPeople ∈ TB) (hP : va_P D vwCl [(a_this, .inr (4, [.ref a_folk, .ref a_strength, .ref a_present])), (a_folk, .inr (0, [.int z_folk_planks, .int z_folk_size, .int z_folk_sworn, .ref a_folk_bank, .ref a_folk_kind, .ref a_folk_word, .ref a_folk_slow, .ref a_folk_told])), (a_strength, .inr (7, [.ref a_folk, .ref a_strength_borne])), (a_strength_borne, .inl (cI, 512, .inl z_strength_borne))] H) (hf : fX4_fewestPeople fu z_folk_size z_folk_planks z_strength_borne p1 = some (r)) (hn : ls.size = nL) (hW : (rest.map fun v => v.category).sum ≤ 8) (hR : 2 + 1 ≤ R.frames ∧ 8 + (5 + 11) + 45 ≤ R.locals) (hcs : cells ≤ R.cells ∧ slots ≤ R.slots) (hdg : decode cc pc = .ok (.invokevirtual index, 3)) (kk : W p l e R s m args below meth c H locs cells slots Q (F0 m (pc + 3) ls (.int r :: rest))) : W p l e R s m args below meth c H locs cells slots Q (F0 m pc ls (.int p1 :: .ref a_this :: rest)) :=
  x_ret (va_runV (As := [.int p1]) (rest := rest) ⟨hx, hb, hml, hown, hts⟩ (tX4_fewestPeople hf) (cwV 1 hts (tb_V hlk q704 q705 q45 q706) rfl rfl rfl (by decide +kernel) hR) ⟨roB, va_recv hKW.1 hP (ci := 4) (q0 := 0) rfl rfl, fun U hU hW => ⟨rfl, by rw [hU]; exact hP, hKW.warm hW⟩⟩ rfl rfl hn rfl (lv_room hW) hdg hcs) kk

-- HalfPlanks$Planner.mostPairs(LHalfPlanks$Strength;IIIII)I
set_option maxHeartbeats 4000000 in
set_option maxRecDepth 100000 in
theorem tX4_mostPairs {l : Launch} {D : va_G} {cI cZ cQ : ClassId} {a_p0 a_p0_folk a_p0_borne : Nat} {z_p0_borne : Nat → Int32} {fu : Nat} : ∀ (dn : Nat) (p1 p2 p3 p4 p5 r : Int32) (hf : fX4_mostPairs fu z_p0_borne dn p1 p2 p3 p4 p5 = some r), Met l yX4_mostPairs (.code yX4_mostPairs cX4_mostPairs 12 (some .int) :: TB) ({ frames := 1 + dn, cells := 0, slots := 0, locals := 22 + dn * 31 } : Room) (roP D (TY cI cZ cQ) [(a_p0, .inr (7, [.ref a_p0_folk, .ref a_p0_borne])), (a_p0_borne, .inl (cI, 512, .inl z_p0_borne))] [.ref a_p0, .int p1, .int p2, .int p3, .int p4, .int p5]) (roQ (some (.int r))) 0 0 (fun _ => False) := by
  intro dn
  induction dn with
  | zero => intro p1 p2 p3 p4 p5 r hf; exact nn hf
  | succ dn ihd =>
  intro p1 p2 p3 p4 p5 r hf
  replace hf : fX4_mostPairs_rb fu z_p0_borne (fX4_mostPairs fu z_p0_borne dn) p1 p2 p3 p4 p5 = some r := hf
  unfold fX4_mostPairs_rb at hf
  refine Met.ofW (cc := cX4_mostPairs) (maxL := 12) (ret := (some .int)) (by decide) rfl ?_
  intro p e s m args below meth c s₁ B hml hv
  obtain ⟨rfl, hP, hKW⟩ := hv
  have hx := B.exec
  have hb := B.bytes
  have hr := B.returns
  have hts : ∀ w ∈ TB, w.before ([.ref a_p0, .int p1, .int p2, .int p3, .int p4, .int p5] : List Value).toArray s = true := fun w h => atoms_spec (ws := .code yX4_mostPairs cX4_mostPairs 12 (some .int) :: TB) B.pre w (List.mem_cons_of_mem _ h)
  have hown : s.vm.findClass RX4 = some m.cls := findClass_of_methodNamed B.named
  have hlocks := B.notSynchronized
  have hK := hKW.1
  have hl := lv_entry [.ref a_p0, .int p1, .int p2, .int p3, .int p4, .int p5] (n := 12) (Nat.le_of_ble_eq_true rfl)
  rw [lg_entry_eq]
  generalize (lg_sl [.ref a_p0, .int p1, .int p2, .int p3, .int p4, .int p5] ++ List.replicate (12 - (lg_sl [.ref a_p0, .int p1, .int p2, .int p3, .int p4, .int p5]).length) Slot.unset).toArray = ls at hl ⊢
  have hl : lv_has ls 12 [(0, .ref a_p0), (1, .int p1), (2, .int p2), (3, .int p3), (4, .int p4), (5, .int p5)] := hl
  show W p l e ({ frames := 1 + (dn + 1), cells := 0, slots := 0, locals := 22 + (dn + 1) * 31 } : Room) s m ([.ref a_p0, .int p1, .int p2, .int p3, .int p4, .int p5] : List Value).toArray below meth c s.heap [] 0 0 (MQ below (roQ (some (.int r))) ([.ref a_p0, .int p1, .int p2, .int p3, .int p4, .int p5] : List Value).toArray s 0 0 (fun _ => False)) (F0 m 0 ls [])
  have hB202 : ∀ (l1 : Int32) (l2 : Int32) (l4 : Int32) (l5 : Int32) (l6 : Int32) (l7 : Int32) (l8 : Int32) (ls : Array Slot), lv_has ls 12 [(0, .ref a_p0), (1, .int l1), (2, .int l2), (4, .int l4), (5, .int l5), (6, .int l6), (7, .int l7), (8, .int l8)] → fX4_mostPairs_b202 fu z_p0_borne (fX4_mostPairs fu z_p0_borne dn) l1 l2 l4 l5 l6 l7 l8 = some (r) → W p l e ({ frames := 1 + (dn + 1), cells := 0, slots := 0, locals := 22 + (dn + 1) * 31 } : Room) s m ([.ref a_p0, .int p1, .int p2, .int p3, .int p4, .int p5] : List Value).toArray below meth c s.heap [] 0 0 (MQ below (roQ (some (.int r))) ([.ref a_p0, .int p1, .int p2, .int p3, .int p4, .int p5] : List Value).toArray s 0 0 (fun _ => False)) (F0 m 202 ls []) := by
    intro l1 l2 l4 l5 l6 l7 l8 ls hl hf
    unfold fX4_mostPairs_b202 at hf
    refine lv_iload hx hb dX4_mostPairs_202 (lv_at hl 7 rfl) ?_
    refine lv_iload hx hb dX4_mostPairs_204 (lv_at hl 5 rfl) ?_
    refine lv_icmp_ge (tgt := 230) hx hb dX4_mostPairs_206 (by decide) (fun c8 => ?_) (fun c8 => ?_)
    · replace hf := it hf c8
      refine lv_iload hx hb dX4_mostPairs_230 (lv_at hl 7 rfl) ?_
      cases hf
      exact W.iret hx hb hr (fun t ht _ => ⟨rfl, ht⟩) (fun q h => by cases h) dX4_mostPairs_232
    · replace hf := ie hf c8
      refine lv_iload hx hb dX4_mostPairs_209 (lv_at hl 7 rfl) ?_
      refine lv_aload_n hx hb dX4_mostPairs_211 rfl (lv_at hl 0 rfl) ?_
      refine lv_iload_n hx hb dX4_mostPairs_212 rfl (lv_at hl 1 rfl) ?_
      refine lv_iload_n hx hb dX4_mostPairs_213 rfl (lv_at hl 2 rfl) ?_
      refine lv_iconst (v := 1) hx hb dX4_mostPairs_214 (by decide) ?_
      refine lv_iadd hx hb dX4_mostPairs_215 ?_
      refine lv_iload hx hb dX4_mostPairs_216 (lv_at hl 6 rfl) ?_
      refine lv_iload hx hb dX4_mostPairs_218 (lv_at hl 3 rfl) ?_
      refine lv_iload hx hb dX4_mostPairs_220 (lv_at hl 4 rfl) ?_
      obtain ⟨v9, hv9, hf⟩ := ob hf
      refine x_ret (va_runS (As := [.ref a_p0, .int l1, .int (l2 + 1), .int l7, .int l4, .int l5]) ⟨hx, hb, hml, hown, hts⟩ (ihd _ _ _ _ _ _ hv9) (va_cwS 6 hts (tb_S q720 q721 q45 q722) rfl rfl rfl (by decide +kernel) ⟨Nat.le_refl _, by show 8 + (12 + 11) + (22 + dn * 31) ≤ 22 + (dn + 1) * 31; omega⟩) ⟨roB, fun U hU hW => ⟨rfl, by rw [hU]; exact hP, hKW.warm hW⟩⟩ rfl rfl hl.1 rfl (lv_room (Nat.le_of_ble_eq_true rfl)) dX4_mostPairs_222 ⟨Nat.zero_le _, Nat.zero_le _⟩) ?_
      refine x_max hx hb hml hl.1 hown hts q724 ⟨Nat.le_trans (m := 1) (Nat.le_of_ble_eq_true rfl) (Nat.le_add_right _ _), Nat.le_trans (m := 22) (Nat.le_of_ble_eq_true rfl) (Nat.le_add_right _ _)⟩ ⟨Nat.zero_le _, Nat.zero_le _⟩ dX4_mostPairs_225 ?_
      refine lv_istore (lv' := [(8, .int (mx l8 v9)), (0, .ref a_p0), (1, .int l1), (2, .int l2), (4, .int l4), (5, .int l5), (6, .int l6), (7, .int l7)]) hx hb dX4_mostPairs_228 hl (by decide) rfl (fun ls hl => ?_)
      refine lv_iload hx hb dX4_mostPairs_230 (lv_at hl 0 rfl) ?_
      cases hf
      exact W.iret hx hb hr (fun t ht _ => ⟨rfl, ht⟩) (fun q h => by cases h) dX4_mostPairs_232
  have hB68 : ∀ (n68 : Nat) (l1 : Int32) (l2 : Int32) (l4 : Int32) (l5 : Int32) (l6 : Int32) (l7 : Int32) (l8 : Int32) (l9 : Int32) (ls : Array Slot), lv_has ls 12 [(0, .ref a_p0), (1, .int l1), (2, .int l2), (4, .int l4), (5, .int l5), (6, .int l6), (7, .int l7), (8, .int l8), (9, .int l9)] → fX4_mostPairs_b68 fu z_p0_borne (fX4_mostPairs fu z_p0_borne dn) n68 l1 l2 l4 l5 l6 l7 l8 l9 = some (r) → W p l e ({ frames := 1 + (dn + 1), cells := 0, slots := 0, locals := 22 + (dn + 1) * 31 } : Room) s m ([.ref a_p0, .int p1, .int p2, .int p3, .int p4, .int p5] : List Value).toArray below meth c s.heap [] 0 0 (MQ below (roQ (some (.int r))) ([.ref a_p0, .int p1, .int p2, .int p3, .int p4, .int p5] : List Value).toArray s 0 0 (fun _ => False)) (F0 m 68 ls []) := by
    intro n68
    induction n68 with
    | zero => intro l1 l2 l4 l5 l6 l7 l8 l9 ls hl hf; exact nn hf
    | succ n68 ih68 =>
      have hB155 : ∀ (l1 : Int32) (l2 : Int32) (l4 : Int32) (l5 : Int32) (l6 : Int32) (l7 : Int32) (l8 : Int32) (l9 : Int32) (l10 : Int32) (l11 : Int32) (ls : Array Slot), lv_has ls 12 [(0, .ref a_p0), (1, .int l1), (2, .int l2), (4, .int l4), (5, .int l5), (6, .int l6), (7, .int l7), (8, .int l8), (9, .int l9), (10, .int l10), (11, .int l11)] → fX4_mostPairs_b155 fu z_p0_borne (fX4_mostPairs fu z_p0_borne dn) (fX4_mostPairs_b68 fu z_p0_borne (fX4_mostPairs fu z_p0_borne dn) n68) l1 l2 l4 l5 l6 l7 l8 l9 l10 l11 = some (r) → W p l e ({ frames := 1 + (dn + 1), cells := 0, slots := 0, locals := 22 + (dn + 1) * 31 } : Room) s m ([.ref a_p0, .int p1, .int p2, .int p3, .int p4, .int p5] : List Value).toArray below meth c s.heap [] 0 0 (MQ below (roQ (some (.int r))) ([.ref a_p0, .int p1, .int p2, .int p3, .int p4, .int p5] : List Value).toArray s 0 0 (fun _ => False)) (F0 m 155 ls []) := by
        intro l1 l2 l4 l5 l6 l7 l8 l9 l10 l11 ls hl hf
        unfold fX4_mostPairs_b155 at hf
        refine lv_iload hx hb dX4_mostPairs_155 (lv_at hl 4 rfl) ?_
        refine lv_if_le (tgt := 196) hx hb dX4_mostPairs_157 (by decide) (fun c14 => ?_) (fun c14 => ?_)
        · replace hf := it hf c14
          refine lv_iinc (v := (l9 + 1)) (lv' := [(9, .int (l9 + 1)), (0, .ref a_p0), (1, .int l1), (2, .int l2), (4, .int l4), (5, .int l5), (6, .int l6), (7, .int l7), (8, .int l8), (10, .int l10), (11, .int l11)]) hx hb dX4_mostPairs_196 hl (k := 8) rfl rfl (by decide) rfl (fun ls hl => ?_)
          refine lv_goto (tgt := 68) hx hb dX4_mostPairs_199 (by decide) ?_
          exact ih68 l1 l2 l4 l5 l6 l7 l8 (l9 + 1) ls (lv_sub hl [1, 2, 3, 4, 5, 6, 7, 8, 0] rfl) hf
        · replace hf := ie hf c14
          refine lv_aload_n hx hb dX4_mostPairs_160 rfl (lv_at hl 0 rfl) ?_
          refine lv_iconst (v := 1) hx hb dX4_mostPairs_161 (by decide) ?_
          refine lv_iload hx hb dX4_mostPairs_162 (lv_at hl 9 rfl) ?_
          obtain ⟨v15, hv15, hf⟩ := ob hf
          refine kX7_of hx hb hml hown hts hKW q658 (hP.sub [0, 1] rfl) hv15 hl.1 (Nat.le_of_ble_eq_true rfl) ⟨Nat.le_trans (m := 1) (Nat.le_of_ble_eq_true rfl) (Nat.le_add_right _ _), Nat.le_trans (m := 22) (Nat.le_of_ble_eq_true rfl) (Nat.le_add_right _ _)⟩ ⟨Nat.zero_le _, Nat.zero_le _⟩ dX4_mostPairs_164 ?_
          refine lv_iload_n hx hb dX4_mostPairs_167 rfl (lv_at hl 1 rfl) ?_
          refine lv_icmp_lt (tgt := 196) hx hb dX4_mostPairs_168 (by decide) (fun c16 => ?_) (fun c16 => ?_)
          · replace hf := it hf c16
            refine lv_iinc (v := (l9 + 1)) (lv' := [(9, .int (l9 + 1)), (0, .ref a_p0), (1, .int l1), (2, .int l2), (4, .int l4), (5, .int l5), (6, .int l6), (7, .int l7), (8, .int l8), (10, .int l10), (11, .int l11)]) hx hb dX4_mostPairs_196 hl (k := 8) rfl rfl (by decide) rfl (fun ls hl => ?_)
            refine lv_goto (tgt := 68) hx hb dX4_mostPairs_199 (by decide) ?_
            exact ih68 l1 l2 l4 l5 l6 l7 l8 (l9 + 1) ls (lv_sub hl [1, 2, 3, 4, 5, 6, 7, 8, 0] rfl) hf
          · replace hf := ie hf c16
            refine lv_iload hx hb dX4_mostPairs_171 (lv_at hl 7 rfl) ?_
            refine lv_iconst (v := 1) hx hb dX4_mostPairs_173 (by decide) ?_
            refine lv_aload_n hx hb dX4_mostPairs_174 rfl (lv_at hl 0 rfl) ?_
            refine lv_iload_n hx hb dX4_mostPairs_175 rfl (lv_at hl 1 rfl) ?_
            refine lv_iload_n hx hb dX4_mostPairs_176 rfl (lv_at hl 2 rfl) ?_
            refine lv_iconst (v := 1) hx hb dX4_mostPairs_177 (by decide) ?_
            refine lv_iadd hx hb dX4_mostPairs_178 ?_
            refine lv_iload hx hb dX4_mostPairs_179 (lv_at hl 10 rfl) ?_
            refine lv_iload hx hb dX4_mostPairs_181 (lv_at hl 3 rfl) ?_
            refine lv_iload hx hb dX4_mostPairs_183 (lv_at hl 4 rfl) ?_
            refine lv_iconst (v := 1) hx hb dX4_mostPairs_185 (by decide) ?_
            refine lv_isub hx hb dX4_mostPairs_186 ?_
            obtain ⟨v17, hv17, hf⟩ := ob hf
            refine x_ret (va_runS (As := [.ref a_p0, .int l1, .int (l2 + 1), .int l11, .int l4, .int (l5 - 1)]) ⟨hx, hb, hml, hown, hts⟩ (ihd _ _ _ _ _ _ hv17) (va_cwS 6 hts (tb_S q720 q721 q45 q722) rfl rfl rfl (by decide +kernel) ⟨Nat.le_refl _, by show 8 + (12 + 11) + (22 + dn * 31) ≤ 22 + (dn + 1) * 31; omega⟩) ⟨roB, fun U hU hW => ⟨rfl, by rw [hU]; exact hP, hKW.warm hW⟩⟩ rfl rfl hl.1 rfl (lv_room (Nat.le_of_ble_eq_true rfl)) dX4_mostPairs_187 ⟨Nat.zero_le _, Nat.zero_le _⟩) ?_
            refine lv_iadd hx hb dX4_mostPairs_190 ?_
            refine x_max hx hb hml hl.1 hown hts q724 ⟨Nat.le_trans (m := 1) (Nat.le_of_ble_eq_true rfl) (Nat.le_add_right _ _), Nat.le_trans (m := 22) (Nat.le_of_ble_eq_true rfl) (Nat.le_add_right _ _)⟩ ⟨Nat.zero_le _, Nat.zero_le _⟩ dX4_mostPairs_191 ?_
            refine lv_istore (lv' := [(8, .int (mx l8 (1 + v17))), (0, .ref a_p0), (1, .int l1), (2, .int l2), (4, .int l4), (5, .int l5), (6, .int l6), (7, .int l7), (9, .int l9), (10, .int l10), (11, .int l11)]) hx hb dX4_mostPairs_194 hl (by decide) rfl (fun ls hl => ?_)
            refine lv_iinc (v := (l9 + 1)) (lv' := [(9, .int (l9 + 1)), (8, .int (mx l8 (1 + v17))), (0, .ref a_p0), (1, .int l1), (2, .int l2), (4, .int l4), (5, .int l5), (6, .int l6), (7, .int l7), (10, .int l10), (11, .int l11)]) hx hb dX4_mostPairs_196 hl (k := 8) rfl rfl (by decide) rfl (fun ls hl => ?_)
            refine lv_goto (tgt := 68) hx hb dX4_mostPairs_199 (by decide) ?_
            exact ih68 l1 l2 l4 l5 l6 l7 (mx l8 (1 + v17)) (l9 + 1) ls (lv_sub hl [2, 3, 4, 5, 6, 7, 8, 1, 0] rfl) hf
      intro l1 l2 l4 l5 l6 l7 l8 l9 ls hl hf
      replace hf : fX4_mostPairs_b68_body fu z_p0_borne (fX4_mostPairs fu z_p0_borne dn) (fX4_mostPairs_b68 fu z_p0_borne (fX4_mostPairs fu z_p0_borne dn) n68) l1 l2 l4 l5 l6 l7 l8 l9 = some (r) := hf
      unfold fX4_mostPairs_b68_body at hf
      refine lv_iload hx hb dX4_mostPairs_68 (lv_at hl 8 rfl) ?_
      refine lv_bipush (v := 8) hx hb dX4_mostPairs_70 (by decide) ?_
      refine lv_icmp_ge (tgt := 202) hx hb dX4_mostPairs_72 (by decide) (fun c7 => ?_) (fun c7 => ?_)
      · replace hf := it hf c7
        exact hB202 l1 l2 l4 l5 l6 l7 l8 ls (lv_sub hl [0, 1, 2, 3, 4, 5, 6, 7] rfl) hf
      · replace hf := ie hf c7
        refine lv_iload hx hb dX4_mostPairs_75 (lv_at hl 7 rfl) ?_
        refine lv_iload hx hb dX4_mostPairs_77 (lv_at hl 5 rfl) ?_
        refine lv_icmp_ge (tgt := 202) hx hb dX4_mostPairs_79 (by decide) (fun c10 => ?_) (fun c10 => ?_)
        · replace hf := it hf c10
          exact hB202 l1 l2 l4 l5 l6 l7 l8 ls (lv_sub hl [0, 1, 2, 3, 4, 5, 6, 7] rfl) hf
        · replace hf := ie hf c10
          refine lv_iload hx hb dX4_mostPairs_82 (lv_at hl 6 rfl) ?_
          refine lv_iload hx hb dX4_mostPairs_84 (lv_at hl 8 rfl) ?_
          obtain ⟨v11, hv11, hf⟩ := ob hf
          refine knX8_has hx hb hml hown hts hKW (hKW.2 ("HalfPlanks$Planner", 68, yX8_has, "HalfPlanks") (by decide +kernel))  hv11 hl.1 (Nat.le_of_ble_eq_true rfl) ⟨Nat.le_trans (m := 1) (Nat.le_of_ble_eq_true rfl) (Nat.le_add_right _ _), Nat.le_trans (m := 22) (Nat.le_of_ble_eq_true rfl) (Nat.le_add_right _ _)⟩ ⟨Nat.zero_le _, Nat.zero_le _⟩ dX4_mostPairs_86 ?_
          refine lv_if_ne (tgt := 95) hx hb dX4_mostPairs_89 (by decide) (fun c12 => ?_) (fun c12 => ?_)
          · replace hf := ie hf c12
            refine lv_iconst (v := 1) hx hb dX4_mostPairs_95 (by decide) ?_
            refine lv_iload_n hx hb dX4_mostPairs_96 rfl (lv_at hl 2 rfl) ?_
            refine lv_ishl hx hb dX4_mostPairs_97 ?_
            refine lv_iconst (v := 1) hx hb dX4_mostPairs_98 (by decide) ?_
            refine lv_iload hx hb dX4_mostPairs_99 (lv_at hl 8 rfl) ?_
            refine lv_ishl hx hb dX4_mostPairs_101 ?_
            refine lv_ior hx hb dX4_mostPairs_102 ?_
            refine lv_istore (lv' := [(10, .int (((1 : Int32) <<< (l2 &&& 31)) ||| ((1 : Int32) <<< (l9 &&& 31)))), (0, .ref a_p0), (1, .int l1), (2, .int l2), (4, .int l4), (5, .int l5), (6, .int l6), (7, .int l7), (8, .int l8), (9, .int l9)]) hx hb dX4_mostPairs_103 hl (by decide) rfl (fun ls hl => ?_)
            refine lv_iload hx hb dX4_mostPairs_105 (lv_at hl 7 rfl) ?_
            refine lv_iload hx hb dX4_mostPairs_107 (lv_at hl 0 rfl) ?_
            refine lv_iconst (v := -1) hx hb dX4_mostPairs_109 (by decide) ?_
            refine lv_ixor hx hb dX4_mostPairs_110 ?_
            refine lv_iand hx hb dX4_mostPairs_111 ?_
            refine lv_istore (lv' := [(11, .int (l7 &&& ((((1 : Int32) <<< (l2 &&& 31)) ||| ((1 : Int32) <<< (l9 &&& 31))) ^^^ (-1)))), (10, .int (((1 : Int32) <<< (l2 &&& 31)) ||| ((1 : Int32) <<< (l9 &&& 31)))), (0, .ref a_p0), (1, .int l1), (2, .int l2), (4, .int l4), (5, .int l5), (6, .int l6), (7, .int l7), (8, .int l8), (9, .int l9)]) hx hb dX4_mostPairs_112 hl (by decide) rfl (fun ls hl => ?_)
            refine lv_iload hx hb dX4_mostPairs_114 (lv_at hl 5 rfl) ?_
            refine lv_if_le (tgt := 155) hx hb dX4_mostPairs_116 (by decide) (fun c13 => ?_) (fun c13 => ?_)
            · replace hf := it hf c13
              exact hB155 l1 l2 l4 l5 l6 l7 l8 l9 (((1 : Int32) <<< (l2 &&& 31)) ||| ((1 : Int32) <<< (l9 &&& 31))) (l7 &&& ((((1 : Int32) <<< (l2 &&& 31)) ||| ((1 : Int32) <<< (l9 &&& 31))) ^^^ (-1))) ls (lv_sub hl [2, 3, 4, 5, 6, 7, 8, 9, 10, 1, 0] rfl) hf
            · replace hf := ie hf c13
              refine lv_aload_n hx hb dX4_mostPairs_119 rfl (lv_at hl 2 rfl) ?_
              refine lv_iconst (v := 0) hx hb dX4_mostPairs_120 (by decide) ?_
              refine lv_iload hx hb dX4_mostPairs_121 (lv_at hl 1 rfl) ?_
              obtain ⟨v18, hv18, hf⟩ := ob hf
              refine kX7_of hx hb hml hown hts hKW q658 (hP.sub [0, 1] rfl) hv18 hl.1 (Nat.le_of_ble_eq_true rfl) ⟨Nat.le_trans (m := 1) (Nat.le_of_ble_eq_true rfl) (Nat.le_add_right _ _), Nat.le_trans (m := 22) (Nat.le_of_ble_eq_true rfl) (Nat.le_add_right _ _)⟩ ⟨Nat.zero_le _, Nat.zero_le _⟩ dX4_mostPairs_123 ?_
              refine lv_iload_n hx hb dX4_mostPairs_126 rfl (lv_at hl 3 rfl) ?_
              refine lv_icmp_lt (tgt := 155) hx hb dX4_mostPairs_127 (by decide) (fun c19 => ?_) (fun c19 => ?_)
              · replace hf := it hf c19
                exact hB155 l1 l2 l4 l5 l6 l7 l8 l9 (((1 : Int32) <<< (l2 &&& 31)) ||| ((1 : Int32) <<< (l9 &&& 31))) (l7 &&& ((((1 : Int32) <<< (l2 &&& 31)) ||| ((1 : Int32) <<< (l9 &&& 31))) ^^^ (-1))) ls (lv_sub hl [2, 3, 4, 5, 6, 7, 8, 9, 10, 1, 0] rfl) hf
              · replace hf := ie hf c19
                refine lv_iload hx hb dX4_mostPairs_130 (lv_at hl 9 rfl) ?_
                refine lv_iconst (v := 1) hx hb dX4_mostPairs_132 (by decide) ?_
                refine lv_aload_n hx hb dX4_mostPairs_133 rfl (lv_at hl 2 rfl) ?_
                refine lv_iload_n hx hb dX4_mostPairs_134 rfl (lv_at hl 3 rfl) ?_
                refine lv_iload_n hx hb dX4_mostPairs_135 rfl (lv_at hl 4 rfl) ?_
                refine lv_iconst (v := 1) hx hb dX4_mostPairs_136 (by decide) ?_
                refine lv_iadd hx hb dX4_mostPairs_137 ?_
                refine lv_iload hx hb dX4_mostPairs_138 (lv_at hl 0 rfl) ?_
                refine lv_iload hx hb dX4_mostPairs_140 (lv_at hl 5 rfl) ?_
                refine lv_iconst (v := 1) hx hb dX4_mostPairs_142 (by decide) ?_
                refine lv_isub hx hb dX4_mostPairs_143 ?_
                refine lv_iload hx hb dX4_mostPairs_144 (lv_at hl 6 rfl) ?_
                obtain ⟨v20, hv20, hf⟩ := ob hf
                refine x_ret (va_runS (As := [.ref a_p0, .int l1, .int (l2 + 1), .int (l7 &&& ((((1 : Int32) <<< (l2 &&& 31)) ||| ((1 : Int32) <<< (l9 &&& 31))) ^^^ (-1))), .int (l4 - 1), .int l5]) ⟨hx, hb, hml, hown, hts⟩ (ihd _ _ _ _ _ _ hv20) (va_cwS 6 hts (tb_S q720 q721 q45 q722) rfl rfl rfl (by decide +kernel) ⟨Nat.le_refl _, by show 8 + (12 + 11) + (22 + dn * 31) ≤ 22 + (dn + 1) * 31; omega⟩) ⟨roB, fun U hU hW => ⟨rfl, by rw [hU]; exact hP, hKW.warm hW⟩⟩ rfl rfl hl.1 rfl (lv_room (Nat.le_of_ble_eq_true rfl)) dX4_mostPairs_146 ⟨Nat.zero_le _, Nat.zero_le _⟩) ?_
                refine lv_iadd hx hb dX4_mostPairs_149 ?_
                refine x_max hx hb hml hl.1 hown hts q724 ⟨Nat.le_trans (m := 1) (Nat.le_of_ble_eq_true rfl) (Nat.le_add_right _ _), Nat.le_trans (m := 22) (Nat.le_of_ble_eq_true rfl) (Nat.le_add_right _ _)⟩ ⟨Nat.zero_le _, Nat.zero_le _⟩ dX4_mostPairs_150 ?_
                refine lv_istore (lv' := [(8, .int (mx l8 (1 + v20))), (11, .int (l7 &&& ((((1 : Int32) <<< (l2 &&& 31)) ||| ((1 : Int32) <<< (l9 &&& 31))) ^^^ (-1)))), (10, .int (((1 : Int32) <<< (l2 &&& 31)) ||| ((1 : Int32) <<< (l9 &&& 31)))), (0, .ref a_p0), (1, .int l1), (2, .int l2), (4, .int l4), (5, .int l5), (6, .int l6), (7, .int l7), (9, .int l9)]) hx hb dX4_mostPairs_153 hl (by decide) rfl (fun ls hl => ?_)
                exact hB155 l1 l2 l4 l5 l6 l7 (mx l8 (1 + v20)) l9 (((1 : Int32) <<< (l2 &&& 31)) ||| ((1 : Int32) <<< (l9 &&& 31))) (l7 &&& ((((1 : Int32) <<< (l2 &&& 31)) ||| ((1 : Int32) <<< (l9 &&& 31))) ^^^ (-1))) ls (lv_sub hl [3, 4, 5, 6, 7, 8, 9, 0, 10, 2, 1] rfl) hf
          · replace hf := it hf c12
            refine lv_goto (tgt := 196) hx hb dX4_mostPairs_92 (by decide) ?_
            refine lv_iinc (v := (l9 + 1)) (lv' := [(9, .int (l9 + 1)), (0, .ref a_p0), (1, .int l1), (2, .int l2), (4, .int l4), (5, .int l5), (6, .int l6), (7, .int l7), (8, .int l8)]) hx hb dX4_mostPairs_196 hl (k := 8) rfl rfl (by decide) rfl (fun ls hl => ?_)
            refine lv_goto (tgt := 68) hx hb dX4_mostPairs_199 (by decide) ?_
            exact ih68 l1 l2 l4 l5 l6 l7 l8 (l9 + 1) ls (lv_sub hl [1, 2, 3, 4, 5, 6, 7, 8, 0] rfl) hf
  refine lv_iload_n hx hb dX4_mostPairs_0 rfl (lv_at hl 3 rfl) ?_
  obtain ⟨v1, hv1, hf⟩ := ob hf
  refine kJ6_bitCount_0f7a4 hx hb hml hown hts hKW q707  hv1 hl.1 (Nat.le_of_ble_eq_true rfl) ⟨Nat.le_trans (m := 1) (Nat.le_of_ble_eq_true rfl) (Nat.le_add_right _ _), Nat.le_trans (m := 22) (Nat.le_of_ble_eq_true rfl) (Nat.le_add_right _ _)⟩ ⟨Nat.zero_le _, Nat.zero_le _⟩ dX4_mostPairs_1 ?_
  refine lv_iconst (v := 2) hx hb dX4_mostPairs_4 (by decide) ?_
  obtain ⟨v2, hv2, hf⟩ := ob hf
  refine x_idiv hx hb dX4_mostPairs_5 hv2 ?_
  refine lv_iload hx hb dX4_mostPairs_6 (lv_at hl 4 rfl) ?_
  refine lv_iload hx hb dX4_mostPairs_8 (lv_at hl 5 rfl) ?_
  refine lv_iadd hx hb dX4_mostPairs_10 ?_
  refine x_min hx hb hml hl.1 hown hts q723 ⟨Nat.le_trans (m := 1) (Nat.le_of_ble_eq_true rfl) (Nat.le_add_right _ _), Nat.le_trans (m := 22) (Nat.le_of_ble_eq_true rfl) (Nat.le_add_right _ _)⟩ ⟨Nat.zero_le _, Nat.zero_le _⟩ dX4_mostPairs_11 ?_
  refine lv_istore (lv' := [(6, .int (mn v2 (p4 + p5))), (0, .ref a_p0), (1, .int p1), (2, .int p2), (3, .int p3), (4, .int p4), (5, .int p5)]) hx hb dX4_mostPairs_14 hl (by decide) rfl (fun ls hl => ?_)
  refine lv_iload_n hx hb dX4_mostPairs_16 rfl (lv_at hl 3 rfl) ?_
  refine lv_bipush (v := 8) hx hb dX4_mostPairs_17 (by decide) ?_
  refine lv_icmp_ge (tgt := 27) hx hb dX4_mostPairs_19 (by decide) (fun c3 => ?_) (fun c3 => ?_)
  · replace hf := it hf c3
    refine lv_iconst (v := 0) hx hb dX4_mostPairs_27 (by decide) ?_
    cases hf
    exact W.iret hx hb hr (fun t ht _ => ⟨rfl, ht⟩) (fun q h => by cases h) dX4_mostPairs_28
  · replace hf := ie hf c3
    refine lv_iload hx hb dX4_mostPairs_22 (lv_at hl 0 rfl) ?_
    refine lv_if_gt (tgt := 29) hx hb dX4_mostPairs_24 (by decide) (fun c4 => ?_) (fun c4 => ?_)
    · replace hf := it hf c4
      refine lv_iload_n hx hb dX4_mostPairs_29 rfl (lv_at hl 4 rfl) ?_
      refine lv_iload_n hx hb dX4_mostPairs_30 rfl (lv_at hl 3 rfl) ?_
      obtain ⟨v5, hv5, hf⟩ := ob hf
      refine knX8_has hx hb hml hown hts hKW (hKW.2 ("HalfPlanks$Planner", 68, yX8_has, "HalfPlanks") (by decide +kernel))  hv5 hl.1 (Nat.le_of_ble_eq_true rfl) ⟨Nat.le_trans (m := 1) (Nat.le_of_ble_eq_true rfl) (Nat.le_add_right _ _), Nat.le_trans (m := 22) (Nat.le_of_ble_eq_true rfl) (Nat.le_add_right _ _)⟩ ⟨Nat.zero_le _, Nat.zero_le _⟩ dX4_mostPairs_31 ?_
      refine lv_if_ne (tgt := 51) hx hb dX4_mostPairs_34 (by decide) (fun c6 => ?_) (fun c6 => ?_)
      · replace hf := ie hf c6
        refine lv_iload_n hx hb dX4_mostPairs_51 rfl (lv_at hl 4 rfl) ?_
        refine lv_iconst (v := 1) hx hb dX4_mostPairs_52 (by decide) ?_
        refine lv_iload_n hx hb dX4_mostPairs_53 rfl (lv_at hl 3 rfl) ?_
        refine lv_ishl hx hb dX4_mostPairs_54 ?_
        refine lv_iconst (v := -1) hx hb dX4_mostPairs_55 (by decide) ?_
        refine lv_ixor hx hb dX4_mostPairs_56 ?_
        refine lv_iand hx hb dX4_mostPairs_57 ?_
        refine lv_istore (lv' := [(7, .int (p3 &&& (((1 : Int32) <<< (p2 &&& 31)) ^^^ (-1)))), (6, .int (mn v2 (p4 + p5))), (0, .ref a_p0), (1, .int p1), (2, .int p2), (3, .int p3), (4, .int p4), (5, .int p5)]) hx hb dX4_mostPairs_58 hl (by decide) rfl (fun ls hl => ?_)
        refine lv_iconst (v := 0) hx hb dX4_mostPairs_60 (by decide) ?_
        refine lv_istore (lv' := [(8, .int 0), (7, .int (p3 &&& (((1 : Int32) <<< (p2 &&& 31)) ^^^ (-1)))), (6, .int (mn v2 (p4 + p5))), (0, .ref a_p0), (1, .int p1), (2, .int p2), (3, .int p3), (4, .int p4), (5, .int p5)]) hx hb dX4_mostPairs_61 hl (by decide) rfl (fun ls hl => ?_)
        refine lv_iload_n hx hb dX4_mostPairs_63 rfl (lv_at hl 5 rfl) ?_
        refine lv_iconst (v := 1) hx hb dX4_mostPairs_64 (by decide) ?_
        refine lv_iadd hx hb dX4_mostPairs_65 ?_
        refine lv_istore (lv' := [(9, .int (p2 + 1)), (8, .int 0), (7, .int (p3 &&& (((1 : Int32) <<< (p2 &&& 31)) ^^^ (-1)))), (6, .int (mn v2 (p4 + p5))), (0, .ref a_p0), (1, .int p1), (2, .int p2), (3, .int p3), (4, .int p4), (5, .int p5)]) hx hb dX4_mostPairs_66 hl (by decide) rfl (fun ls hl => ?_)
        exact hB68 fu p1 p2 p4 p5 (mn v2 (p4 + p5)) (p3 &&& (((1 : Int32) <<< (p2 &&& 31)) ^^^ (-1))) 0 (p2 + 1) ls (lv_sub hl [4, 5, 6, 8, 9, 3, 2, 1, 0] rfl) hf
      · replace hf := it hf c6
        refine lv_aload_n hx hb dX4_mostPairs_37 rfl (lv_at hl 1 rfl) ?_
        refine lv_iload_n hx hb dX4_mostPairs_38 rfl (lv_at hl 2 rfl) ?_
        refine lv_iload_n hx hb dX4_mostPairs_39 rfl (lv_at hl 3 rfl) ?_
        refine lv_iconst (v := 1) hx hb dX4_mostPairs_40 (by decide) ?_
        refine lv_iadd hx hb dX4_mostPairs_41 ?_
        refine lv_iload_n hx hb dX4_mostPairs_42 rfl (lv_at hl 4 rfl) ?_
        refine lv_iload hx hb dX4_mostPairs_43 (lv_at hl 5 rfl) ?_
        refine lv_iload hx hb dX4_mostPairs_45 (lv_at hl 6 rfl) ?_
        obtain ⟨v21, hv21, hf⟩ := ob hf
        refine x_ret (va_runS (As := [.ref a_p0, .int p1, .int (p2 + 1), .int p3, .int p4, .int p5]) ⟨hx, hb, hml, hown, hts⟩ (ihd _ _ _ _ _ _ hv21) (va_cwS 6 hts (tb_S q720 q721 q45 q722) rfl rfl rfl (by decide +kernel) ⟨Nat.le_refl _, by show 8 + (12 + 11) + (22 + dn * 31) ≤ 22 + (dn + 1) * 31; omega⟩) ⟨roB, fun U hU hW => ⟨rfl, by rw [hU]; exact hP, hKW.warm hW⟩⟩ rfl rfl hl.1 rfl (lv_room (Nat.le_of_ble_eq_true rfl)) dX4_mostPairs_47 ⟨Nat.zero_le _, Nat.zero_le _⟩) ?_
        cases hf
        exact W.iret hx hb hr (fun t ht _ => ⟨rfl, ht⟩) (fun q h => by cases h) dX4_mostPairs_50
    · replace hf := ie hf c4
      refine lv_iconst (v := 0) hx hb dX4_mostPairs_27 (by decide) ?_
      cases hf
      exact W.iret hx hb hr (fun t ht _ => ⟨rfl, ht⟩) (fun q h => by cases h) dX4_mostPairs_28
theorem kX4_mostPairs {p : Program} {l : Launch} {e : Env} {R : Room} {s : State} {m : MethodId} {args : Array Value} {below : List Frame} {meth : Method} {c : Code} {H : Heap} {locs : List Loc} {cells slots : Nat} {Q : State → Prop} {cc : ByteArray} {nL pc index : Nat} {ls : Array Slot} {rest : List Value} {own : String} {D : va_G} {cI cZ cQ : ClassId} {a_p0 a_p0_folk a_p0_borne : Nat} {p1 p2 p3 p4 p5 : Int32} {z_p0_borne : Nat → Int32} {fu : Nat} {r : Int32} (hx : p.tables.exec = Jvm.exec) (hb : c.code = cc) (hml : c.maxLocals = nL) (hown : s.vm.findClass own = some m.cls) (hts : ∀ w ∈ TB, w.before args s = true) (hKW : KW D (TY cI cZ cQ) s) (hlk : Cond.methodLink own index yX4_mostPairs ∈ TB) (hP : va_P D vwCl [(a_p0, .inr (7, [.ref a_p0_folk, .ref a_p0_borne])), (a_p0_borne, .inl (cI, 512, .inl z_p0_borne))] H) (hf : fX4_mostPairs fu z_p0_borne 10 p1 p2 p3 p4 p5 = some (r)) (hn : ls.size = nL) (hW : (rest.map fun v => v.category).sum ≤ 8) (hR : 11 + 1 ≤ R.frames ∧ 8 + (12 + 11) + 332 ≤ R.locals) (hcs : cells ≤ R.cells ∧ slots ≤ R.slots) (hdg : decode cc pc = .ok (.invokestatic index, 3)) (kk : W p l e R s m args below meth c H locs cells slots Q (F0 m (pc + 3) ls (.int r :: rest))) : W p l e R s m args below meth c H locs cells slots Q (F0 m pc ls (.int p5 :: .int p4 :: .int p3 :: .int p2 :: .int p1 :: .ref a_p0 :: rest)) :=
  x_ret (va_runS (As := [.ref a_p0, .int p1, .int p2, .int p3, .int p4, .int p5]) (rest := rest) ⟨hx, hb, hml, hown, hts⟩ (tX4_mostPairs 10 _ _ _ _ _ _ hf) (va_cwS 6 hts (tb_S hlk q721 q45 q722) rfl rfl rfl (by decide +kernel) hR) ⟨roB, fun U hU hW => ⟨rfl, by rw [hU]; exact hP, hKW.warm hW⟩⟩ rfl rfl hn rfl (lv_room hW) hdg hcs) kk

-- HalfPlanks$Planner.mostHeld(I)I
set_option maxHeartbeats 4000000 in
set_option maxRecDepth 100000 in
theorem tX4_mostHeld {l : Launch} {D : va_G} {cI cZ cQ : ClassId} {a_this a_folk a_strength a_present a_folk_bank a_folk_kind a_folk_word a_folk_slow a_folk_told a_strength_borne : Nat} {z_folk_planks z_folk_size z_folk_sworn p1 : Int32} {z_strength_borne : Nat → Int32} {fu : Nat} {r : Int32} (hf : fX4_mostHeld fu z_folk_planks z_folk_size z_strength_borne p1 = some (r)) : Met l yX4_mostHeld (.code yX4_mostHeld cX4_mostHeld 3 (some .int) :: TB) ({ frames := 12, cells := 0, slots := 0, locals := 363 } : Room) (roP D (TY cI cZ cQ) [(a_this, .inr (4, [.ref a_folk, .ref a_strength, .ref a_present])), (a_folk, .inr (0, [.int z_folk_planks, .int z_folk_size, .int z_folk_sworn, .ref a_folk_bank, .ref a_folk_kind, .ref a_folk_word, .ref a_folk_slow, .ref a_folk_told])), (a_strength, .inr (7, [.ref a_folk, .ref a_strength_borne])), (a_strength_borne, .inl (cI, 512, .inl z_strength_borne))] [.ref a_this, .int p1]) (roQ (some (.int r))) 0 0 (fun _ => False) := by
  refine Met.ofW (cc := cX4_mostHeld) (maxL := 3) (ret := (some .int)) (by decide) rfl ?_
  intro p e s m args below meth c s₁ B hml hv
  obtain ⟨rfl, hP, hKW⟩ := hv
  have hx := B.exec
  have hb := B.bytes
  have hr := B.returns
  have hts : ∀ w ∈ TB, w.before ([.ref a_this, .int p1] : List Value).toArray s = true := fun w h => atoms_spec (ws := .code yX4_mostHeld cX4_mostHeld 3 (some .int) :: TB) B.pre w (List.mem_cons_of_mem _ h)
  have hown : s.vm.findClass RX4 = some m.cls := findClass_of_methodNamed B.named
  have hlocks := B.notSynchronized
  have hK := hKW.1
  have hl := lv_entry [.ref a_this, .int p1] (n := 3) (Nat.le_of_ble_eq_true rfl)
  rw [lg_entry_eq]
  generalize (lg_sl [.ref a_this, .int p1] ++ List.replicate (3 - (lg_sl [.ref a_this, .int p1]).length) Slot.unset).toArray = ls at hl ⊢
  have hl : lv_has ls 3 [(0, .ref a_this), (1, .int p1)] := hl
  show W p l e ({ frames := 12, cells := 0, slots := 0, locals := 363 } : Room) s m ([.ref a_this, .int p1] : List Value).toArray below meth c s.heap [] 0 0 (MQ below (roQ (some (.int r))) ([.ref a_this, .int p1] : List Value).toArray s 0 0 (fun _ => False)) (F0 m 0 ls [])
  unfold fX4_mostHeld at hf
  refine lv_aload_n hx hb dX4_mostHeld_0 rfl (lv_at hl 0 rfl) ?_
  refine va_get (D := D) (ci := 4) (v := .ref a_folk) (C := RX4) (T := TX4) (N := 3) hx hb hts inTX4 hown hK hP 0 rfl rfl 0 (by decide) (hts _ q220) (fun _ h9 => h9) rfl dX4_mostHeld_1 ?_
  refine va_get (D := D) (ci := 0) (v := .int z_folk_planks) (C := RX0) (T := TX0) (N := 8) hx hb hts inTX0 hown hK hP 1 rfl rfl 0 (by decide) (hts _ q72) (fun _ h9 => h9) rfl dX4_mostHeld_4 ?_
  refine lv_iconst (v := 2) hx hb dX4_mostHeld_7 (by decide) ?_
  obtain ⟨v1, hv1, hf⟩ := ob hf
  refine x_idiv hx hb dX4_mostHeld_8 hv1 ?_
  refine lv_istore_n (lv' := [(2, .int v1), (0, .ref a_this), (1, .int p1)]) hx hb dX4_mostHeld_9 rfl hl (by decide) rfl (fun ls hl => ?_)
  refine lv_aload_n hx hb dX4_mostHeld_10 rfl (lv_at hl 1 rfl) ?_
  refine va_get (D := D) (ci := 4) (v := .ref a_strength) (C := RX4) (T := TX4) (N := 3) hx hb hts inTX4 hown hK hP 0 rfl rfl 1 (by decide) (hts _ q221) (fun _ h9 => h9) rfl dX4_mostHeld_11 ?_
  refine lv_iload_n hx hb dX4_mostHeld_14 rfl (lv_at hl 2 rfl) ?_
  refine lv_iconst (v := 0) hx hb dX4_mostHeld_15 (by decide) ?_
  refine lv_aload_n hx hb dX4_mostHeld_16 rfl (lv_at hl 1 rfl) ?_
  refine va_get (D := D) (ci := 4) (v := .ref a_folk) (C := RX4) (T := TX4) (N := 3) hx hb hts inTX4 hown hK hP 0 rfl rfl 0 (by decide) (hts _ q220) (fun _ h9 => h9) rfl dX4_mostHeld_17 ?_
  obtain ⟨v2, hv2, hf⟩ := ob hf
  refine kX0_everyone hx hb hml hown hts hKW q671 (hP.sub [1] rfl) hv2 hl.1 (Nat.le_of_ble_eq_true rfl) ⟨Nat.le_of_ble_eq_true rfl, Nat.le_of_ble_eq_true rfl⟩ ⟨Nat.zero_le _, Nat.zero_le _⟩ dX4_mostHeld_20 ?_
  refine lv_aload_n hx hb dX4_mostHeld_23 rfl (lv_at hl 1 rfl) ?_
  refine va_get (D := D) (ci := 4) (v := .ref a_folk) (C := RX4) (T := TX4) (N := 3) hx hb hts inTX4 hown hK hP 0 rfl rfl 0 (by decide) (hts _ q220) (fun _ h9 => h9) rfl dX4_mostHeld_24 ?_
  refine va_get (D := D) (ci := 0) (v := .int z_folk_planks) (C := RX0) (T := TX0) (N := 8) hx hb hts inTX0 hown hK hP 1 rfl rfl 0 (by decide) (hts _ q72) (fun _ h9 => h9) rfl dX4_mostHeld_27 ?_
  refine lv_iload_n hx hb dX4_mostHeld_30 rfl (lv_at hl 0 rfl) ?_
  refine lv_isub hx hb dX4_mostHeld_31 ?_
  refine lv_iload_n hx hb dX4_mostHeld_32 rfl (lv_at hl 0 rfl) ?_
  obtain ⟨v3, hv3, hf⟩ := ob hf
  refine kX4_mostPairs hx hb hml hown hts hKW q720 (hP.sub [2, 3] rfl) hv3 hl.1 (Nat.le_of_ble_eq_true rfl) ⟨Nat.le_of_ble_eq_true rfl, Nat.le_of_ble_eq_true rfl⟩ ⟨Nat.zero_le _, Nat.zero_le _⟩ dX4_mostHeld_33 ?_
  cases hf
  exact W.iret hx hb hr (fun t ht _ => ⟨rfl, ht⟩) (fun q h => by cases h) dX4_mostHeld_36
theorem kX4_mostHeld {p : Program} {l : Launch} {e : Env} {R : Room} {s : State} {m : MethodId} {args : Array Value} {below : List Frame} {meth : Method} {c : Code} {H : Heap} {locs : List Loc} {cells slots : Nat} {Q : State → Prop} {cc : ByteArray} {nL pc index : Nat} {ls : Array Slot} {rest : List Value} {own : String} {D : va_G} {cI cZ cQ : ClassId} {a_this a_folk a_strength a_present a_folk_bank a_folk_kind a_folk_word a_folk_slow a_folk_told a_strength_borne : Nat} {z_folk_planks z_folk_size z_folk_sworn p1 : Int32} {z_strength_borne : Nat → Int32} {fu : Nat} {r : Int32} (hx : p.tables.exec = Jvm.exec) (hb : c.code = cc) (hml : c.maxLocals = nL) (hown : s.vm.findClass own = some m.cls) (hts : ∀ w ∈ TB, w.before args s = true) (hKW : KW D (TY cI cZ cQ) s) (hlk : Cond.methodLink own index yX4_mostHeld ∈ TB) (hP : va_P D vwCl [(a_this, .inr (4, [.ref a_folk, .ref a_strength, .ref a_present])), (a_folk, .inr (0, [.int z_folk_planks, .int z_folk_size, .int z_folk_sworn, .ref a_folk_bank, .ref a_folk_kind, .ref a_folk_word, .ref a_folk_slow, .ref a_folk_told])), (a_strength, .inr (7, [.ref a_folk, .ref a_strength_borne])), (a_strength_borne, .inl (cI, 512, .inl z_strength_borne))] H) (hf : fX4_mostHeld fu z_folk_planks z_folk_size z_strength_borne p1 = some (r)) (hn : ls.size = nL) (hW : (rest.map fun v => v.category).sum ≤ 8) (hR : 12 + 1 ≤ R.frames ∧ 8 + (3 + 11) + 363 ≤ R.locals) (hcs : cells ≤ R.cells ∧ slots ≤ R.slots) (hdg : decode cc pc = .ok (.invokevirtual index, 3)) (kk : W p l e R s m args below meth c H locs cells slots Q (F0 m (pc + 3) ls (.int r :: rest))) : W p l e R s m args below meth c H locs cells slots Q (F0 m pc ls (.int p1 :: .ref a_this :: rest)) :=
  x_ret (va_runV (As := [.int p1]) (rest := rest) ⟨hx, hb, hml, hown, hts⟩ (tX4_mostHeld hf) (cwV 1 hts (tb_V hlk q717 q718 q45 q719) rfl rfl rfl (by decide +kernel) hR) ⟨roB, va_recv hKW.1 hP (ci := 4) (q0 := 0) rfl rfl, fun U hU hW => ⟨rfl, by rw [hU]; exact hP, hKW.warm hW⟩⟩ rfl rfl hn rfl (lv_room hW) hdg hcs) kk
