-- HalfPlanks$Promises.begin(LHalfPlanks$Folk;)V
set_option maxHeartbeats 4000000 in
set_option maxRecDepth 100000 in
theorem tX5_begin {l : Launch} {D : va_G} {cI cZ cQ : ClassId} {a_this a_came a_under a_due a_p1 a_p1_bank a_p1_kind a_p1_word a_p1_slow a_p1_told : Nat} {z_day z_crossed z_p1_planks z_p1_size z_p1_sworn : Int32} {z_p1_told z_came z_under : Nat → Int32} {fu : Nat} {o_z_day o_z_crossed : Int32} {o_z_came o_z_under : Nat → Int32} (hf : fX5_begin fu z_p1_told z_came z_under z_day z_crossed = some (o_z_came, o_z_under, o_z_day, o_z_crossed)) : Met l yX5_begin (.code yX5_begin cX5_begin 3 none :: TB) ({ frames := 0, cells := 0, slots := 0, locals := 0 } : Room) (rwP D (TY cI cZ cQ) [(a_this, .inr (5, [.int z_day, .int z_crossed, .ref a_came, .ref a_under, .ref a_due])), (a_p1, .inr (0, [.int z_p1_planks, .int z_p1_size, .int z_p1_sworn, .ref a_p1_bank, .ref a_p1_kind, .ref a_p1_word, .ref a_p1_slow, .ref a_p1_told])), (a_p1_told, .inl (cI, 8, .inl z_p1_told)), (a_came, .inl (cI, 8, .inl z_came)), (a_under, .inl (cI, 8, .inl z_under))] [.ref a_this, .ref a_p1]) (rwQ D none [(a_this, .inr (5, [.int o_z_day, .int o_z_crossed, .ref a_came, .ref a_under, .ref a_due])), (a_p1, .inr (0, [.int z_p1_planks, .int z_p1_size, .int z_p1_sworn, .ref a_p1_bank, .ref a_p1_kind, .ref a_p1_word, .ref a_p1_slow, .ref a_p1_told])), (a_p1_told, .inl (cI, 8, .inl z_p1_told)), (a_came, .inl (cI, 8, .inl o_z_came)), (a_under, .inl (cI, 8, .inl o_z_under))] (inW [(a_this, .inr (5, [.int z_day, .int z_crossed, .ref a_came, .ref a_under, .ref a_due])), (a_p1, .inr (0, [.int z_p1_planks, .int z_p1_size, .int z_p1_sworn, .ref a_p1_bank, .ref a_p1_kind, .ref a_p1_word, .ref a_p1_slow, .ref a_p1_told])), (a_p1_told, .inl (cI, 8, .inl z_p1_told)), (a_came, .inl (cI, 8, .inl z_came)), (a_under, .inl (cI, 8, .inl z_under))])) 0 0 (inW [(a_this, .inr (5, [.int z_day, .int z_crossed, .ref a_came, .ref a_under, .ref a_due])), (a_p1, .inr (0, [.int z_p1_planks, .int z_p1_size, .int z_p1_sworn, .ref a_p1_bank, .ref a_p1_kind, .ref a_p1_word, .ref a_p1_slow, .ref a_p1_told])), (a_p1_told, .inl (cI, 8, .inl z_p1_told)), (a_came, .inl (cI, 8, .inl z_came)), (a_under, .inl (cI, 8, .inl z_under))]) := by
  refine Met.ofW (cc := cX5_begin) (maxL := 3) (ret := none) (by decide) rfl ?_
  intro p e s m args below meth c s₁ B hml hv
  obtain ⟨rfl, hP, hKW, hD0⟩ := hv
  have hx := B.exec
  have hb := B.bytes
  have hr := B.returns
  have hts : ∀ w ∈ TB, w.before ([.ref a_this, .ref a_p1] : List Value).toArray s = true := fun w h => atoms_spec (ws := .code yX5_begin cX5_begin 3 none :: TB) B.pre w (List.mem_cons_of_mem _ h)
  have hown : s.vm.findClass RX5 = some m.cls := findClass_of_methodNamed B.named
  have hlocks := B.notSynchronized
  have hK := hKW.1
  have hD := inW_D hD0
  generalize hAe : inW [(a_this, .inr (5, [.int z_day, .int z_crossed, .ref a_came, .ref a_under, .ref a_due])), (a_p1, .inr (0, [.int z_p1_planks, .int z_p1_size, .int z_p1_sworn, .ref a_p1_bank, .ref a_p1_kind, .ref a_p1_word, .ref a_p1_slow, .ref a_p1_told])), (a_p1_told, .inl (cI, 8, .inl z_p1_told)), (a_came, .inl (cI, 8, .inl z_came)), (a_under, .inl (cI, 8, .inl z_under))] = A at hD ⊢
  have hS : va_S A s.heap s.heap [] := va_S.rf
  have hl := lv_entry [.ref a_this, .ref a_p1] (n := 3) (Nat.le_of_ble_eq_true rfl)
  rw [lg_entry_eq]
  generalize (lg_sl [.ref a_this, .ref a_p1] ++ List.replicate (3 - (lg_sl [.ref a_this, .ref a_p1]).length) Slot.unset).toArray = ls at hl ⊢
  have hl : lv_has ls 3 [(0, .ref a_this), (1, .ref a_p1)] := hl
  show W p l e ({ frames := 0, cells := 0, slots := 0, locals := 0 } : Room) s m ([.ref a_this, .ref a_p1] : List Value).toArray below meth c s.heap [] 0 0 (MQ below (rwQ D none [(a_this, .inr (5, [.int o_z_day, .int o_z_crossed, .ref a_came, .ref a_under, .ref a_due])), (a_p1, .inr (0, [.int z_p1_planks, .int z_p1_size, .int z_p1_sworn, .ref a_p1_bank, .ref a_p1_kind, .ref a_p1_word, .ref a_p1_slow, .ref a_p1_told])), (a_p1_told, .inl (cI, 8, .inl z_p1_told)), (a_came, .inl (cI, 8, .inl o_z_came)), (a_under, .inl (cI, 8, .inl o_z_under))] A) ([.ref a_this, .ref a_p1] : List Value).toArray s 0 0 A) (F0 m 0 ls [])
  have hP : va_P D vwCl [(a_this, .inr (5, [.int z_day, .int z_crossed, .ref a_came, .ref a_under, .ref a_due])), (a_p1, .inr (0, [.int z_p1_planks, .int z_p1_size, .int z_p1_sworn, .ref a_p1_bank, .ref a_p1_kind, .ref a_p1_word, .ref a_p1_slow, .ref a_p1_told])), (a_p1_told, .inl (cI, 8, .inl z_p1_told)), (a_came, .inl (cI, 8, .inl z_came)), (a_under, .inl (cI, 8, .inl z_under))] s.heap := hP
  have hD : va_D A [(a_this, .inr (5, [.int z_day, .int z_crossed, .ref a_came, .ref a_under, .ref a_due])), (a_p1, .inr (0, [.int z_p1_planks, .int z_p1_size, .int z_p1_sworn, .ref a_p1_bank, .ref a_p1_kind, .ref a_p1_word, .ref a_p1_slow, .ref a_p1_told])), (a_p1_told, .inl (cI, 8, .inl z_p1_told)), (a_came, .inl (cI, 8, .inl z_came)), (a_under, .inl (cI, 8, .inl z_under))] := hD
  have hB12 : ∀ (n12 : Nat) (l2 : Int32) (z_came : Nat → Int32) (z_under : Nat → Int32) (z_day : Int32) (z_crossed : Int32) (H : Heap) (locs : List Loc) (ls : Array Slot), va_P D vwCl [(a_this, .inr (5, [.int z_day, .int z_crossed, .ref a_came, .ref a_under, .ref a_due])), (a_p1, .inr (0, [.int z_p1_planks, .int z_p1_size, .int z_p1_sworn, .ref a_p1_bank, .ref a_p1_kind, .ref a_p1_word, .ref a_p1_slow, .ref a_p1_told])), (a_p1_told, .inl (cI, 8, .inl z_p1_told)), (a_came, .inl (cI, 8, .inl z_came)), (a_under, .inl (cI, 8, .inl z_under))] H → va_D A [(a_this, .inr (5, [.int z_day, .int z_crossed, .ref a_came, .ref a_under, .ref a_due])), (a_p1, .inr (0, [.int z_p1_planks, .int z_p1_size, .int z_p1_sworn, .ref a_p1_bank, .ref a_p1_kind, .ref a_p1_word, .ref a_p1_slow, .ref a_p1_told])), (a_p1_told, .inl (cI, 8, .inl z_p1_told)), (a_came, .inl (cI, 8, .inl z_came)), (a_under, .inl (cI, 8, .inl z_under))] → va_S A s.heap H locs → lv_has ls 3 [(0, .ref a_this), (1, .ref a_p1), (2, .int l2)] → fX5_begin_b12 fu z_p1_told n12 l2 z_came z_under z_day z_crossed = some (o_z_came, o_z_under, o_z_day, o_z_crossed) → W p l e ({ frames := 0, cells := 0, slots := 0, locals := 0 } : Room) s m ([.ref a_this, .ref a_p1] : List Value).toArray below meth c H locs 0 0 (MQ below (rwQ D none [(a_this, .inr (5, [.int o_z_day, .int o_z_crossed, .ref a_came, .ref a_under, .ref a_due])), (a_p1, .inr (0, [.int z_p1_planks, .int z_p1_size, .int z_p1_sworn, .ref a_p1_bank, .ref a_p1_kind, .ref a_p1_word, .ref a_p1_slow, .ref a_p1_told])), (a_p1_told, .inl (cI, 8, .inl z_p1_told)), (a_came, .inl (cI, 8, .inl o_z_came)), (a_under, .inl (cI, 8, .inl o_z_under))] A) ([.ref a_this, .ref a_p1] : List Value).toArray s 0 0 A) (F0 m 12 ls []) := by
    intro n12
    induction n12 with
    | zero => intro l2 z_came z_under z_day z_crossed H locs ls hP hD hS hl hf; exact nn hf
    | succ n12 ih12 =>
      intro l2 z_came z_under z_day z_crossed H locs ls hP hD hS hl hf
      replace hf : fX5_begin_b12_body fu z_p1_told (fX5_begin_b12 fu z_p1_told n12) l2 z_came z_under z_day z_crossed = some (o_z_came, o_z_under, o_z_day, o_z_crossed) := hf
      unfold fX5_begin_b12_body at hf
      refine lv_iload_n hx hb dX5_begin_12 rfl (lv_at hl 2 rfl) ?_
      refine lv_bipush (v := 8) hx hb dX5_begin_13 (by decide) ?_
      refine lv_icmp_ge (tgt := 43) hx hb dX5_begin_15 (by decide) (fun c1 => ?_) (fun c1 => ?_)
      · replace hf := it hf c1
        cases hf
        exact W.vret hx hb hr (fun t ht _ => ⟨rfl, by rw [ht]; exact hP, hS.F ht⟩) hS.2.2 dX5_begin_43
      · replace hf := ie hf c1
        refine lv_aload_n hx hb dX5_begin_18 rfl (lv_at hl 0 rfl) ?_
        refine va_get (D := D) (ci := 5) (v := .ref a_came) (C := RX5) (T := TX5) (N := 5) hx hb hts inTX5 hown hK hP 0 rfl rfl 2 (by decide) (hts _ q173) (fun _ h9 => h9) rfl dX5_begin_19 ?_
        refine lv_iload_n hx hb dX5_begin_22 rfl (lv_at hl 2 rfl) ?_
        refine lv_aload_n hx hb dX5_begin_23 rfl (lv_at hl 1 rfl) ?_
        refine va_get (D := D) (ci := 0) (v := .ref a_p1_told) (C := RX0) (T := TX0) (N := 8) hx hb hts inTX0 hown hK hP 1 rfl rfl 7 (by decide) (hts _ q101) (fun _ h9 => h9) rfl dX5_begin_24 ?_
        refine lv_iload_n hx hb dX5_begin_27 rfl (lv_at hl 2 rfl) ?_
        obtain ⟨v2, hv2, hf⟩ := ob hf
        refine x_iald hx hb hK hP 2 0 rfl rfl hv2 dX5_begin_28 ?_
        obtain ⟨g3, hg3, hf⟩ := ob hf
        refine x_iast hx hb hK hP hD hS 3 0 rfl rfl hg3 dX5_begin_29 (fun H locs hP hD hS => ?_)
        have hP : va_P D vwCl [(a_this, .inr (5, [.int z_day, .int z_crossed, .ref a_came, .ref a_under, .ref a_due])), (a_p1, .inr (0, [.int z_p1_planks, .int z_p1_size, .int z_p1_sworn, .ref a_p1_bank, .ref a_p1_kind, .ref a_p1_word, .ref a_p1_slow, .ref a_p1_told])), (a_p1_told, .inl (cI, 8, .inl z_p1_told)), (a_came, .inl (cI, 8, .inl g3)), (a_under, .inl (cI, 8, .inl z_under))] H := hP
        have hD : va_D A [(a_this, .inr (5, [.int z_day, .int z_crossed, .ref a_came, .ref a_under, .ref a_due])), (a_p1, .inr (0, [.int z_p1_planks, .int z_p1_size, .int z_p1_sworn, .ref a_p1_bank, .ref a_p1_kind, .ref a_p1_word, .ref a_p1_slow, .ref a_p1_told])), (a_p1_told, .inl (cI, 8, .inl z_p1_told)), (a_came, .inl (cI, 8, .inl g3)), (a_under, .inl (cI, 8, .inl z_under))] := hD
        refine lv_aload_n hx hb dX5_begin_30 rfl (lv_at hl 0 rfl) ?_
        refine va_get (D := D) (ci := 5) (v := .ref a_under) (C := RX5) (T := TX5) (N := 5) hx hb hts inTX5 hown hK hP 0 rfl rfl 3 (by decide) (hts _ q179) (fun _ h9 => h9) rfl dX5_begin_31 ?_
        refine lv_iload_n hx hb dX5_begin_34 rfl (lv_at hl 2 rfl) ?_
        refine lv_iconst (v := 0) hx hb dX5_begin_35 (by decide) ?_
        obtain ⟨g4, hg4, hf⟩ := ob hf
        refine x_iast hx hb hK hP hD hS 4 0 rfl rfl hg4 dX5_begin_36 (fun H locs hP hD hS => ?_)
        have hP : va_P D vwCl [(a_this, .inr (5, [.int z_day, .int z_crossed, .ref a_came, .ref a_under, .ref a_due])), (a_p1, .inr (0, [.int z_p1_planks, .int z_p1_size, .int z_p1_sworn, .ref a_p1_bank, .ref a_p1_kind, .ref a_p1_word, .ref a_p1_slow, .ref a_p1_told])), (a_p1_told, .inl (cI, 8, .inl z_p1_told)), (a_came, .inl (cI, 8, .inl g3)), (a_under, .inl (cI, 8, .inl g4))] H := hP
        have hD : va_D A [(a_this, .inr (5, [.int z_day, .int z_crossed, .ref a_came, .ref a_under, .ref a_due])), (a_p1, .inr (0, [.int z_p1_planks, .int z_p1_size, .int z_p1_sworn, .ref a_p1_bank, .ref a_p1_kind, .ref a_p1_word, .ref a_p1_slow, .ref a_p1_told])), (a_p1_told, .inl (cI, 8, .inl z_p1_told)), (a_came, .inl (cI, 8, .inl g3)), (a_under, .inl (cI, 8, .inl g4))] := hD
        refine lv_iinc (v := (l2 + 1)) (lv' := [(2, .int (l2 + 1)), (0, .ref a_this), (1, .ref a_p1)]) hx hb dX5_begin_37 hl (k := 2) rfl rfl (by decide) rfl (fun ls hl => ?_)
        refine lv_goto (tgt := 12) hx hb dX5_begin_40 (by decide) ?_
        exact ih12 (l2 + 1) g3 g4 z_day z_crossed H locs ls hP hD hS (lv_sub hl [1, 2, 0] rfl) hf
  unfold fX5_begin at hf
  obtain ⟨H, hH⟩ : ∃ H, H = s.heap := ⟨_, rfl⟩
  obtain ⟨locs, hlo⟩ : ∃ q : List Loc, q = [] := ⟨_, rfl⟩
  have hS : va_S A s.heap H locs := by rw [hH, hlo]; exact hS
  rw [← hH] at hP
  suffices hgo : W p l e ({ frames := 0, cells := 0, slots := 0, locals := 0 } : Room) s m ([.ref a_this, .ref a_p1] : List Value).toArray below meth c H locs 0 0 (MQ below (rwQ D none [(a_this, .inr (5, [.int o_z_day, .int o_z_crossed, .ref a_came, .ref a_under, .ref a_due])), (a_p1, .inr (0, [.int z_p1_planks, .int z_p1_size, .int z_p1_sworn, .ref a_p1_bank, .ref a_p1_kind, .ref a_p1_word, .ref a_p1_slow, .ref a_p1_told])), (a_p1_told, .inl (cI, 8, .inl z_p1_told)), (a_came, .inl (cI, 8, .inl o_z_came)), (a_under, .inl (cI, 8, .inl o_z_under))] A) ([.ref a_this, .ref a_p1] : List Value).toArray s 0 0 A) (F0 m 0 ls []) by rw [hH, hlo] at hgo; exact hgo
  clear hH hlo
  refine lv_aload_n hx hb dX5_begin_0 rfl (lv_at hl 0 rfl) ?_
  refine lv_iconst (v := 0) hx hb dX5_begin_1 (by decide) ?_
  refine va_put (D := D) (ci := 5) (v := .int 0) (ty := .int) (C := RX5) (T := TX5) (N := 5) hx hb hts inTX5 tyX5 tyX5_ok nmX5 hown hK hP hD hS 0 rfl rfl 0 (by decide) (hts _ q168) (fun _ h9 => h9) rfl (by decide +kernel) rfl rfl (Nat.le_of_ble_eq_true rfl) dX5_begin_2 (fun H locs hP hD hS => ?_)
  have hP : va_P D vwCl [(a_this, .inr (5, [.int 0, .int z_crossed, .ref a_came, .ref a_under, .ref a_due])), (a_p1, .inr (0, [.int z_p1_planks, .int z_p1_size, .int z_p1_sworn, .ref a_p1_bank, .ref a_p1_kind, .ref a_p1_word, .ref a_p1_slow, .ref a_p1_told])), (a_p1_told, .inl (cI, 8, .inl z_p1_told)), (a_came, .inl (cI, 8, .inl z_came)), (a_under, .inl (cI, 8, .inl z_under))] H := hP
  have hD : va_D A [(a_this, .inr (5, [.int 0, .int z_crossed, .ref a_came, .ref a_under, .ref a_due])), (a_p1, .inr (0, [.int z_p1_planks, .int z_p1_size, .int z_p1_sworn, .ref a_p1_bank, .ref a_p1_kind, .ref a_p1_word, .ref a_p1_slow, .ref a_p1_told])), (a_p1_told, .inl (cI, 8, .inl z_p1_told)), (a_came, .inl (cI, 8, .inl z_came)), (a_under, .inl (cI, 8, .inl z_under))] := hD
  refine lv_aload_n hx hb dX5_begin_5 rfl (lv_at hl 0 rfl) ?_
  refine lv_iconst (v := 0) hx hb dX5_begin_6 (by decide) ?_
  refine va_put (D := D) (ci := 5) (v := .int 0) (ty := .int) (C := RX5) (T := TX5) (N := 5) hx hb hts inTX5 tyX5 tyX5_ok nmX5 hown hK hP hD hS 0 rfl rfl 1 (by decide) (hts _ q171) (fun _ h9 => h9) rfl (by decide +kernel) rfl rfl (Nat.le_of_ble_eq_true rfl) dX5_begin_7 (fun H locs hP hD hS => ?_)
  have hP : va_P D vwCl [(a_this, .inr (5, [.int 0, .int 0, .ref a_came, .ref a_under, .ref a_due])), (a_p1, .inr (0, [.int z_p1_planks, .int z_p1_size, .int z_p1_sworn, .ref a_p1_bank, .ref a_p1_kind, .ref a_p1_word, .ref a_p1_slow, .ref a_p1_told])), (a_p1_told, .inl (cI, 8, .inl z_p1_told)), (a_came, .inl (cI, 8, .inl z_came)), (a_under, .inl (cI, 8, .inl z_under))] H := hP
  have hD : va_D A [(a_this, .inr (5, [.int 0, .int 0, .ref a_came, .ref a_under, .ref a_due])), (a_p1, .inr (0, [.int z_p1_planks, .int z_p1_size, .int z_p1_sworn, .ref a_p1_bank, .ref a_p1_kind, .ref a_p1_word, .ref a_p1_slow, .ref a_p1_told])), (a_p1_told, .inl (cI, 8, .inl z_p1_told)), (a_came, .inl (cI, 8, .inl z_came)), (a_under, .inl (cI, 8, .inl z_under))] := hD
  refine lv_iconst (v := 0) hx hb dX5_begin_10 (by decide) ?_
  refine lv_istore_n (lv' := [(2, .int 0), (0, .ref a_this), (1, .ref a_p1)]) hx hb dX5_begin_11 rfl hl (by decide) rfl (fun ls hl => ?_)
  exact hB12 fu 0 z_came z_under 0 0 H locs ls hP hD hS (lv_sub hl [1, 2, 0] rfl) hf
theorem kX5_begin {p : Program} {l : Launch} {e : Env} {R : Room} {s : State} {m : MethodId} {args : Array Value} {below : List Frame} {meth : Method} {c : Code} {H : Heap} {locs : List Loc} {cells slots : Nat} {Q : State → Prop} {cc : ByteArray} {nL pc index : Nat} {ls : Array Slot} {rest : List Value} {own : String} {D : va_G} {cI cZ cQ : ClassId} {a_this a_came a_under a_due a_p1 a_p1_bank a_p1_kind a_p1_word a_p1_slow a_p1_told : Nat} {z_day z_crossed z_p1_planks z_p1_size z_p1_sworn : Int32} {z_p1_told z_came z_under : Nat → Int32} {fu : Nat} {o_z_day o_z_crossed : Int32} {o_z_came o_z_under : Nat → Int32} (hx : p.tables.exec = Jvm.exec) (hb : c.code = cc) (hml : c.maxLocals = nL) (hown : s.vm.findClass own = some m.cls) (hts : ∀ w ∈ TB, w.before args s = true) (hKW : KW D (TY cI cZ cQ) s) (hlk : Cond.methodLink own index yX5_begin ∈ TB) {ws : va_W} {A : Nat → Prop} {H0 : Heap} (hP : va_P D vwCl ws H) (hD : va_D A ws) (hS : va_S A H0 H locs) (is : List Nat) (hC : is.map (fun i => ws[i]?) = ([(a_this, .inr (5, [.int z_day, .int z_crossed, .ref a_came, .ref a_under, .ref a_due])), (a_p1, .inr (0, [.int z_p1_planks, .int z_p1_size, .int z_p1_sworn, .ref a_p1_bank, .ref a_p1_kind, .ref a_p1_word, .ref a_p1_slow, .ref a_p1_told])), (a_p1_told, .inl (cI, 8, .inl z_p1_told)), (a_came, .inl (cI, 8, .inl z_came)), (a_under, .inl (cI, 8, .inl z_under))] : va_W).map some) (hnd : va_nd is = true) (hf : fX5_begin fu z_p1_told z_came z_under z_day z_crossed = some (o_z_came, o_z_under, o_z_day, o_z_crossed)) (hn : ls.size = nL) (hW : (rest.map fun v => v.category).sum ≤ 8) (hR : 0 + 1 ≤ R.frames ∧ 8 + (3 + 11) + 0 ≤ R.locals) (hcs : cells ≤ R.cells ∧ slots ≤ R.slots) (hdg : decode cc pc = .ok (.invokevirtual index, 3)) (kk : ∀ (H1 : Heap) (locs1 : List Loc), va_P D vwCl (rpl ws is [(a_this, .inr (5, [.int o_z_day, .int o_z_crossed, .ref a_came, .ref a_under, .ref a_due])), (a_p1, .inr (0, [.int z_p1_planks, .int z_p1_size, .int z_p1_sworn, .ref a_p1_bank, .ref a_p1_kind, .ref a_p1_word, .ref a_p1_slow, .ref a_p1_told])), (a_p1_told, .inl (cI, 8, .inl z_p1_told)), (a_came, .inl (cI, 8, .inl o_z_came)), (a_under, .inl (cI, 8, .inl o_z_under))]) H1 → va_D A (rpl ws is [(a_this, .inr (5, [.int o_z_day, .int o_z_crossed, .ref a_came, .ref a_under, .ref a_due])), (a_p1, .inr (0, [.int z_p1_planks, .int z_p1_size, .int z_p1_sworn, .ref a_p1_bank, .ref a_p1_kind, .ref a_p1_word, .ref a_p1_slow, .ref a_p1_told])), (a_p1_told, .inl (cI, 8, .inl z_p1_told)), (a_came, .inl (cI, 8, .inl o_z_came)), (a_under, .inl (cI, 8, .inl o_z_under))]) → va_S A H0 H1 locs1 → W p l e R s m args below meth c H1 locs1 cells slots Q (F0 m (pc + 3) ls (rest))) : W p l e R s m args below meth c H locs cells slots Q (F0 m pc ls (.ref a_p1 :: .ref a_this :: rest)) :=
  x_rw (va_runV (As := [.ref a_p1]) (rest := rest) ⟨hx, hb, hml, hown, hts⟩ (tX5_begin hf) (cwV 1 hts (tb_V hlk q513 q514 q43 q515) rfl rfl rfl (by decide +kernel) hR) ⟨rwB, va_recv hKW.1 (subP hP hC) (ci := 5) (q0 := 0) rfl rfl, fun U hU hW => ⟨rfl, by rw [hU]; exact subP hP hC, hKW.warm hW, subD hD hC hnd⟩⟩ rfl rfl hn rfl (lv_room hW) hdg hcs) hP hD hS is hC rfl kk

-- HalfPlanks$Promises.lettersUnderWay()I
set_option maxHeartbeats 4000000 in
set_option maxRecDepth 100000 in
theorem tX5_lettersUnderWay {l : Launch} {D : va_G} {cI cZ cQ : ClassId} {a_this a_came a_under a_due : Nat} {z_day z_crossed : Int32} {z_under : Nat → Int32} {fu : Nat} {r : Int32} (hf : fX5_lettersUnderWay fu z_under = some (r)) : Met l yX5_lettersUnderWay (.code yX5_lettersUnderWay cX5_lettersUnderWay 3 (some .int) :: TB) ({ frames := 1, cells := 0, slots := 0, locals := 20 } : Room) (roP D (TY cI cZ cQ) [(a_this, .inr (5, [.int z_day, .int z_crossed, .ref a_came, .ref a_under, .ref a_due])), (a_under, .inl (cI, 8, .inl z_under))] [.ref a_this]) (roQ (some (.int r))) 0 0 (fun _ => False) := by
  refine Met.ofW (cc := cX5_lettersUnderWay) (maxL := 3) (ret := (some .int)) (by decide) rfl ?_
  intro p e s m args below meth c s₁ B hml hv
  obtain ⟨rfl, hP, hKW⟩ := hv
  have hx := B.exec
  have hb := B.bytes
  have hr := B.returns
  have hts : ∀ w ∈ TB, w.before ([.ref a_this] : List Value).toArray s = true := fun w h => atoms_spec (ws := .code yX5_lettersUnderWay cX5_lettersUnderWay 3 (some .int) :: TB) B.pre w (List.mem_cons_of_mem _ h)
  have hown : s.vm.findClass RX5 = some m.cls := findClass_of_methodNamed B.named
  have hlocks := B.notSynchronized
  have hK := hKW.1
  have hl := lv_entry [.ref a_this] (n := 3) (Nat.le_of_ble_eq_true rfl)
  rw [lg_entry_eq]
  generalize (lg_sl [.ref a_this] ++ List.replicate (3 - (lg_sl [.ref a_this]).length) Slot.unset).toArray = ls at hl ⊢
  have hl : lv_has ls 3 [(0, .ref a_this)] := hl
  show W p l e ({ frames := 1, cells := 0, slots := 0, locals := 20 } : Room) s m ([.ref a_this] : List Value).toArray below meth c s.heap [] 0 0 (MQ below (roQ (some (.int r))) ([.ref a_this] : List Value).toArray s 0 0 (fun _ => False)) (F0 m 0 ls [])
  have hB4 : ∀ (n4 : Nat) (l1 : Int32) (l2 : Int32) (ls : Array Slot), lv_has ls 3 [(0, .ref a_this), (1, .int l1), (2, .int l2)] → fX5_lettersUnderWay_b4 fu z_under n4 l1 l2 = some (r) → W p l e ({ frames := 1, cells := 0, slots := 0, locals := 20 } : Room) s m ([.ref a_this] : List Value).toArray below meth c s.heap [] 0 0 (MQ below (roQ (some (.int r))) ([.ref a_this] : List Value).toArray s 0 0 (fun _ => False)) (F0 m 4 ls []) := by
    intro n4
    induction n4 with
    | zero => intro l1 l2 ls hl hf; exact nn hf
    | succ n4 ih4 =>
      intro l1 l2 ls hl hf
      replace hf : fX5_lettersUnderWay_b4_body fu z_under (fX5_lettersUnderWay_b4 fu z_under n4) l1 l2 = some (r) := hf
      unfold fX5_lettersUnderWay_b4_body at hf
      refine lv_iload_n hx hb dX5_lettersUnderWay_4 rfl (lv_at hl 2 rfl) ?_
      refine lv_bipush (v := 8) hx hb dX5_lettersUnderWay_5 (by decide) ?_
      refine lv_icmp_ge (tgt := 28) hx hb dX5_lettersUnderWay_7 (by decide) (fun c1 => ?_) (fun c1 => ?_)
      · replace hf := it hf c1
        refine lv_iload_n hx hb dX5_lettersUnderWay_28 rfl (lv_at hl 1 rfl) ?_
        cases hf
        exact W.iret hx hb hr (fun t ht _ => ⟨rfl, ht⟩) (fun q h => by cases h) dX5_lettersUnderWay_29
      · replace hf := ie hf c1
        refine lv_iload_n hx hb dX5_lettersUnderWay_10 rfl (lv_at hl 1 rfl) ?_
        refine lv_aload_n hx hb dX5_lettersUnderWay_11 rfl (lv_at hl 0 rfl) ?_
        refine va_get (D := D) (ci := 5) (v := .ref a_under) (C := RX5) (T := TX5) (N := 5) hx hb hts inTX5 hown hK hP 0 rfl rfl 3 (by decide) (hts _ q179) (fun _ h9 => h9) rfl dX5_lettersUnderWay_12 ?_
        refine lv_iload_n hx hb dX5_lettersUnderWay_15 rfl (lv_at hl 2 rfl) ?_
        obtain ⟨v2, hv2, hf⟩ := ob hf
        refine x_iald hx hb hK hP 1 0 rfl rfl hv2 dX5_lettersUnderWay_16 ?_
        obtain ⟨v3, hv3, hf⟩ := ob hf
        refine kJ6_bitCount_0f7a4 hx hb hml hown hts hKW q577  hv3 hl.1 (Nat.le_of_ble_eq_true rfl) ⟨Nat.le_of_ble_eq_true rfl, Nat.le_of_ble_eq_true rfl⟩ ⟨Nat.zero_le _, Nat.zero_le _⟩ dX5_lettersUnderWay_17 ?_
        refine lv_iadd hx hb dX5_lettersUnderWay_20 ?_
        refine lv_istore_n (lv' := [(1, .int (l1 + v3)), (0, .ref a_this), (2, .int l2)]) hx hb dX5_lettersUnderWay_21 rfl hl (by decide) rfl (fun ls hl => ?_)
        refine lv_iinc (v := (l2 + 1)) (lv' := [(2, .int (l2 + 1)), (1, .int (l1 + v3)), (0, .ref a_this)]) hx hb dX5_lettersUnderWay_22 hl (k := 2) rfl rfl (by decide) rfl (fun ls hl => ?_)
        refine lv_goto (tgt := 4) hx hb dX5_lettersUnderWay_25 (by decide) ?_
        exact ih4 (l1 + v3) (l2 + 1) ls (lv_sub hl [2, 1, 0] rfl) hf
  unfold fX5_lettersUnderWay at hf
  refine lv_iconst (v := 0) hx hb dX5_lettersUnderWay_0 (by decide) ?_
  refine lv_istore_n (lv' := [(1, .int 0), (0, .ref a_this)]) hx hb dX5_lettersUnderWay_1 rfl hl (by decide) rfl (fun ls hl => ?_)
  refine lv_iconst (v := 0) hx hb dX5_lettersUnderWay_2 (by decide) ?_
  refine lv_istore_n (lv' := [(2, .int 0), (1, .int 0), (0, .ref a_this)]) hx hb dX5_lettersUnderWay_3 rfl hl (by decide) rfl (fun ls hl => ?_)
  exact hB4 fu 0 0 ls (lv_sub hl [2, 1, 0] rfl) hf
theorem kX5_lettersUnderWay {p : Program} {l : Launch} {e : Env} {R : Room} {s : State} {m : MethodId} {args : Array Value} {below : List Frame} {meth : Method} {c : Code} {H : Heap} {locs : List Loc} {cells slots : Nat} {Q : State → Prop} {cc : ByteArray} {nL pc index : Nat} {ls : Array Slot} {rest : List Value} {own : String} {D : va_G} {cI cZ cQ : ClassId} {a_this a_came a_under a_due : Nat} {z_day z_crossed : Int32} {z_under : Nat → Int32} {fu : Nat} {r : Int32} (hx : p.tables.exec = Jvm.exec) (hb : c.code = cc) (hml : c.maxLocals = nL) (hown : s.vm.findClass own = some m.cls) (hts : ∀ w ∈ TB, w.before args s = true) (hKW : KW D (TY cI cZ cQ) s) (hlk : Cond.methodLink own index yX5_lettersUnderWay ∈ TB) (hP : va_P D vwCl [(a_this, .inr (5, [.int z_day, .int z_crossed, .ref a_came, .ref a_under, .ref a_due])), (a_under, .inl (cI, 8, .inl z_under))] H) (hf : fX5_lettersUnderWay fu z_under = some (r)) (hn : ls.size = nL) (hW : (rest.map fun v => v.category).sum ≤ 8) (hR : 1 + 1 ≤ R.frames ∧ 8 + (3 + 11) + 20 ≤ R.locals) (hcs : cells ≤ R.cells ∧ slots ≤ R.slots) (hdg : decode cc pc = .ok (.invokevirtual index, 3)) (kk : W p l e R s m args below meth c H locs cells slots Q (F0 m (pc + 3) ls (.int r :: rest))) : W p l e R s m args below meth c H locs cells slots Q (F0 m pc ls (.ref a_this :: rest)) :=
  x_ret (va_runV (As := []) (rest := rest) ⟨hx, hb, hml, hown, hts⟩ (tX5_lettersUnderWay hf) (cwV 0 hts (tb_V hlk q574 q575 q43 q576) rfl rfl rfl (by decide +kernel) hR) ⟨roB, va_recv hKW.1 hP (ci := 5) (q0 := 0) rfl rfl, fun U hU hW => ⟨rfl, by rw [hU]; exact hP, hKW.warm hW⟩⟩ rfl rfl hn rfl (lv_room hW) hdg hcs) kk

-- HalfPlanks$Promises.gave(II)Z
set_option maxHeartbeats 4000000 in
set_option maxRecDepth 100000 in
theorem tX5_gave {l : Launch} {D : va_G} {cI cZ cQ : ClassId} {a_this a_came a_under a_due : Nat} {z_day z_crossed p1 p2 : Int32} {z_came z_under : Nat → Int32} {fu : Nat} {r : Int32} (hf : fX5_gave fu z_came z_under p1 p2 = some (r)) : Met l yX5_gave (.code yX5_gave cX5_gave 3 (some .boolean) :: TB) ({ frames := 1, cells := 0, slots := 0, locals := 21 } : Room) (roP D (TY cI cZ cQ) [(a_this, .inr (5, [.int z_day, .int z_crossed, .ref a_came, .ref a_under, .ref a_due])), (a_came, .inl (cI, 8, .inl z_came)), (a_under, .inl (cI, 8, .inl z_under))] [.ref a_this, .int p1, .int p2]) (roQ (some (.int r))) 0 0 (fun _ => False) := by
  refine Met.ofW (cc := cX5_gave) (maxL := 3) (ret := (some .boolean)) (by decide) rfl ?_
  intro p e s m args below meth c s₁ B hml hv
  obtain ⟨rfl, hP, hKW⟩ := hv
  have hx := B.exec
  have hb := B.bytes
  have hr := B.returns
  have hts : ∀ w ∈ TB, w.before ([.ref a_this, .int p1, .int p2] : List Value).toArray s = true := fun w h => atoms_spec (ws := .code yX5_gave cX5_gave 3 (some .boolean) :: TB) B.pre w (List.mem_cons_of_mem _ h)
  have hown : s.vm.findClass RX5 = some m.cls := findClass_of_methodNamed B.named
  have hlocks := B.notSynchronized
  have hK := hKW.1
  have hl := lv_entry [.ref a_this, .int p1, .int p2] (n := 3) (Nat.le_of_ble_eq_true rfl)
  rw [lg_entry_eq]
  generalize (lg_sl [.ref a_this, .int p1, .int p2] ++ List.replicate (3 - (lg_sl [.ref a_this, .int p1, .int p2]).length) Slot.unset).toArray = ls at hl ⊢
  have hl : lv_has ls 3 [(0, .ref a_this), (1, .int p1), (2, .int p2)] := hl
  show W p l e ({ frames := 1, cells := 0, slots := 0, locals := 21 } : Room) s m ([.ref a_this, .int p1, .int p2] : List Value).toArray below meth c s.heap [] 0 0 (MQ below (roQ (some (.int r))) ([.ref a_this, .int p1, .int p2] : List Value).toArray s 0 0 (fun _ => False)) (F0 m 0 ls [])
  unfold fX5_gave at hf
  refine lv_aload_n hx hb dX5_gave_0 rfl (lv_at hl 0 rfl) ?_
  refine va_get (D := D) (ci := 5) (v := .ref a_came) (C := RX5) (T := TX5) (N := 5) hx hb hts inTX5 hown hK hP 0 rfl rfl 2 (by decide) (hts _ q173) (fun _ h9 => h9) rfl dX5_gave_1 ?_
  refine lv_iload_n hx hb dX5_gave_4 rfl (lv_at hl 2 rfl) ?_
  obtain ⟨v1, hv1, hf⟩ := ob hf
  refine x_iald hx hb hK hP 1 0 rfl rfl hv1 dX5_gave_5 ?_
  refine lv_aload_n hx hb dX5_gave_6 rfl (lv_at hl 0 rfl) ?_
  refine va_get (D := D) (ci := 5) (v := .ref a_under) (C := RX5) (T := TX5) (N := 5) hx hb hts inTX5 hown hK hP 0 rfl rfl 3 (by decide) (hts _ q179) (fun _ h9 => h9) rfl dX5_gave_7 ?_
  refine lv_iload_n hx hb dX5_gave_10 rfl (lv_at hl 2 rfl) ?_
  obtain ⟨v2, hv2, hf⟩ := ob hf
  refine x_iald hx hb hK hP 2 0 rfl rfl hv2 dX5_gave_11 ?_
  refine lv_ior hx hb dX5_gave_12 ?_
  refine lv_iload_n hx hb dX5_gave_13 rfl (lv_at hl 1 rfl) ?_
  obtain ⟨v3, hv3, hf⟩ := ob hf
  refine knX8_has hx hb hml hown hts hKW (hKW.2 ("HalfPlanks$Promises", 39, yX8_has, "HalfPlanks") (by decide +kernel))  hv3 hl.1 (Nat.le_of_ble_eq_true rfl) ⟨Nat.le_of_ble_eq_true rfl, Nat.le_of_ble_eq_true rfl⟩ ⟨Nat.zero_le _, Nat.zero_le _⟩ dX5_gave_14 ?_
  obtain ⟨v4, hv4, hf⟩ := ob hf
  obtain ⟨rfl, hnz⟩ := zb_s hv4
  cases hf
  exact W.zret hx hb hr hnz (fun t ht _ => ⟨rfl, ht⟩) (fun q h => by cases h) dX5_gave_17
theorem kX5_gave {p : Program} {l : Launch} {e : Env} {R : Room} {s : State} {m : MethodId} {args : Array Value} {below : List Frame} {meth : Method} {c : Code} {H : Heap} {locs : List Loc} {cells slots : Nat} {Q : State → Prop} {cc : ByteArray} {nL pc index : Nat} {ls : Array Slot} {rest : List Value} {own : String} {D : va_G} {cI cZ cQ : ClassId} {a_this a_came a_under a_due : Nat} {z_day z_crossed p1 p2 : Int32} {z_came z_under : Nat → Int32} {fu : Nat} {r : Int32} (hx : p.tables.exec = Jvm.exec) (hb : c.code = cc) (hml : c.maxLocals = nL) (hown : s.vm.findClass own = some m.cls) (hts : ∀ w ∈ TB, w.before args s = true) (hKW : KW D (TY cI cZ cQ) s) (hlk : Cond.methodLink own index yX5_gave ∈ TB) (hP : va_P D vwCl [(a_this, .inr (5, [.int z_day, .int z_crossed, .ref a_came, .ref a_under, .ref a_due])), (a_came, .inl (cI, 8, .inl z_came)), (a_under, .inl (cI, 8, .inl z_under))] H) (hf : fX5_gave fu z_came z_under p1 p2 = some (r)) (hn : ls.size = nL) (hW : (rest.map fun v => v.category).sum ≤ 8) (hR : 1 + 1 ≤ R.frames ∧ 8 + (3 + 11) + 21 ≤ R.locals) (hcs : cells ≤ R.cells ∧ slots ≤ R.slots) (hdg : decode cc pc = .ok (.invokevirtual index, 3)) (kk : W p l e R s m args below meth c H locs cells slots Q (F0 m (pc + 3) ls (.int r :: rest))) : W p l e R s m args below meth c H locs cells slots Q (F0 m pc ls (.int p2 :: .int p1 :: .ref a_this :: rest)) :=
  x_ret (va_runV (As := [.int p1, .int p2]) (rest := rest) ⟨hx, hb, hml, hown, hts⟩ (tX5_gave hf) (cwV 2 hts (tb_V hlk q588 q589 q43 q590) rfl rfl rfl (by decide +kernel) hR) ⟨roB, va_recv hKW.1 hP (ci := 5) (q0 := 0) rfl rfl, fun U hU hW => ⟨rfl, by rw [hU]; exact hP, hKW.warm hW⟩⟩ rfl rfl hn rfl (lv_room hW) hdg hcs) kk

-- HalfPlanks$Promises.become(LHalfPlanks$Promises;)V
set_option maxHeartbeats 4000000 in
set_option maxRecDepth 100000 in
theorem tX5_become {l : Launch} {D : va_G} {cI cZ cQ : ClassId} {a_this a_came a_under a_due a_p1 a_p1_came a_p1_under a_p1_due : Nat} {z_day z_crossed z_p1_day z_p1_crossed : Int32} {z_p1_came z_came z_p1_under z_under z_p1_due z_due : Nat → Int32} {fu : Nat} {o_z_day o_z_crossed : Int32} {o_z_came o_z_under o_z_due : Nat → Int32} (hf : fX5_become fu z_p1_day z_p1_crossed z_p1_came z_p1_under z_p1_due z_came z_under z_due z_day z_crossed = some (o_z_came, o_z_under, o_z_due, o_z_day, o_z_crossed)) : Met l yX5_become (.code yX5_become cX5_become 2 none :: TB) ({ frames := 1, cells := 0, slots := 0, locals := 64 } : Room) (rwP D (TY cI cZ cQ) [(a_this, .inr (5, [.int z_day, .int z_crossed, .ref a_came, .ref a_under, .ref a_due])), (a_p1, .inr (5, [.int z_p1_day, .int z_p1_crossed, .ref a_p1_came, .ref a_p1_under, .ref a_p1_due])), (a_p1_came, .inl (cI, 8, .inl z_p1_came)), (a_came, .inl (cI, 8, .inl z_came)), (a_p1_under, .inl (cI, 8, .inl z_p1_under)), (a_under, .inl (cI, 8, .inl z_under)), (a_p1_due, .inl (cI, 64, .inl z_p1_due)), (a_due, .inl (cI, 64, .inl z_due))] [.ref a_this, .ref a_p1]) (rwQ D none [(a_this, .inr (5, [.int o_z_day, .int o_z_crossed, .ref a_came, .ref a_under, .ref a_due])), (a_p1, .inr (5, [.int z_p1_day, .int z_p1_crossed, .ref a_p1_came, .ref a_p1_under, .ref a_p1_due])), (a_p1_came, .inl (cI, 8, .inl z_p1_came)), (a_came, .inl (cI, 8, .inl o_z_came)), (a_p1_under, .inl (cI, 8, .inl z_p1_under)), (a_under, .inl (cI, 8, .inl o_z_under)), (a_p1_due, .inl (cI, 64, .inl z_p1_due)), (a_due, .inl (cI, 64, .inl o_z_due))] (inW [(a_this, .inr (5, [.int z_day, .int z_crossed, .ref a_came, .ref a_under, .ref a_due])), (a_p1, .inr (5, [.int z_p1_day, .int z_p1_crossed, .ref a_p1_came, .ref a_p1_under, .ref a_p1_due])), (a_p1_came, .inl (cI, 8, .inl z_p1_came)), (a_came, .inl (cI, 8, .inl z_came)), (a_p1_under, .inl (cI, 8, .inl z_p1_under)), (a_under, .inl (cI, 8, .inl z_under)), (a_p1_due, .inl (cI, 64, .inl z_p1_due)), (a_due, .inl (cI, 64, .inl z_due))])) 0 0 (inW [(a_this, .inr (5, [.int z_day, .int z_crossed, .ref a_came, .ref a_under, .ref a_due])), (a_p1, .inr (5, [.int z_p1_day, .int z_p1_crossed, .ref a_p1_came, .ref a_p1_under, .ref a_p1_due])), (a_p1_came, .inl (cI, 8, .inl z_p1_came)), (a_came, .inl (cI, 8, .inl z_came)), (a_p1_under, .inl (cI, 8, .inl z_p1_under)), (a_under, .inl (cI, 8, .inl z_under)), (a_p1_due, .inl (cI, 64, .inl z_p1_due)), (a_due, .inl (cI, 64, .inl z_due))]) := by
  refine Met.ofW (cc := cX5_become) (maxL := 2) (ret := none) (by decide) rfl ?_
  intro p e s m args below meth c s₁ B hml hv
  obtain ⟨rfl, hP, hKW, hD0⟩ := hv
  have hx := B.exec
  have hb := B.bytes
  have hr := B.returns
  have hts : ∀ w ∈ TB, w.before ([.ref a_this, .ref a_p1] : List Value).toArray s = true := fun w h => atoms_spec (ws := .code yX5_become cX5_become 2 none :: TB) B.pre w (List.mem_cons_of_mem _ h)
  have hown : s.vm.findClass RX5 = some m.cls := findClass_of_methodNamed B.named
  have hlocks := B.notSynchronized
  have hK := hKW.1
  have hD := inW_D hD0
  generalize hAe : inW [(a_this, .inr (5, [.int z_day, .int z_crossed, .ref a_came, .ref a_under, .ref a_due])), (a_p1, .inr (5, [.int z_p1_day, .int z_p1_crossed, .ref a_p1_came, .ref a_p1_under, .ref a_p1_due])), (a_p1_came, .inl (cI, 8, .inl z_p1_came)), (a_came, .inl (cI, 8, .inl z_came)), (a_p1_under, .inl (cI, 8, .inl z_p1_under)), (a_under, .inl (cI, 8, .inl z_under)), (a_p1_due, .inl (cI, 64, .inl z_p1_due)), (a_due, .inl (cI, 64, .inl z_due))] = A at hD ⊢
  have hS : va_S A s.heap s.heap [] := va_S.rf
  have hl := lv_entry [.ref a_this, .ref a_p1] (n := 2) (Nat.le_of_ble_eq_true rfl)
  rw [lg_entry_eq]
  generalize (lg_sl [.ref a_this, .ref a_p1] ++ List.replicate (2 - (lg_sl [.ref a_this, .ref a_p1]).length) Slot.unset).toArray = ls at hl ⊢
  have hl : lv_has ls 2 [(0, .ref a_this), (1, .ref a_p1)] := hl
  show W p l e ({ frames := 1, cells := 0, slots := 0, locals := 64 } : Room) s m ([.ref a_this, .ref a_p1] : List Value).toArray below meth c s.heap [] 0 0 (MQ below (rwQ D none [(a_this, .inr (5, [.int o_z_day, .int o_z_crossed, .ref a_came, .ref a_under, .ref a_due])), (a_p1, .inr (5, [.int z_p1_day, .int z_p1_crossed, .ref a_p1_came, .ref a_p1_under, .ref a_p1_due])), (a_p1_came, .inl (cI, 8, .inl z_p1_came)), (a_came, .inl (cI, 8, .inl o_z_came)), (a_p1_under, .inl (cI, 8, .inl z_p1_under)), (a_under, .inl (cI, 8, .inl o_z_under)), (a_p1_due, .inl (cI, 64, .inl z_p1_due)), (a_due, .inl (cI, 64, .inl o_z_due))] A) ([.ref a_this, .ref a_p1] : List Value).toArray s 0 0 A) (F0 m 0 ls [])
  have hP : va_P D vwCl [(a_this, .inr (5, [.int z_day, .int z_crossed, .ref a_came, .ref a_under, .ref a_due])), (a_p1, .inr (5, [.int z_p1_day, .int z_p1_crossed, .ref a_p1_came, .ref a_p1_under, .ref a_p1_due])), (a_p1_came, .inl (cI, 8, .inl z_p1_came)), (a_came, .inl (cI, 8, .inl z_came)), (a_p1_under, .inl (cI, 8, .inl z_p1_under)), (a_under, .inl (cI, 8, .inl z_under)), (a_p1_due, .inl (cI, 64, .inl z_p1_due)), (a_due, .inl (cI, 64, .inl z_due))] s.heap := hP
  have hD : va_D A [(a_this, .inr (5, [.int z_day, .int z_crossed, .ref a_came, .ref a_under, .ref a_due])), (a_p1, .inr (5, [.int z_p1_day, .int z_p1_crossed, .ref a_p1_came, .ref a_p1_under, .ref a_p1_due])), (a_p1_came, .inl (cI, 8, .inl z_p1_came)), (a_came, .inl (cI, 8, .inl z_came)), (a_p1_under, .inl (cI, 8, .inl z_p1_under)), (a_under, .inl (cI, 8, .inl z_under)), (a_p1_due, .inl (cI, 64, .inl z_p1_due)), (a_due, .inl (cI, 64, .inl z_due))] := hD
  unfold fX5_become at hf
  obtain ⟨H, hH⟩ : ∃ H, H = s.heap := ⟨_, rfl⟩
  obtain ⟨locs, hlo⟩ : ∃ q : List Loc, q = [] := ⟨_, rfl⟩
  have hS : va_S A s.heap H locs := by rw [hH, hlo]; exact hS
  rw [← hH] at hP
  suffices hgo : W p l e ({ frames := 1, cells := 0, slots := 0, locals := 64 } : Room) s m ([.ref a_this, .ref a_p1] : List Value).toArray below meth c H locs 0 0 (MQ below (rwQ D none [(a_this, .inr (5, [.int o_z_day, .int o_z_crossed, .ref a_came, .ref a_under, .ref a_due])), (a_p1, .inr (5, [.int z_p1_day, .int z_p1_crossed, .ref a_p1_came, .ref a_p1_under, .ref a_p1_due])), (a_p1_came, .inl (cI, 8, .inl z_p1_came)), (a_came, .inl (cI, 8, .inl o_z_came)), (a_p1_under, .inl (cI, 8, .inl z_p1_under)), (a_under, .inl (cI, 8, .inl o_z_under)), (a_p1_due, .inl (cI, 64, .inl z_p1_due)), (a_due, .inl (cI, 64, .inl o_z_due))] A) ([.ref a_this, .ref a_p1] : List Value).toArray s 0 0 A) (F0 m 0 ls []) by rw [hH, hlo] at hgo; exact hgo
  clear hH hlo
  refine lv_aload_n hx hb dX5_become_0 rfl (lv_at hl 0 rfl) ?_
  refine lv_aload_n hx hb dX5_become_1 rfl (lv_at hl 1 rfl) ?_
  refine va_get (D := D) (ci := 5) (v := .int z_p1_day) (C := RX5) (T := TX5) (N := 5) hx hb hts inTX5 hown hK hP 1 rfl rfl 0 (by decide) (hts _ q168) (fun _ h9 => h9) rfl dX5_become_2 ?_
  refine va_put (D := D) (ci := 5) (v := .int z_p1_day) (ty := .int) (C := RX5) (T := TX5) (N := 5) hx hb hts inTX5 tyX5 tyX5_ok nmX5 hown hK hP hD hS 0 rfl rfl 0 (by decide) (hts _ q168) (fun _ h9 => h9) rfl (by decide +kernel) rfl rfl (Nat.le_of_ble_eq_true rfl) dX5_become_5 (fun H locs hP hD hS => ?_)
  have hP : va_P D vwCl [(a_this, .inr (5, [.int z_p1_day, .int z_crossed, .ref a_came, .ref a_under, .ref a_due])), (a_p1, .inr (5, [.int z_p1_day, .int z_p1_crossed, .ref a_p1_came, .ref a_p1_under, .ref a_p1_due])), (a_p1_came, .inl (cI, 8, .inl z_p1_came)), (a_came, .inl (cI, 8, .inl z_came)), (a_p1_under, .inl (cI, 8, .inl z_p1_under)), (a_under, .inl (cI, 8, .inl z_under)), (a_p1_due, .inl (cI, 64, .inl z_p1_due)), (a_due, .inl (cI, 64, .inl z_due))] H := hP
  have hD : va_D A [(a_this, .inr (5, [.int z_p1_day, .int z_crossed, .ref a_came, .ref a_under, .ref a_due])), (a_p1, .inr (5, [.int z_p1_day, .int z_p1_crossed, .ref a_p1_came, .ref a_p1_under, .ref a_p1_due])), (a_p1_came, .inl (cI, 8, .inl z_p1_came)), (a_came, .inl (cI, 8, .inl z_came)), (a_p1_under, .inl (cI, 8, .inl z_p1_under)), (a_under, .inl (cI, 8, .inl z_under)), (a_p1_due, .inl (cI, 64, .inl z_p1_due)), (a_due, .inl (cI, 64, .inl z_due))] := hD
  refine lv_aload_n hx hb dX5_become_8 rfl (lv_at hl 0 rfl) ?_
  refine lv_aload_n hx hb dX5_become_9 rfl (lv_at hl 1 rfl) ?_
  refine va_get (D := D) (ci := 5) (v := .int z_p1_crossed) (C := RX5) (T := TX5) (N := 5) hx hb hts inTX5 hown hK hP 1 rfl rfl 1 (by decide) (hts _ q171) (fun _ h9 => h9) rfl dX5_become_10 ?_
  refine va_put (D := D) (ci := 5) (v := .int z_p1_crossed) (ty := .int) (C := RX5) (T := TX5) (N := 5) hx hb hts inTX5 tyX5 tyX5_ok nmX5 hown hK hP hD hS 0 rfl rfl 1 (by decide) (hts _ q171) (fun _ h9 => h9) rfl (by decide +kernel) rfl rfl (Nat.le_of_ble_eq_true rfl) dX5_become_13 (fun H locs hP hD hS => ?_)
  have hP : va_P D vwCl [(a_this, .inr (5, [.int z_p1_day, .int z_p1_crossed, .ref a_came, .ref a_under, .ref a_due])), (a_p1, .inr (5, [.int z_p1_day, .int z_p1_crossed, .ref a_p1_came, .ref a_p1_under, .ref a_p1_due])), (a_p1_came, .inl (cI, 8, .inl z_p1_came)), (a_came, .inl (cI, 8, .inl z_came)), (a_p1_under, .inl (cI, 8, .inl z_p1_under)), (a_under, .inl (cI, 8, .inl z_under)), (a_p1_due, .inl (cI, 64, .inl z_p1_due)), (a_due, .inl (cI, 64, .inl z_due))] H := hP
  have hD : va_D A [(a_this, .inr (5, [.int z_p1_day, .int z_p1_crossed, .ref a_came, .ref a_under, .ref a_due])), (a_p1, .inr (5, [.int z_p1_day, .int z_p1_crossed, .ref a_p1_came, .ref a_p1_under, .ref a_p1_due])), (a_p1_came, .inl (cI, 8, .inl z_p1_came)), (a_came, .inl (cI, 8, .inl z_came)), (a_p1_under, .inl (cI, 8, .inl z_p1_under)), (a_under, .inl (cI, 8, .inl z_under)), (a_p1_due, .inl (cI, 64, .inl z_p1_due)), (a_due, .inl (cI, 64, .inl z_due))] := hD
  refine lv_aload_n hx hb dX5_become_16 rfl (lv_at hl 1 rfl) ?_
  refine va_get (D := D) (ci := 5) (v := .ref a_p1_came) (C := RX5) (T := TX5) (N := 5) hx hb hts inTX5 hown hK hP 1 rfl rfl 2 (by decide) (hts _ q173) (fun _ h9 => h9) rfl dX5_become_17 ?_
  refine lv_iconst (v := 0) hx hb dX5_become_20 (by decide) ?_
  refine lv_aload_n hx hb dX5_become_21 rfl (lv_at hl 0 rfl) ?_
  refine va_get (D := D) (ci := 5) (v := .ref a_came) (C := RX5) (T := TX5) (N := 5) hx hb hts inTX5 hown hK hP 0 rfl rfl 2 (by decide) (hts _ q173) (fun _ h9 => h9) rfl dX5_become_22 ?_
  refine lv_iconst (v := 0) hx hb dX5_become_25 (by decide) ?_
  refine lv_bipush (v := 8) hx hb dX5_become_26 (by decide) ?_
  refine x_copy hx hb hml hl.1 hown hts q600 hK hP hD hS 2 3 0 0 rfl rfl rfl rfl (sp := 0) (dp := 0) (n := 8) (by decide) (by decide) (by decide) (by decide) (by decide) rfl rfl rfl (Nat.le_of_ble_eq_true rfl) (Nat.le_of_ble_eq_true rfl) dX5_become_28 (fun H locs hP hD hS => ?_)
  have hP : va_P D vwCl [(a_this, .inr (5, [.int z_p1_day, .int z_p1_crossed, .ref a_came, .ref a_under, .ref a_due])), (a_p1, .inr (5, [.int z_p1_day, .int z_p1_crossed, .ref a_p1_came, .ref a_p1_under, .ref a_p1_due])), (a_p1_came, .inl (cI, 8, .inl z_p1_came)), (a_came, .inl (cI, 8, .inl (va_cpy z_p1_came z_came 0 0 8))), (a_p1_under, .inl (cI, 8, .inl z_p1_under)), (a_under, .inl (cI, 8, .inl z_under)), (a_p1_due, .inl (cI, 64, .inl z_p1_due)), (a_due, .inl (cI, 64, .inl z_due))] H := hP
  have hD : va_D A [(a_this, .inr (5, [.int z_p1_day, .int z_p1_crossed, .ref a_came, .ref a_under, .ref a_due])), (a_p1, .inr (5, [.int z_p1_day, .int z_p1_crossed, .ref a_p1_came, .ref a_p1_under, .ref a_p1_due])), (a_p1_came, .inl (cI, 8, .inl z_p1_came)), (a_came, .inl (cI, 8, .inl (va_cpy z_p1_came z_came 0 0 8))), (a_p1_under, .inl (cI, 8, .inl z_p1_under)), (a_under, .inl (cI, 8, .inl z_under)), (a_p1_due, .inl (cI, 64, .inl z_p1_due)), (a_due, .inl (cI, 64, .inl z_due))] := hD
  refine lv_aload_n hx hb dX5_become_31 rfl (lv_at hl 1 rfl) ?_
  refine va_get (D := D) (ci := 5) (v := .ref a_p1_under) (C := RX5) (T := TX5) (N := 5) hx hb hts inTX5 hown hK hP 1 rfl rfl 3 (by decide) (hts _ q179) (fun _ h9 => h9) rfl dX5_become_32 ?_
  refine lv_iconst (v := 0) hx hb dX5_become_35 (by decide) ?_
  refine lv_aload_n hx hb dX5_become_36 rfl (lv_at hl 0 rfl) ?_
  refine va_get (D := D) (ci := 5) (v := .ref a_under) (C := RX5) (T := TX5) (N := 5) hx hb hts inTX5 hown hK hP 0 rfl rfl 3 (by decide) (hts _ q179) (fun _ h9 => h9) rfl dX5_become_37 ?_
  refine lv_iconst (v := 0) hx hb dX5_become_40 (by decide) ?_
  refine lv_bipush (v := 8) hx hb dX5_become_41 (by decide) ?_
  refine x_copy hx hb hml hl.1 hown hts q600 hK hP hD hS 4 5 0 0 rfl rfl rfl rfl (sp := 0) (dp := 0) (n := 8) (by decide) (by decide) (by decide) (by decide) (by decide) rfl rfl rfl (Nat.le_of_ble_eq_true rfl) (Nat.le_of_ble_eq_true rfl) dX5_become_43 (fun H locs hP hD hS => ?_)
  have hP : va_P D vwCl [(a_this, .inr (5, [.int z_p1_day, .int z_p1_crossed, .ref a_came, .ref a_under, .ref a_due])), (a_p1, .inr (5, [.int z_p1_day, .int z_p1_crossed, .ref a_p1_came, .ref a_p1_under, .ref a_p1_due])), (a_p1_came, .inl (cI, 8, .inl z_p1_came)), (a_came, .inl (cI, 8, .inl (va_cpy z_p1_came z_came 0 0 8))), (a_p1_under, .inl (cI, 8, .inl z_p1_under)), (a_under, .inl (cI, 8, .inl (va_cpy z_p1_under z_under 0 0 8))), (a_p1_due, .inl (cI, 64, .inl z_p1_due)), (a_due, .inl (cI, 64, .inl z_due))] H := hP
  have hD : va_D A [(a_this, .inr (5, [.int z_p1_day, .int z_p1_crossed, .ref a_came, .ref a_under, .ref a_due])), (a_p1, .inr (5, [.int z_p1_day, .int z_p1_crossed, .ref a_p1_came, .ref a_p1_under, .ref a_p1_due])), (a_p1_came, .inl (cI, 8, .inl z_p1_came)), (a_came, .inl (cI, 8, .inl (va_cpy z_p1_came z_came 0 0 8))), (a_p1_under, .inl (cI, 8, .inl z_p1_under)), (a_under, .inl (cI, 8, .inl (va_cpy z_p1_under z_under 0 0 8))), (a_p1_due, .inl (cI, 64, .inl z_p1_due)), (a_due, .inl (cI, 64, .inl z_due))] := hD
  refine lv_aload_n hx hb dX5_become_46 rfl (lv_at hl 1 rfl) ?_
  refine va_get (D := D) (ci := 5) (v := .ref a_p1_due) (C := RX5) (T := TX5) (N := 5) hx hb hts inTX5 hown hK hP 1 rfl rfl 4 (by decide) (hts _ q182) (fun _ h9 => h9) rfl dX5_become_47 ?_
  refine lv_iconst (v := 0) hx hb dX5_become_50 (by decide) ?_
  refine lv_aload_n hx hb dX5_become_51 rfl (lv_at hl 0 rfl) ?_
  refine va_get (D := D) (ci := 5) (v := .ref a_due) (C := RX5) (T := TX5) (N := 5) hx hb hts inTX5 hown hK hP 0 rfl rfl 4 (by decide) (hts _ q182) (fun _ h9 => h9) rfl dX5_become_52 ?_
  refine lv_iconst (v := 0) hx hb dX5_become_55 (by decide) ?_
  refine lv_bipush (v := 64) hx hb dX5_become_56 (by decide) ?_
  refine x_copy hx hb hml hl.1 hown hts q600 hK hP hD hS 6 7 0 0 rfl rfl rfl rfl (sp := 0) (dp := 0) (n := 64) (by decide) (by decide) (by decide) (by decide) (by decide) rfl rfl rfl (Nat.le_of_ble_eq_true rfl) (Nat.le_of_ble_eq_true rfl) dX5_become_58 (fun H locs hP hD hS => ?_)
  have hP : va_P D vwCl [(a_this, .inr (5, [.int z_p1_day, .int z_p1_crossed, .ref a_came, .ref a_under, .ref a_due])), (a_p1, .inr (5, [.int z_p1_day, .int z_p1_crossed, .ref a_p1_came, .ref a_p1_under, .ref a_p1_due])), (a_p1_came, .inl (cI, 8, .inl z_p1_came)), (a_came, .inl (cI, 8, .inl (va_cpy z_p1_came z_came 0 0 8))), (a_p1_under, .inl (cI, 8, .inl z_p1_under)), (a_under, .inl (cI, 8, .inl (va_cpy z_p1_under z_under 0 0 8))), (a_p1_due, .inl (cI, 64, .inl z_p1_due)), (a_due, .inl (cI, 64, .inl (va_cpy z_p1_due z_due 0 0 64)))] H := hP
  have hD : va_D A [(a_this, .inr (5, [.int z_p1_day, .int z_p1_crossed, .ref a_came, .ref a_under, .ref a_due])), (a_p1, .inr (5, [.int z_p1_day, .int z_p1_crossed, .ref a_p1_came, .ref a_p1_under, .ref a_p1_due])), (a_p1_came, .inl (cI, 8, .inl z_p1_came)), (a_came, .inl (cI, 8, .inl (va_cpy z_p1_came z_came 0 0 8))), (a_p1_under, .inl (cI, 8, .inl z_p1_under)), (a_under, .inl (cI, 8, .inl (va_cpy z_p1_under z_under 0 0 8))), (a_p1_due, .inl (cI, 64, .inl z_p1_due)), (a_due, .inl (cI, 64, .inl (va_cpy z_p1_due z_due 0 0 64)))] := hD
  cases hf
  exact W.vret hx hb hr (fun t ht _ => ⟨rfl, by rw [ht]; exact hP, hS.F ht⟩) hS.2.2 dX5_become_61
theorem kX5_become {p : Program} {l : Launch} {e : Env} {R : Room} {s : State} {m : MethodId} {args : Array Value} {below : List Frame} {meth : Method} {c : Code} {H : Heap} {locs : List Loc} {cells slots : Nat} {Q : State → Prop} {cc : ByteArray} {nL pc index : Nat} {ls : Array Slot} {rest : List Value} {own : String} {D : va_G} {cI cZ cQ : ClassId} {a_this a_came a_under a_due a_p1 a_p1_came a_p1_under a_p1_due : Nat} {z_day z_crossed z_p1_day z_p1_crossed : Int32} {z_p1_came z_came z_p1_under z_under z_p1_due z_due : Nat → Int32} {fu : Nat} {o_z_day o_z_crossed : Int32} {o_z_came o_z_under o_z_due : Nat → Int32} (hx : p.tables.exec = Jvm.exec) (hb : c.code = cc) (hml : c.maxLocals = nL) (hown : s.vm.findClass own = some m.cls) (hts : ∀ w ∈ TB, w.before args s = true) (hKW : KW D (TY cI cZ cQ) s) (hlk : Cond.methodLink own index yX5_become ∈ TB) {ws : va_W} {A : Nat → Prop} {H0 : Heap} (hP : va_P D vwCl ws H) (hD : va_D A ws) (hS : va_S A H0 H locs) (is : List Nat) (hC : is.map (fun i => ws[i]?) = ([(a_this, .inr (5, [.int z_day, .int z_crossed, .ref a_came, .ref a_under, .ref a_due])), (a_p1, .inr (5, [.int z_p1_day, .int z_p1_crossed, .ref a_p1_came, .ref a_p1_under, .ref a_p1_due])), (a_p1_came, .inl (cI, 8, .inl z_p1_came)), (a_came, .inl (cI, 8, .inl z_came)), (a_p1_under, .inl (cI, 8, .inl z_p1_under)), (a_under, .inl (cI, 8, .inl z_under)), (a_p1_due, .inl (cI, 64, .inl z_p1_due)), (a_due, .inl (cI, 64, .inl z_due))] : va_W).map some) (hnd : va_nd is = true) (hf : fX5_become fu z_p1_day z_p1_crossed z_p1_came z_p1_under z_p1_due z_came z_under z_due z_day z_crossed = some (o_z_came, o_z_under, o_z_due, o_z_day, o_z_crossed)) (hn : ls.size = nL) (hW : (rest.map fun v => v.category).sum ≤ 8) (hR : 1 + 1 ≤ R.frames ∧ 8 + (2 + 11) + 64 ≤ R.locals) (hcs : cells ≤ R.cells ∧ slots ≤ R.slots) (hdg : decode cc pc = .ok (.invokevirtual index, 3)) (kk : ∀ (H1 : Heap) (locs1 : List Loc), va_P D vwCl (rpl ws is [(a_this, .inr (5, [.int o_z_day, .int o_z_crossed, .ref a_came, .ref a_under, .ref a_due])), (a_p1, .inr (5, [.int z_p1_day, .int z_p1_crossed, .ref a_p1_came, .ref a_p1_under, .ref a_p1_due])), (a_p1_came, .inl (cI, 8, .inl z_p1_came)), (a_came, .inl (cI, 8, .inl o_z_came)), (a_p1_under, .inl (cI, 8, .inl z_p1_under)), (a_under, .inl (cI, 8, .inl o_z_under)), (a_p1_due, .inl (cI, 64, .inl z_p1_due)), (a_due, .inl (cI, 64, .inl o_z_due))]) H1 → va_D A (rpl ws is [(a_this, .inr (5, [.int o_z_day, .int o_z_crossed, .ref a_came, .ref a_under, .ref a_due])), (a_p1, .inr (5, [.int z_p1_day, .int z_p1_crossed, .ref a_p1_came, .ref a_p1_under, .ref a_p1_due])), (a_p1_came, .inl (cI, 8, .inl z_p1_came)), (a_came, .inl (cI, 8, .inl o_z_came)), (a_p1_under, .inl (cI, 8, .inl z_p1_under)), (a_under, .inl (cI, 8, .inl o_z_under)), (a_p1_due, .inl (cI, 64, .inl z_p1_due)), (a_due, .inl (cI, 64, .inl o_z_due))]) → va_S A H0 H1 locs1 → W p l e R s m args below meth c H1 locs1 cells slots Q (F0 m (pc + 3) ls (rest))) : W p l e R s m args below meth c H locs cells slots Q (F0 m pc ls (.ref a_p1 :: .ref a_this :: rest)) :=
  x_rw (va_runV (As := [.ref a_p1]) (rest := rest) ⟨hx, hb, hml, hown, hts⟩ (tX5_become hf) (cwV 1 hts (tb_V hlk q597 q598 q43 q599) rfl rfl rfl (by decide +kernel) hR) ⟨rwB, va_recv hKW.1 (subP hP hC) (ci := 5) (q0 := 0) rfl rfl, fun U hU hW => ⟨rfl, by rw [hU]; exact subP hP hC, hKW.warm hW, subD hD hC hnd⟩⟩ rfl rfl hn rfl (lv_room hW) hdg hcs) hP hD hS is hC rfl kk

-- HalfPlanks$Promises.meetsAnother(LHalfPlanks$Folk;II)Z
set_option maxHeartbeats 4000000 in
set_option maxRecDepth 100000 in
theorem tX5_meetsAnother {l : Launch} {D : va_G} {cI cZ cQ : ClassId} {a_this a_came a_under a_due a_p1 a_p1_bank a_p1_kind a_p1_word a_p1_slow a_p1_told : Nat} {z_day z_crossed z_p1_planks z_p1_size z_p1_sworn p2 p3 : Int32} {z_under z_p1_bank : Nat → Int32} {fu : Nat} {r : Int32} (hf : fX5_meetsAnother fu z_p1_size z_under z_p1_bank p2 p3 = some (r)) : Met l yX5_meetsAnother (.code yX5_meetsAnother cX5_meetsAnother 5 (some .boolean) :: TB) ({ frames := 1, cells := 0, slots := 0, locals := 21 } : Room) (roP D (TY cI cZ cQ) [(a_this, .inr (5, [.int z_day, .int z_crossed, .ref a_came, .ref a_under, .ref a_due])), (a_p1, .inr (0, [.int z_p1_planks, .int z_p1_size, .int z_p1_sworn, .ref a_p1_bank, .ref a_p1_kind, .ref a_p1_word, .ref a_p1_slow, .ref a_p1_told])), (a_under, .inl (cI, 8, .inl z_under)), (a_p1_bank, .inl (cI, 8, .inl z_p1_bank))] [.ref a_this, .ref a_p1, .int p2, .int p3]) (roQ (some (.int r))) 0 0 (fun _ => False) := by
  refine Met.ofW (cc := cX5_meetsAnother) (maxL := 5) (ret := (some .boolean)) (by decide) rfl ?_
  intro p e s m args below meth c s₁ B hml hv
  obtain ⟨rfl, hP, hKW⟩ := hv
  have hx := B.exec
  have hb := B.bytes
  have hr := B.returns
  have hts : ∀ w ∈ TB, w.before ([.ref a_this, .ref a_p1, .int p2, .int p3] : List Value).toArray s = true := fun w h => atoms_spec (ws := .code yX5_meetsAnother cX5_meetsAnother 5 (some .boolean) :: TB) B.pre w (List.mem_cons_of_mem _ h)
  have hown : s.vm.findClass RX5 = some m.cls := findClass_of_methodNamed B.named
  have hlocks := B.notSynchronized
  have hK := hKW.1
  have hl := lv_entry [.ref a_this, .ref a_p1, .int p2, .int p3] (n := 5) (Nat.le_of_ble_eq_true rfl)
  rw [lg_entry_eq]
  generalize (lg_sl [.ref a_this, .ref a_p1, .int p2, .int p3] ++ List.replicate (5 - (lg_sl [.ref a_this, .ref a_p1, .int p2, .int p3]).length) Slot.unset).toArray = ls at hl ⊢
  have hl : lv_has ls 5 [(0, .ref a_this), (1, .ref a_p1), (2, .int p2), (3, .int p3)] := hl
  show W p l e ({ frames := 1, cells := 0, slots := 0, locals := 21 } : Room) s m ([.ref a_this, .ref a_p1, .int p2, .int p3] : List Value).toArray below meth c s.heap [] 0 0 (MQ below (roQ (some (.int r))) ([.ref a_this, .ref a_p1, .int p2, .int p3] : List Value).toArray s 0 0 (fun _ => False)) (F0 m 0 ls [])
  have hB3 : ∀ (n3 : Nat) (l2 : Int32) (l3 : Int32) (l4 : Int32) (ls : Array Slot), lv_has ls 5 [(0, .ref a_this), (1, .ref a_p1), (2, .int l2), (3, .int l3), (4, .int l4)] → fX5_meetsAnother_b3 fu z_p1_size z_under z_p1_bank n3 l2 l3 l4 = some (r) → W p l e ({ frames := 1, cells := 0, slots := 0, locals := 21 } : Room) s m ([.ref a_this, .ref a_p1, .int p2, .int p3] : List Value).toArray below meth c s.heap [] 0 0 (MQ below (roQ (some (.int r))) ([.ref a_this, .ref a_p1, .int p2, .int p3] : List Value).toArray s 0 0 (fun _ => False)) (F0 m 3 ls []) := by
    intro n3
    induction n3 with
    | zero => intro l2 l3 l4 ls hl hf; exact nn hf
    | succ n3 ih3 =>
      intro l2 l3 l4 ls hl hf
      replace hf : fX5_meetsAnother_b3_body fu z_p1_size z_under z_p1_bank (fX5_meetsAnother_b3 fu z_p1_size z_under z_p1_bank n3) l2 l3 l4 = some (r) := hf
      unfold fX5_meetsAnother_b3_body at hf
      refine lv_iload hx hb dX5_meetsAnother_3 (lv_at hl 4 rfl) ?_
      refine lv_aload_n hx hb dX5_meetsAnother_5 rfl (lv_at hl 1 rfl) ?_
      refine va_get (D := D) (ci := 0) (v := .int z_p1_size) (C := RX0) (T := TX0) (N := 8) hx hb hts inTX0 hown hK hP 1 rfl rfl 1 (by decide) (hts _ q82) (fun _ h9 => h9) rfl dX5_meetsAnother_6 ?_
      refine lv_icmp_ge (tgt := 50) hx hb dX5_meetsAnother_9 (by decide) (fun c1 => ?_) (fun c1 => ?_)
      · replace hf := it hf c1
        refine lv_iconst (v := 0) hx hb dX5_meetsAnother_50 (by decide) ?_
        cases hf
        exact W.zret hx hb hr rfl (fun t ht _ => ⟨rfl, ht⟩) (fun q h => by cases h) dX5_meetsAnother_51
      · replace hf := ie hf c1
        refine lv_aload_n hx hb dX5_meetsAnother_12 rfl (lv_at hl 0 rfl) ?_
        refine va_get (D := D) (ci := 5) (v := .ref a_under) (C := RX5) (T := TX5) (N := 5) hx hb hts inTX5 hown hK hP 0 rfl rfl 3 (by decide) (hts _ q179) (fun _ h9 => h9) rfl dX5_meetsAnother_13 ?_
        refine lv_iload_n hx hb dX5_meetsAnother_16 rfl (lv_at hl 3 rfl) ?_
        obtain ⟨v2, hv2, hf⟩ := ob hf
        refine x_iald hx hb hK hP 2 0 rfl rfl hv2 dX5_meetsAnother_17 ?_
        refine lv_iload hx hb dX5_meetsAnother_18 (lv_at hl 4 rfl) ?_
        obtain ⟨v3, hv3, hf⟩ := ob hf
        refine knX8_has hx hb hml hown hts hKW (hKW.2 ("HalfPlanks$Promises", 39, yX8_has, "HalfPlanks") (by decide +kernel))  hv3 hl.1 (Nat.le_of_ble_eq_true rfl) ⟨Nat.le_of_ble_eq_true rfl, Nat.le_of_ble_eq_true rfl⟩ ⟨Nat.zero_le _, Nat.zero_le _⟩ dX5_meetsAnother_20 ?_
        refine lv_if_eq (tgt := 44) hx hb dX5_meetsAnother_23 (by decide) (fun c4 => ?_) (fun c4 => ?_)
        · replace hf := it hf c4
          refine lv_iinc (v := (l4 + 1)) (lv' := [(4, .int (l4 + 1)), (0, .ref a_this), (1, .ref a_p1), (2, .int l2), (3, .int l3)]) hx hb dX5_meetsAnother_44 hl (k := 4) rfl rfl (by decide) rfl (fun ls hl => ?_)
          refine lv_goto (tgt := 3) hx hb dX5_meetsAnother_47 (by decide) ?_
          exact ih3 l2 l3 (l4 + 1) ls (lv_sub hl [1, 2, 3, 4, 0] rfl) hf
        · replace hf := ie hf c4
          refine lv_aload_n hx hb dX5_meetsAnother_26 rfl (lv_at hl 1 rfl) ?_
          refine va_get (D := D) (ci := 0) (v := .ref a_p1_bank) (C := RX0) (T := TX0) (N := 8) hx hb hts inTX0 hown hK hP 1 rfl rfl 3 (by decide) (hts _ q89) (fun _ h9 => h9) rfl dX5_meetsAnother_27 ?_
          refine lv_iload hx hb dX5_meetsAnother_30 (lv_at hl 4 rfl) ?_
          obtain ⟨v5, hv5, hf⟩ := ob hf
          refine x_iald hx hb hK hP 3 0 rfl rfl hv5 dX5_meetsAnother_32 ?_
          refine lv_aload_n hx hb dX5_meetsAnother_33 rfl (lv_at hl 1 rfl) ?_
          refine va_get (D := D) (ci := 0) (v := .ref a_p1_bank) (C := RX0) (T := TX0) (N := 8) hx hb hts inTX0 hown hK hP 1 rfl rfl 3 (by decide) (hts _ q89) (fun _ h9 => h9) rfl dX5_meetsAnother_34 ?_
          refine lv_iload_n hx hb dX5_meetsAnother_37 rfl (lv_at hl 2 rfl) ?_
          obtain ⟨v6, hv6, hf⟩ := ob hf
          refine x_iald hx hb hK hP 3 0 rfl rfl hv6 dX5_meetsAnother_38 ?_
          refine lv_icmp_eq (tgt := 44) hx hb dX5_meetsAnother_39 (by decide) (fun c7 => ?_) (fun c7 => ?_)
          · replace hf := it hf c7
            refine lv_iinc (v := (l4 + 1)) (lv' := [(4, .int (l4 + 1)), (0, .ref a_this), (1, .ref a_p1), (2, .int l2), (3, .int l3)]) hx hb dX5_meetsAnother_44 hl (k := 4) rfl rfl (by decide) rfl (fun ls hl => ?_)
            refine lv_goto (tgt := 3) hx hb dX5_meetsAnother_47 (by decide) ?_
            exact ih3 l2 l3 (l4 + 1) ls (lv_sub hl [1, 2, 3, 4, 0] rfl) hf
          · replace hf := ie hf c7
            refine lv_iconst (v := 1) hx hb dX5_meetsAnother_42 (by decide) ?_
            cases hf
            exact W.zret hx hb hr rfl (fun t ht _ => ⟨rfl, ht⟩) (fun q h => by cases h) dX5_meetsAnother_43
  unfold fX5_meetsAnother at hf
  refine lv_iconst (v := 0) hx hb dX5_meetsAnother_0 (by decide) ?_
  refine lv_istore (lv' := [(4, .int 0), (0, .ref a_this), (1, .ref a_p1), (2, .int p2), (3, .int p3)]) hx hb dX5_meetsAnother_1 hl (by decide) rfl (fun ls hl => ?_)
  exact hB3 fu p2 p3 0 ls (lv_sub hl [1, 2, 3, 4, 0] rfl) hf
theorem kX5_meetsAnother {p : Program} {l : Launch} {e : Env} {R : Room} {s : State} {m : MethodId} {args : Array Value} {below : List Frame} {meth : Method} {c : Code} {H : Heap} {locs : List Loc} {cells slots : Nat} {Q : State → Prop} {cc : ByteArray} {nL pc index : Nat} {ls : Array Slot} {rest : List Value} {own : String} {D : va_G} {cI cZ cQ : ClassId} {a_this a_came a_under a_due a_p1 a_p1_bank a_p1_kind a_p1_word a_p1_slow a_p1_told : Nat} {z_day z_crossed z_p1_planks z_p1_size z_p1_sworn p2 p3 : Int32} {z_under z_p1_bank : Nat → Int32} {fu : Nat} {r : Int32} (hx : p.tables.exec = Jvm.exec) (hb : c.code = cc) (hml : c.maxLocals = nL) (hown : s.vm.findClass own = some m.cls) (hts : ∀ w ∈ TB, w.before args s = true) (hKW : KW D (TY cI cZ cQ) s) (hlk : Cond.methodLink own index yX5_meetsAnother ∈ TB) (hP : va_P D vwCl [(a_this, .inr (5, [.int z_day, .int z_crossed, .ref a_came, .ref a_under, .ref a_due])), (a_p1, .inr (0, [.int z_p1_planks, .int z_p1_size, .int z_p1_sworn, .ref a_p1_bank, .ref a_p1_kind, .ref a_p1_word, .ref a_p1_slow, .ref a_p1_told])), (a_under, .inl (cI, 8, .inl z_under)), (a_p1_bank, .inl (cI, 8, .inl z_p1_bank))] H) (hf : fX5_meetsAnother fu z_p1_size z_under z_p1_bank p2 p3 = some (r)) (hn : ls.size = nL) (hW : (rest.map fun v => v.category).sum ≤ 8) (hR : 1 + 1 ≤ R.frames ∧ 8 + (5 + 11) + 21 ≤ R.locals) (hcs : cells ≤ R.cells ∧ slots ≤ R.slots) (hdg : decode cc pc = .ok (.invokevirtual index, 3)) (kk : W p l e R s m args below meth c H locs cells slots Q (F0 m (pc + 3) ls (.int r :: rest))) : W p l e R s m args below meth c H locs cells slots Q (F0 m pc ls (.int p3 :: .int p2 :: .ref a_p1 :: .ref a_this :: rest)) :=
  x_ret (va_runV (As := [.ref a_p1, .int p2, .int p3]) (rest := rest) ⟨hx, hb, hml, hown, hts⟩ (tX5_meetsAnother hf) (cwV 3 hts (tb_V hlk q607 q608 q43 q609) rfl rfl rfl (by decide +kernel) hR) ⟨roB, va_recv hKW.1 hP (ci := 5) (q0 := 0) rfl rfl, fun U hU hW => ⟨rfl, by rw [hU]; exact hP, hKW.warm hW⟩⟩ rfl rfl hn rfl (lv_room hW) hdg hcs) kk

-- HalfPlanks$Promises.post(LHalfPlanks$Folk;II)I
set_option maxHeartbeats 4000000 in
set_option maxRecDepth 100000 in
theorem tX5_post {l : Launch} {D : va_G} {cI cZ cQ : ClassId} {a_this a_came a_under a_due a_p1 a_p1_bank a_p1_kind a_p1_word a_p1_slow a_p1_told : Nat} {z_day z_crossed z_p1_planks z_p1_size z_p1_sworn p2 p3 : Int32} {z_p1_slow z_under z_p1_bank z_due : Nat → Int32} {fu : Nat} {r : Int32} {o_z_under o_z_due : Nat → Int32} (hf : fX5_post fu z_day z_p1_slow z_p1_size z_p1_bank z_under z_due p2 p3 = some (r, o_z_under, o_z_due)) : Met l yX5_post (.code yX5_post cX5_post 5 (some .int) :: TB) ({ frames := 2, cells := 0, slots := 0, locals := 45 } : Room) (rwP D (TY cI cZ cQ) [(a_this, .inr (5, [.int z_day, .int z_crossed, .ref a_came, .ref a_under, .ref a_due])), (a_p1, .inr (0, [.int z_p1_planks, .int z_p1_size, .int z_p1_sworn, .ref a_p1_bank, .ref a_p1_kind, .ref a_p1_word, .ref a_p1_slow, .ref a_p1_told])), (a_p1_slow, .inl (cI, 8, .inl z_p1_slow)), (a_under, .inl (cI, 8, .inl z_under)), (a_p1_bank, .inl (cI, 8, .inl z_p1_bank)), (a_due, .inl (cI, 64, .inl z_due))] [.ref a_this, .ref a_p1, .int p2, .int p3]) (rwQ D (some (.int r)) [(a_this, .inr (5, [.int z_day, .int z_crossed, .ref a_came, .ref a_under, .ref a_due])), (a_p1, .inr (0, [.int z_p1_planks, .int z_p1_size, .int z_p1_sworn, .ref a_p1_bank, .ref a_p1_kind, .ref a_p1_word, .ref a_p1_slow, .ref a_p1_told])), (a_p1_slow, .inl (cI, 8, .inl z_p1_slow)), (a_under, .inl (cI, 8, .inl o_z_under)), (a_p1_bank, .inl (cI, 8, .inl z_p1_bank)), (a_due, .inl (cI, 64, .inl o_z_due))] (inW [(a_this, .inr (5, [.int z_day, .int z_crossed, .ref a_came, .ref a_under, .ref a_due])), (a_p1, .inr (0, [.int z_p1_planks, .int z_p1_size, .int z_p1_sworn, .ref a_p1_bank, .ref a_p1_kind, .ref a_p1_word, .ref a_p1_slow, .ref a_p1_told])), (a_p1_slow, .inl (cI, 8, .inl z_p1_slow)), (a_under, .inl (cI, 8, .inl z_under)), (a_p1_bank, .inl (cI, 8, .inl z_p1_bank)), (a_due, .inl (cI, 64, .inl z_due))])) 0 0 (inW [(a_this, .inr (5, [.int z_day, .int z_crossed, .ref a_came, .ref a_under, .ref a_due])), (a_p1, .inr (0, [.int z_p1_planks, .int z_p1_size, .int z_p1_sworn, .ref a_p1_bank, .ref a_p1_kind, .ref a_p1_word, .ref a_p1_slow, .ref a_p1_told])), (a_p1_slow, .inl (cI, 8, .inl z_p1_slow)), (a_under, .inl (cI, 8, .inl z_under)), (a_p1_bank, .inl (cI, 8, .inl z_p1_bank)), (a_due, .inl (cI, 64, .inl z_due))]) := by
  refine Met.ofW (cc := cX5_post) (maxL := 5) (ret := (some .int)) (by decide) rfl ?_
  intro p e s m args below meth c s₁ B hml hv
  obtain ⟨rfl, hP, hKW, hD0⟩ := hv
  have hx := B.exec
  have hb := B.bytes
  have hr := B.returns
  have hts : ∀ w ∈ TB, w.before ([.ref a_this, .ref a_p1, .int p2, .int p3] : List Value).toArray s = true := fun w h => atoms_spec (ws := .code yX5_post cX5_post 5 (some .int) :: TB) B.pre w (List.mem_cons_of_mem _ h)
  have hown : s.vm.findClass RX5 = some m.cls := findClass_of_methodNamed B.named
  have hlocks := B.notSynchronized
  have hK := hKW.1
  have hD := inW_D hD0
  generalize hAe : inW [(a_this, .inr (5, [.int z_day, .int z_crossed, .ref a_came, .ref a_under, .ref a_due])), (a_p1, .inr (0, [.int z_p1_planks, .int z_p1_size, .int z_p1_sworn, .ref a_p1_bank, .ref a_p1_kind, .ref a_p1_word, .ref a_p1_slow, .ref a_p1_told])), (a_p1_slow, .inl (cI, 8, .inl z_p1_slow)), (a_under, .inl (cI, 8, .inl z_under)), (a_p1_bank, .inl (cI, 8, .inl z_p1_bank)), (a_due, .inl (cI, 64, .inl z_due))] = A at hD ⊢
  have hS : va_S A s.heap s.heap [] := va_S.rf
  have hl := lv_entry [.ref a_this, .ref a_p1, .int p2, .int p3] (n := 5) (Nat.le_of_ble_eq_true rfl)
  rw [lg_entry_eq]
  generalize (lg_sl [.ref a_this, .ref a_p1, .int p2, .int p3] ++ List.replicate (5 - (lg_sl [.ref a_this, .ref a_p1, .int p2, .int p3]).length) Slot.unset).toArray = ls at hl ⊢
  have hl : lv_has ls 5 [(0, .ref a_this), (1, .ref a_p1), (2, .int p2), (3, .int p3)] := hl
  show W p l e ({ frames := 2, cells := 0, slots := 0, locals := 45 } : Room) s m ([.ref a_this, .ref a_p1, .int p2, .int p3] : List Value).toArray below meth c s.heap [] 0 0 (MQ below (rwQ D (some (.int r)) [(a_this, .inr (5, [.int z_day, .int z_crossed, .ref a_came, .ref a_under, .ref a_due])), (a_p1, .inr (0, [.int z_p1_planks, .int z_p1_size, .int z_p1_sworn, .ref a_p1_bank, .ref a_p1_kind, .ref a_p1_word, .ref a_p1_slow, .ref a_p1_told])), (a_p1_slow, .inl (cI, 8, .inl z_p1_slow)), (a_under, .inl (cI, 8, .inl o_z_under)), (a_p1_bank, .inl (cI, 8, .inl z_p1_bank)), (a_due, .inl (cI, 64, .inl o_z_due))] A) ([.ref a_this, .ref a_p1, .int p2, .int p3] : List Value).toArray s 0 0 A) (F0 m 0 ls [])
  have hP : va_P D vwCl [(a_this, .inr (5, [.int z_day, .int z_crossed, .ref a_came, .ref a_under, .ref a_due])), (a_p1, .inr (0, [.int z_p1_planks, .int z_p1_size, .int z_p1_sworn, .ref a_p1_bank, .ref a_p1_kind, .ref a_p1_word, .ref a_p1_slow, .ref a_p1_told])), (a_p1_slow, .inl (cI, 8, .inl z_p1_slow)), (a_under, .inl (cI, 8, .inl z_under)), (a_p1_bank, .inl (cI, 8, .inl z_p1_bank)), (a_due, .inl (cI, 64, .inl z_due))] s.heap := hP
  have hD : va_D A [(a_this, .inr (5, [.int z_day, .int z_crossed, .ref a_came, .ref a_under, .ref a_due])), (a_p1, .inr (0, [.int z_p1_planks, .int z_p1_size, .int z_p1_sworn, .ref a_p1_bank, .ref a_p1_kind, .ref a_p1_word, .ref a_p1_slow, .ref a_p1_told])), (a_p1_slow, .inl (cI, 8, .inl z_p1_slow)), (a_under, .inl (cI, 8, .inl z_under)), (a_p1_bank, .inl (cI, 8, .inl z_p1_bank)), (a_due, .inl (cI, 64, .inl z_due))] := hD
  have hB26 : ∀ (l2 : Int32) (l3 : Int32) (s0 : Int32) (s1 : Int32) (z_under : Nat → Int32) (z_due : Nat → Int32) (H : Heap) (locs : List Loc) (ls : Array Slot), va_P D vwCl [(a_this, .inr (5, [.int z_day, .int z_crossed, .ref a_came, .ref a_under, .ref a_due])), (a_p1, .inr (0, [.int z_p1_planks, .int z_p1_size, .int z_p1_sworn, .ref a_p1_bank, .ref a_p1_kind, .ref a_p1_word, .ref a_p1_slow, .ref a_p1_told])), (a_p1_slow, .inl (cI, 8, .inl z_p1_slow)), (a_under, .inl (cI, 8, .inl z_under)), (a_p1_bank, .inl (cI, 8, .inl z_p1_bank)), (a_due, .inl (cI, 64, .inl z_due))] H → va_D A [(a_this, .inr (5, [.int z_day, .int z_crossed, .ref a_came, .ref a_under, .ref a_due])), (a_p1, .inr (0, [.int z_p1_planks, .int z_p1_size, .int z_p1_sworn, .ref a_p1_bank, .ref a_p1_kind, .ref a_p1_word, .ref a_p1_slow, .ref a_p1_told])), (a_p1_slow, .inl (cI, 8, .inl z_p1_slow)), (a_under, .inl (cI, 8, .inl z_under)), (a_p1_bank, .inl (cI, 8, .inl z_p1_bank)), (a_due, .inl (cI, 64, .inl z_due))] → va_S A s.heap H locs → lv_has ls 5 [(0, .ref a_this), (2, .int l2), (3, .int l3)] → fX5_post_b26 fu z_day z_p1_slow z_p1_size z_p1_bank l2 l3 s0 s1 z_under z_due = some (r, o_z_under, o_z_due) → W p l e ({ frames := 2, cells := 0, slots := 0, locals := 45 } : Room) s m ([.ref a_this, .ref a_p1, .int p2, .int p3] : List Value).toArray below meth c H locs 0 0 (MQ below (rwQ D (some (.int r)) [(a_this, .inr (5, [.int z_day, .int z_crossed, .ref a_came, .ref a_under, .ref a_due])), (a_p1, .inr (0, [.int z_p1_planks, .int z_p1_size, .int z_p1_sworn, .ref a_p1_bank, .ref a_p1_kind, .ref a_p1_word, .ref a_p1_slow, .ref a_p1_told])), (a_p1_slow, .inl (cI, 8, .inl z_p1_slow)), (a_under, .inl (cI, 8, .inl o_z_under)), (a_p1_bank, .inl (cI, 8, .inl z_p1_bank)), (a_due, .inl (cI, 64, .inl o_z_due))] A) ([.ref a_this, .ref a_p1, .int p2, .int p3] : List Value).toArray s 0 0 A) (F0 m 26 ls [.int s0, .int s1]) := by
    intro l2 l3 s0 s1 z_under z_due H locs ls hP hD hS hl hf
    unfold fX5_post_b26 at hf
    refine lv_iadd hx hb dX5_post_26 ?_
    refine lv_istore (lv' := [(4, .int (s1 + s0)), (0, .ref a_this), (2, .int l2), (3, .int l3)]) hx hb dX5_post_27 hl (by decide) rfl (fun ls hl => ?_)
    refine lv_aload_n hx hb dX5_post_29 rfl (lv_at hl 1 rfl) ?_
    refine va_get (D := D) (ci := 5) (v := .ref a_under) (C := RX5) (T := TX5) (N := 5) hx hb hts inTX5 hown hK hP 0 rfl rfl 3 (by decide) (hts _ q179) (fun _ h9 => h9) rfl dX5_post_30 ?_
    refine lv_iload_n hx hb dX5_post_33 rfl (lv_at hl 3 rfl) ?_
    refine lv_dup2_11 hx hb dX5_post_34 rfl rfl ?_
    obtain ⟨v4, hv4, hf⟩ := ob hf
    refine x_iald hx hb hK hP 3 0 rfl rfl hv4 dX5_post_35 ?_
    refine lv_iconst (v := 1) hx hb dX5_post_36 (by decide) ?_
    refine lv_iload_n hx hb dX5_post_37 rfl (lv_at hl 2 rfl) ?_
    refine lv_ishl hx hb dX5_post_38 ?_
    refine lv_ior hx hb dX5_post_39 ?_
    obtain ⟨g5, hg5, hf⟩ := ob hf
    refine x_iast hx hb hK hP hD hS 3 0 rfl rfl hg5 dX5_post_40 (fun H locs hP hD hS => ?_)
    have hP : va_P D vwCl [(a_this, .inr (5, [.int z_day, .int z_crossed, .ref a_came, .ref a_under, .ref a_due])), (a_p1, .inr (0, [.int z_p1_planks, .int z_p1_size, .int z_p1_sworn, .ref a_p1_bank, .ref a_p1_kind, .ref a_p1_word, .ref a_p1_slow, .ref a_p1_told])), (a_p1_slow, .inl (cI, 8, .inl z_p1_slow)), (a_under, .inl (cI, 8, .inl g5)), (a_p1_bank, .inl (cI, 8, .inl z_p1_bank)), (a_due, .inl (cI, 64, .inl z_due))] H := hP
    have hD : va_D A [(a_this, .inr (5, [.int z_day, .int z_crossed, .ref a_came, .ref a_under, .ref a_due])), (a_p1, .inr (0, [.int z_p1_planks, .int z_p1_size, .int z_p1_sworn, .ref a_p1_bank, .ref a_p1_kind, .ref a_p1_word, .ref a_p1_slow, .ref a_p1_told])), (a_p1_slow, .inl (cI, 8, .inl z_p1_slow)), (a_under, .inl (cI, 8, .inl g5)), (a_p1_bank, .inl (cI, 8, .inl z_p1_bank)), (a_due, .inl (cI, 64, .inl z_due))] := hD
    refine lv_aload_n hx hb dX5_post_41 rfl (lv_at hl 1 rfl) ?_
    refine va_get (D := D) (ci := 5) (v := .ref a_due) (C := RX5) (T := TX5) (N := 5) hx hb hts inTX5 hown hK hP 0 rfl rfl 4 (by decide) (hts _ q182) (fun _ h9 => h9) rfl dX5_post_42 ?_
    refine lv_iload_n hx hb dX5_post_45 rfl (lv_at hl 3 rfl) ?_
    refine lv_bipush (v := 8) hx hb dX5_post_46 (by decide) ?_
    refine lv_imul hx hb dX5_post_48 ?_
    refine lv_iload_n hx hb dX5_post_49 rfl (lv_at hl 2 rfl) ?_
    refine lv_iadd hx hb dX5_post_50 ?_
    refine lv_iload hx hb dX5_post_51 (lv_at hl 0 rfl) ?_
    obtain ⟨g6, hg6, hf⟩ := ob hf
    refine x_iast hx hb hK hP hD hS 5 0 rfl rfl hg6 dX5_post_53 (fun H locs hP hD hS => ?_)
    have hP : va_P D vwCl [(a_this, .inr (5, [.int z_day, .int z_crossed, .ref a_came, .ref a_under, .ref a_due])), (a_p1, .inr (0, [.int z_p1_planks, .int z_p1_size, .int z_p1_sworn, .ref a_p1_bank, .ref a_p1_kind, .ref a_p1_word, .ref a_p1_slow, .ref a_p1_told])), (a_p1_slow, .inl (cI, 8, .inl z_p1_slow)), (a_under, .inl (cI, 8, .inl g5)), (a_p1_bank, .inl (cI, 8, .inl z_p1_bank)), (a_due, .inl (cI, 64, .inl g6))] H := hP
    have hD : va_D A [(a_this, .inr (5, [.int z_day, .int z_crossed, .ref a_came, .ref a_under, .ref a_due])), (a_p1, .inr (0, [.int z_p1_planks, .int z_p1_size, .int z_p1_sworn, .ref a_p1_bank, .ref a_p1_kind, .ref a_p1_word, .ref a_p1_slow, .ref a_p1_told])), (a_p1_slow, .inl (cI, 8, .inl z_p1_slow)), (a_under, .inl (cI, 8, .inl g5)), (a_p1_bank, .inl (cI, 8, .inl z_p1_bank)), (a_due, .inl (cI, 64, .inl g6))] := hD
    refine lv_iload hx hb dX5_post_54 (lv_at hl 0 rfl) ?_
    cases hf
    exact W.iret hx hb hr (fun t ht _ => ⟨rfl, by rw [ht]; exact hP, hS.F ht⟩) hS.2.2 dX5_post_56
  unfold fX5_post at hf
  obtain ⟨H, hH⟩ : ∃ H, H = s.heap := ⟨_, rfl⟩
  obtain ⟨locs, hlo⟩ : ∃ q : List Loc, q = [] := ⟨_, rfl⟩
  have hS : va_S A s.heap H locs := by rw [hH, hlo]; exact hS
  rw [← hH] at hP
  suffices hgo : W p l e ({ frames := 2, cells := 0, slots := 0, locals := 45 } : Room) s m ([.ref a_this, .ref a_p1, .int p2, .int p3] : List Value).toArray below meth c H locs 0 0 (MQ below (rwQ D (some (.int r)) [(a_this, .inr (5, [.int z_day, .int z_crossed, .ref a_came, .ref a_under, .ref a_due])), (a_p1, .inr (0, [.int z_p1_planks, .int z_p1_size, .int z_p1_sworn, .ref a_p1_bank, .ref a_p1_kind, .ref a_p1_word, .ref a_p1_slow, .ref a_p1_told])), (a_p1_slow, .inl (cI, 8, .inl z_p1_slow)), (a_under, .inl (cI, 8, .inl o_z_under)), (a_p1_bank, .inl (cI, 8, .inl z_p1_bank)), (a_due, .inl (cI, 64, .inl o_z_due))] A) ([.ref a_this, .ref a_p1, .int p2, .int p3] : List Value).toArray s 0 0 A) (F0 m 0 ls []) by rw [hH, hlo] at hgo; exact hgo
  clear hH hlo
  refine lv_aload_n hx hb dX5_post_0 rfl (lv_at hl 0 rfl) ?_
  refine va_get (D := D) (ci := 5) (v := .int z_day) (C := RX5) (T := TX5) (N := 5) hx hb hts inTX5 hown hK hP 0 rfl rfl 0 (by decide) (hts _ q168) (fun _ h9 => h9) rfl dX5_post_1 ?_
  refine lv_aload_n hx hb dX5_post_4 rfl (lv_at hl 1 rfl) ?_
  refine va_get (D := D) (ci := 0) (v := .ref a_p1_slow) (C := RX0) (T := TX0) (N := 8) hx hb hts inTX0 hown hK hP 1 rfl rfl 6 (by decide) (hts _ q97) (fun _ h9 => h9) rfl dX5_post_5 ?_
  refine lv_iload_n hx hb dX5_post_8 rfl (lv_at hl 2 rfl) ?_
  obtain ⟨v1, hv1, hf⟩ := ob hf
  refine x_iald hx hb hK hP 2 0 rfl rfl hv1 dX5_post_9 ?_
  refine lv_iadd hx hb dX5_post_10 ?_
  refine lv_aload_n hx hb dX5_post_11 rfl (lv_at hl 0 rfl) ?_
  refine lv_aload_n hx hb dX5_post_12 rfl (lv_at hl 1 rfl) ?_
  refine lv_iload_n hx hb dX5_post_13 rfl (lv_at hl 2 rfl) ?_
  refine lv_iload_n hx hb dX5_post_14 rfl (lv_at hl 3 rfl) ?_
  obtain ⟨v2, hv2, hf⟩ := ob hf
  refine kX5_meetsAnother hx hb hml hown hts hKW q606 (hP.sub [0, 1, 3, 4] rfl) hv2 hl.1 (Nat.le_of_ble_eq_true rfl) ⟨Nat.le_of_ble_eq_true rfl, Nat.le_of_ble_eq_true rfl⟩ ⟨Nat.zero_le _, Nat.zero_le _⟩ dX5_post_15 ?_
  refine lv_if_eq (tgt := 25) hx hb dX5_post_18 (by decide) (fun c3 => ?_) (fun c3 => ?_)
  · replace hf := it hf c3
    refine lv_iconst (v := 0) hx hb dX5_post_25 (by decide) ?_
    exact hB26 p2 p3 0 (z_day + v1) z_under z_due H locs ls hP hD hS (lv_sub hl [0, 2, 3] rfl) hf
  · replace hf := ie hf c3
    refine lv_iconst (v := 1) hx hb dX5_post_21 (by decide) ?_
    refine lv_goto (tgt := 26) hx hb dX5_post_22 (by decide) ?_
    exact hB26 p2 p3 1 (z_day + v1) z_under z_due H locs ls hP hD hS (lv_sub hl [0, 2, 3] rfl) hf
theorem kX5_post {p : Program} {l : Launch} {e : Env} {R : Room} {s : State} {m : MethodId} {args : Array Value} {below : List Frame} {meth : Method} {c : Code} {H : Heap} {locs : List Loc} {cells slots : Nat} {Q : State → Prop} {cc : ByteArray} {nL pc index : Nat} {ls : Array Slot} {rest : List Value} {own : String} {D : va_G} {cI cZ cQ : ClassId} {a_this a_came a_under a_due a_p1 a_p1_bank a_p1_kind a_p1_word a_p1_slow a_p1_told : Nat} {z_day z_crossed z_p1_planks z_p1_size z_p1_sworn p2 p3 : Int32} {z_p1_slow z_under z_p1_bank z_due : Nat → Int32} {fu : Nat} {r : Int32} {o_z_under o_z_due : Nat → Int32} (hx : p.tables.exec = Jvm.exec) (hb : c.code = cc) (hml : c.maxLocals = nL) (hown : s.vm.findClass own = some m.cls) (hts : ∀ w ∈ TB, w.before args s = true) (hKW : KW D (TY cI cZ cQ) s) (hlk : Cond.methodLink own index yX5_post ∈ TB) {ws : va_W} {A : Nat → Prop} {H0 : Heap} (hP : va_P D vwCl ws H) (hD : va_D A ws) (hS : va_S A H0 H locs) (is : List Nat) (hC : is.map (fun i => ws[i]?) = ([(a_this, .inr (5, [.int z_day, .int z_crossed, .ref a_came, .ref a_under, .ref a_due])), (a_p1, .inr (0, [.int z_p1_planks, .int z_p1_size, .int z_p1_sworn, .ref a_p1_bank, .ref a_p1_kind, .ref a_p1_word, .ref a_p1_slow, .ref a_p1_told])), (a_p1_slow, .inl (cI, 8, .inl z_p1_slow)), (a_under, .inl (cI, 8, .inl z_under)), (a_p1_bank, .inl (cI, 8, .inl z_p1_bank)), (a_due, .inl (cI, 64, .inl z_due))] : va_W).map some) (hnd : va_nd is = true) (hf : fX5_post fu z_day z_p1_slow z_p1_size z_p1_bank z_under z_due p2 p3 = some (r, o_z_under, o_z_due)) (hn : ls.size = nL) (hW : (rest.map fun v => v.category).sum ≤ 8) (hR : 2 + 1 ≤ R.frames ∧ 8 + (5 + 11) + 45 ≤ R.locals) (hcs : cells ≤ R.cells ∧ slots ≤ R.slots) (hdg : decode cc pc = .ok (.invokevirtual index, 3)) (kk : ∀ (H1 : Heap) (locs1 : List Loc), va_P D vwCl (rpl ws is [(a_this, .inr (5, [.int z_day, .int z_crossed, .ref a_came, .ref a_under, .ref a_due])), (a_p1, .inr (0, [.int z_p1_planks, .int z_p1_size, .int z_p1_sworn, .ref a_p1_bank, .ref a_p1_kind, .ref a_p1_word, .ref a_p1_slow, .ref a_p1_told])), (a_p1_slow, .inl (cI, 8, .inl z_p1_slow)), (a_under, .inl (cI, 8, .inl o_z_under)), (a_p1_bank, .inl (cI, 8, .inl z_p1_bank)), (a_due, .inl (cI, 64, .inl o_z_due))]) H1 → va_D A (rpl ws is [(a_this, .inr (5, [.int z_day, .int z_crossed, .ref a_came, .ref a_under, .ref a_due])), (a_p1, .inr (0, [.int z_p1_planks, .int z_p1_size, .int z_p1_sworn, .ref a_p1_bank, .ref a_p1_kind, .ref a_p1_word, .ref a_p1_slow, .ref a_p1_told])), (a_p1_slow, .inl (cI, 8, .inl z_p1_slow)), (a_under, .inl (cI, 8, .inl o_z_under)), (a_p1_bank, .inl (cI, 8, .inl z_p1_bank)), (a_due, .inl (cI, 64, .inl o_z_due))]) → va_S A H0 H1 locs1 → W p l e R s m args below meth c H1 locs1 cells slots Q (F0 m (pc + 3) ls (.int r :: rest))) : W p l e R s m args below meth c H locs cells slots Q (F0 m pc ls (.int p3 :: .int p2 :: .ref a_p1 :: .ref a_this :: rest)) :=
  x_rw (va_runV (As := [.ref a_p1, .int p2, .int p3]) (rest := rest) ⟨hx, hb, hml, hown, hts⟩ (tX5_post hf) (cwV 3 hts (tb_V hlk q603 q604 q43 q605) rfl rfl rfl (by decide +kernel) hR) ⟨rwB, va_recv hKW.1 (subP hP hC) (ci := 5) (q0 := 0) rfl rfl, fun U hU hW => ⟨rfl, by rw [hU]; exact subP hP hC, hKW.warm hW, subD hD hC hnd⟩⟩ rfl rfl hn rfl (lv_room hW) hdg hcs) hP hD hS is hC rfl kk

-- HalfPlanks$Promises.drop(II)V
set_option maxHeartbeats 4000000 in
set_option maxRecDepth 100000 in
theorem tX5_drop {l : Launch} {D : va_G} {cI cZ cQ : ClassId} {a_this a_came a_under a_due : Nat} {z_day z_crossed p1 p2 : Int32} {z_came z_under : Nat → Int32} {fu : Nat} {o_z_came o_z_under : Nat → Int32} (hf : fX5_drop fu z_came z_under p1 p2 = some (o_z_came, o_z_under)) : Met l yX5_drop (.code yX5_drop cX5_drop 3 none :: TB) ({ frames := 0, cells := 0, slots := 0, locals := 0 } : Room) (rwP D (TY cI cZ cQ) [(a_this, .inr (5, [.int z_day, .int z_crossed, .ref a_came, .ref a_under, .ref a_due])), (a_came, .inl (cI, 8, .inl z_came)), (a_under, .inl (cI, 8, .inl z_under))] [.ref a_this, .int p1, .int p2]) (rwQ D none [(a_this, .inr (5, [.int z_day, .int z_crossed, .ref a_came, .ref a_under, .ref a_due])), (a_came, .inl (cI, 8, .inl o_z_came)), (a_under, .inl (cI, 8, .inl o_z_under))] (inW [(a_this, .inr (5, [.int z_day, .int z_crossed, .ref a_came, .ref a_under, .ref a_due])), (a_came, .inl (cI, 8, .inl z_came)), (a_under, .inl (cI, 8, .inl z_under))])) 0 0 (inW [(a_this, .inr (5, [.int z_day, .int z_crossed, .ref a_came, .ref a_under, .ref a_due])), (a_came, .inl (cI, 8, .inl z_came)), (a_under, .inl (cI, 8, .inl z_under))]) := by
  refine Met.ofW (cc := cX5_drop) (maxL := 3) (ret := none) (by decide) rfl ?_
  intro p e s m args below meth c s₁ B hml hv
  obtain ⟨rfl, hP, hKW, hD0⟩ := hv
  have hx := B.exec
  have hb := B.bytes
  have hr := B.returns
  have hts : ∀ w ∈ TB, w.before ([.ref a_this, .int p1, .int p2] : List Value).toArray s = true := fun w h => atoms_spec (ws := .code yX5_drop cX5_drop 3 none :: TB) B.pre w (List.mem_cons_of_mem _ h)
  have hown : s.vm.findClass RX5 = some m.cls := findClass_of_methodNamed B.named
  have hlocks := B.notSynchronized
  have hK := hKW.1
  have hD := inW_D hD0
  generalize hAe : inW [(a_this, .inr (5, [.int z_day, .int z_crossed, .ref a_came, .ref a_under, .ref a_due])), (a_came, .inl (cI, 8, .inl z_came)), (a_under, .inl (cI, 8, .inl z_under))] = A at hD ⊢
  have hS : va_S A s.heap s.heap [] := va_S.rf
  have hl := lv_entry [.ref a_this, .int p1, .int p2] (n := 3) (Nat.le_of_ble_eq_true rfl)
  rw [lg_entry_eq]
  generalize (lg_sl [.ref a_this, .int p1, .int p2] ++ List.replicate (3 - (lg_sl [.ref a_this, .int p1, .int p2]).length) Slot.unset).toArray = ls at hl ⊢
  have hl : lv_has ls 3 [(0, .ref a_this), (1, .int p1), (2, .int p2)] := hl
  show W p l e ({ frames := 0, cells := 0, slots := 0, locals := 0 } : Room) s m ([.ref a_this, .int p1, .int p2] : List Value).toArray below meth c s.heap [] 0 0 (MQ below (rwQ D none [(a_this, .inr (5, [.int z_day, .int z_crossed, .ref a_came, .ref a_under, .ref a_due])), (a_came, .inl (cI, 8, .inl o_z_came)), (a_under, .inl (cI, 8, .inl o_z_under))] A) ([.ref a_this, .int p1, .int p2] : List Value).toArray s 0 0 A) (F0 m 0 ls [])
  have hP : va_P D vwCl [(a_this, .inr (5, [.int z_day, .int z_crossed, .ref a_came, .ref a_under, .ref a_due])), (a_came, .inl (cI, 8, .inl z_came)), (a_under, .inl (cI, 8, .inl z_under))] s.heap := hP
  have hD : va_D A [(a_this, .inr (5, [.int z_day, .int z_crossed, .ref a_came, .ref a_under, .ref a_due])), (a_came, .inl (cI, 8, .inl z_came)), (a_under, .inl (cI, 8, .inl z_under))] := hD
  unfold fX5_drop at hf
  obtain ⟨H, hH⟩ : ∃ H, H = s.heap := ⟨_, rfl⟩
  obtain ⟨locs, hlo⟩ : ∃ q : List Loc, q = [] := ⟨_, rfl⟩
  have hS : va_S A s.heap H locs := by rw [hH, hlo]; exact hS
  rw [← hH] at hP
  suffices hgo : W p l e ({ frames := 0, cells := 0, slots := 0, locals := 0 } : Room) s m ([.ref a_this, .int p1, .int p2] : List Value).toArray below meth c H locs 0 0 (MQ below (rwQ D none [(a_this, .inr (5, [.int z_day, .int z_crossed, .ref a_came, .ref a_under, .ref a_due])), (a_came, .inl (cI, 8, .inl o_z_came)), (a_under, .inl (cI, 8, .inl o_z_under))] A) ([.ref a_this, .int p1, .int p2] : List Value).toArray s 0 0 A) (F0 m 0 ls []) by rw [hH, hlo] at hgo; exact hgo
  clear hH hlo
  refine lv_aload_n hx hb dX5_drop_0 rfl (lv_at hl 0 rfl) ?_
  refine va_get (D := D) (ci := 5) (v := .ref a_came) (C := RX5) (T := TX5) (N := 5) hx hb hts inTX5 hown hK hP 0 rfl rfl 2 (by decide) (hts _ q173) (fun _ h9 => h9) rfl dX5_drop_1 ?_
  refine lv_iload_n hx hb dX5_drop_4 rfl (lv_at hl 2 rfl) ?_
  refine lv_dup2_11 hx hb dX5_drop_5 rfl rfl ?_
  obtain ⟨v1, hv1, hf⟩ := ob hf
  refine x_iald hx hb hK hP 1 0 rfl rfl hv1 dX5_drop_6 ?_
  refine lv_iconst (v := 1) hx hb dX5_drop_7 (by decide) ?_
  refine lv_iload_n hx hb dX5_drop_8 rfl (lv_at hl 1 rfl) ?_
  refine lv_ishl hx hb dX5_drop_9 ?_
  refine lv_iconst (v := -1) hx hb dX5_drop_10 (by decide) ?_
  refine lv_ixor hx hb dX5_drop_11 ?_
  refine lv_iand hx hb dX5_drop_12 ?_
  obtain ⟨g2, hg2, hf⟩ := ob hf
  refine x_iast hx hb hK hP hD hS 1 0 rfl rfl hg2 dX5_drop_13 (fun H locs hP hD hS => ?_)
  have hP : va_P D vwCl [(a_this, .inr (5, [.int z_day, .int z_crossed, .ref a_came, .ref a_under, .ref a_due])), (a_came, .inl (cI, 8, .inl g2)), (a_under, .inl (cI, 8, .inl z_under))] H := hP
  have hD : va_D A [(a_this, .inr (5, [.int z_day, .int z_crossed, .ref a_came, .ref a_under, .ref a_due])), (a_came, .inl (cI, 8, .inl g2)), (a_under, .inl (cI, 8, .inl z_under))] := hD
  refine lv_aload_n hx hb dX5_drop_14 rfl (lv_at hl 0 rfl) ?_
  refine va_get (D := D) (ci := 5) (v := .ref a_under) (C := RX5) (T := TX5) (N := 5) hx hb hts inTX5 hown hK hP 0 rfl rfl 3 (by decide) (hts _ q179) (fun _ h9 => h9) rfl dX5_drop_15 ?_
  refine lv_iload_n hx hb dX5_drop_18 rfl (lv_at hl 2 rfl) ?_
  refine lv_dup2_11 hx hb dX5_drop_19 rfl rfl ?_
  obtain ⟨v3, hv3, hf⟩ := ob hf
  refine x_iald hx hb hK hP 2 0 rfl rfl hv3 dX5_drop_20 ?_
  refine lv_iconst (v := 1) hx hb dX5_drop_21 (by decide) ?_
  refine lv_iload_n hx hb dX5_drop_22 rfl (lv_at hl 1 rfl) ?_
  refine lv_ishl hx hb dX5_drop_23 ?_
  refine lv_iconst (v := -1) hx hb dX5_drop_24 (by decide) ?_
  refine lv_ixor hx hb dX5_drop_25 ?_
  refine lv_iand hx hb dX5_drop_26 ?_
  obtain ⟨g4, hg4, hf⟩ := ob hf
  refine x_iast hx hb hK hP hD hS 2 0 rfl rfl hg4 dX5_drop_27 (fun H locs hP hD hS => ?_)
  have hP : va_P D vwCl [(a_this, .inr (5, [.int z_day, .int z_crossed, .ref a_came, .ref a_under, .ref a_due])), (a_came, .inl (cI, 8, .inl g2)), (a_under, .inl (cI, 8, .inl g4))] H := hP
  have hD : va_D A [(a_this, .inr (5, [.int z_day, .int z_crossed, .ref a_came, .ref a_under, .ref a_due])), (a_came, .inl (cI, 8, .inl g2)), (a_under, .inl (cI, 8, .inl g4))] := hD
  cases hf
  exact W.vret hx hb hr (fun t ht _ => ⟨rfl, by rw [ht]; exact hP, hS.F ht⟩) hS.2.2 dX5_drop_28
theorem kX5_drop {p : Program} {l : Launch} {e : Env} {R : Room} {s : State} {m : MethodId} {args : Array Value} {below : List Frame} {meth : Method} {c : Code} {H : Heap} {locs : List Loc} {cells slots : Nat} {Q : State → Prop} {cc : ByteArray} {nL pc index : Nat} {ls : Array Slot} {rest : List Value} {own : String} {D : va_G} {cI cZ cQ : ClassId} {a_this a_came a_under a_due : Nat} {z_day z_crossed p1 p2 : Int32} {z_came z_under : Nat → Int32} {fu : Nat} {o_z_came o_z_under : Nat → Int32} (hx : p.tables.exec = Jvm.exec) (hb : c.code = cc) (hml : c.maxLocals = nL) (hown : s.vm.findClass own = some m.cls) (hts : ∀ w ∈ TB, w.before args s = true) (hKW : KW D (TY cI cZ cQ) s) (hlk : Cond.methodLink own index yX5_drop ∈ TB) {ws : va_W} {A : Nat → Prop} {H0 : Heap} (hP : va_P D vwCl ws H) (hD : va_D A ws) (hS : va_S A H0 H locs) (is : List Nat) (hC : is.map (fun i => ws[i]?) = ([(a_this, .inr (5, [.int z_day, .int z_crossed, .ref a_came, .ref a_under, .ref a_due])), (a_came, .inl (cI, 8, .inl z_came)), (a_under, .inl (cI, 8, .inl z_under))] : va_W).map some) (hnd : va_nd is = true) (hf : fX5_drop fu z_came z_under p1 p2 = some (o_z_came, o_z_under)) (hn : ls.size = nL) (hW : (rest.map fun v => v.category).sum ≤ 8) (hR : 0 + 1 ≤ R.frames ∧ 8 + (3 + 11) + 0 ≤ R.locals) (hcs : cells ≤ R.cells ∧ slots ≤ R.slots) (hdg : decode cc pc = .ok (.invokevirtual index, 3)) (kk : ∀ (H1 : Heap) (locs1 : List Loc), va_P D vwCl (rpl ws is [(a_this, .inr (5, [.int z_day, .int z_crossed, .ref a_came, .ref a_under, .ref a_due])), (a_came, .inl (cI, 8, .inl o_z_came)), (a_under, .inl (cI, 8, .inl o_z_under))]) H1 → va_D A (rpl ws is [(a_this, .inr (5, [.int z_day, .int z_crossed, .ref a_came, .ref a_under, .ref a_due])), (a_came, .inl (cI, 8, .inl o_z_came)), (a_under, .inl (cI, 8, .inl o_z_under))]) → va_S A H0 H1 locs1 → W p l e R s m args below meth c H1 locs1 cells slots Q (F0 m (pc + 3) ls (rest))) : W p l e R s m args below meth c H locs cells slots Q (F0 m pc ls (.int p2 :: .int p1 :: .ref a_this :: rest)) :=
  x_rw (va_runV (As := [.int p1, .int p2]) (rest := rest) ⟨hx, hb, hml, hown, hts⟩ (tX5_drop hf) (cwV 2 hts (tb_V hlk q615 q616 q43 q617) rfl rfl rfl (by decide +kernel) hR) ⟨rwB, va_recv hKW.1 (subP hP hC) (ci := 5) (q0 := 0) rfl rfl, fun U hU hW => ⟨rfl, by rw [hU]; exact subP hP hC, hKW.warm hW, subD hD hC hnd⟩⟩ rfl rfl hn rfl (lv_room hW) hdg hcs) hP hD hS is hC rfl kk

-- HalfPlanks$Promises.cameBy(II)I
set_option maxHeartbeats 4000000 in
set_option maxRecDepth 100000 in
theorem tX5_cameBy {l : Launch} {D : va_G} {cI cZ cQ : ClassId} {a_this a_came a_under a_due : Nat} {z_day z_crossed p1 p2 : Int32} {z_came z_under z_due : Nat → Int32} {fu : Nat} {r : Int32} (hf : fX5_cameBy fu z_came z_under z_due p1 p2 = some (r)) : Met l yX5_cameBy (.code yX5_cameBy cX5_cameBy 5 (some .int) :: TB) ({ frames := 1, cells := 0, slots := 0, locals := 21 } : Room) (roP D (TY cI cZ cQ) [(a_this, .inr (5, [.int z_day, .int z_crossed, .ref a_came, .ref a_under, .ref a_due])), (a_came, .inl (cI, 8, .inl z_came)), (a_under, .inl (cI, 8, .inl z_under)), (a_due, .inl (cI, 64, .inl z_due))] [.ref a_this, .int p1, .int p2]) (roQ (some (.int r))) 0 0 (fun _ => False) := by
  refine Met.ofW (cc := cX5_cameBy) (maxL := 5) (ret := (some .int)) (by decide) rfl ?_
  intro p e s m args below meth c s₁ B hml hv
  obtain ⟨rfl, hP, hKW⟩ := hv
  have hx := B.exec
  have hb := B.bytes
  have hr := B.returns
  have hts : ∀ w ∈ TB, w.before ([.ref a_this, .int p1, .int p2] : List Value).toArray s = true := fun w h => atoms_spec (ws := .code yX5_cameBy cX5_cameBy 5 (some .int) :: TB) B.pre w (List.mem_cons_of_mem _ h)
  have hown : s.vm.findClass RX5 = some m.cls := findClass_of_methodNamed B.named
  have hlocks := B.notSynchronized
  have hK := hKW.1
  have hl := lv_entry [.ref a_this, .int p1, .int p2] (n := 5) (Nat.le_of_ble_eq_true rfl)
  rw [lg_entry_eq]
  generalize (lg_sl [.ref a_this, .int p1, .int p2] ++ List.replicate (5 - (lg_sl [.ref a_this, .int p1, .int p2]).length) Slot.unset).toArray = ls at hl ⊢
  have hl : lv_has ls 5 [(0, .ref a_this), (1, .int p1), (2, .int p2)] := hl
  show W p l e ({ frames := 1, cells := 0, slots := 0, locals := 21 } : Room) s m ([.ref a_this, .int p1, .int p2] : List Value).toArray below meth c s.heap [] 0 0 (MQ below (roQ (some (.int r))) ([.ref a_this, .int p1, .int p2] : List Value).toArray s 0 0 (fun _ => False)) (F0 m 0 ls [])
  have hB21 : ∀ (n21 : Nat) (l1 : Int32) (l2 : Int32) (l3 : Int32) (l4 : Int32) (ls : Array Slot), lv_has ls 5 [(0, .ref a_this), (1, .int l1), (2, .int l2), (3, .int l3), (4, .int l4)] → fX5_cameBy_b21 fu z_came z_under z_due n21 l1 l2 l3 l4 = some (r) → W p l e ({ frames := 1, cells := 0, slots := 0, locals := 21 } : Room) s m ([.ref a_this, .int p1, .int p2] : List Value).toArray below meth c s.heap [] 0 0 (MQ below (roQ (some (.int r))) ([.ref a_this, .int p1, .int p2] : List Value).toArray s 0 0 (fun _ => False)) (F0 m 21 ls []) := by
    intro n21
    induction n21 with
    | zero => intro l1 l2 l3 l4 ls hl hf; exact nn hf
    | succ n21 ih21 =>
      intro l1 l2 l3 l4 ls hl hf
      replace hf : fX5_cameBy_b21_body fu z_came z_under z_due (fX5_cameBy_b21 fu z_came z_under z_due n21) l1 l2 l3 l4 = some (r) := hf
      unfold fX5_cameBy_b21_body at hf
      refine lv_iload hx hb dX5_cameBy_21 (lv_at hl 4 rfl) ?_
      refine lv_bipush (v := 8) hx hb dX5_cameBy_23 (by decide) ?_
      refine lv_icmp_ge (tgt := 71) hx hb dX5_cameBy_25 (by decide) (fun c4 => ?_) (fun c4 => ?_)
      · replace hf := it hf c4
        refine lv_iload_n hx hb dX5_cameBy_71 rfl (lv_at hl 3 rfl) ?_
        cases hf
        exact W.iret hx hb hr (fun t ht _ => ⟨rfl, ht⟩) (fun q h => by cases h) dX5_cameBy_72
      · replace hf := ie hf c4
        refine lv_aload_n hx hb dX5_cameBy_28 rfl (lv_at hl 0 rfl) ?_
        refine va_get (D := D) (ci := 5) (v := .ref a_under) (C := RX5) (T := TX5) (N := 5) hx hb hts inTX5 hown hK hP 0 rfl rfl 3 (by decide) (hts _ q179) (fun _ h9 => h9) rfl dX5_cameBy_29 ?_
        refine lv_iload_n hx hb dX5_cameBy_32 rfl (lv_at hl 1 rfl) ?_
        obtain ⟨v5, hv5, hf⟩ := ob hf
        refine x_iald hx hb hK hP 2 0 rfl rfl hv5 dX5_cameBy_33 ?_
        refine lv_iload hx hb dX5_cameBy_34 (lv_at hl 4 rfl) ?_
        obtain ⟨v6, hv6, hf⟩ := ob hf
        refine knX8_has hx hb hml hown hts hKW (hKW.2 ("HalfPlanks$Promises", 39, yX8_has, "HalfPlanks") (by decide +kernel))  hv6 hl.1 (Nat.le_of_ble_eq_true rfl) ⟨Nat.le_of_ble_eq_true rfl, Nat.le_of_ble_eq_true rfl⟩ ⟨Nat.zero_le _, Nat.zero_le _⟩ dX5_cameBy_36 ?_
        refine lv_if_eq (tgt := 65) hx hb dX5_cameBy_39 (by decide) (fun c7 => ?_) (fun c7 => ?_)
        · replace hf := it hf c7
          refine lv_iinc (v := (l4 + 1)) (lv' := [(4, .int (l4 + 1)), (0, .ref a_this), (1, .int l1), (2, .int l2), (3, .int l3)]) hx hb dX5_cameBy_65 hl (k := 4) rfl rfl (by decide) rfl (fun ls hl => ?_)
          refine lv_goto (tgt := 21) hx hb dX5_cameBy_68 (by decide) ?_
          exact ih21 l1 l2 l3 (l4 + 1) ls (lv_sub hl [1, 2, 3, 4, 0] rfl) hf
        · replace hf := ie hf c7
          refine lv_aload_n hx hb dX5_cameBy_42 rfl (lv_at hl 0 rfl) ?_
          refine va_get (D := D) (ci := 5) (v := .ref a_due) (C := RX5) (T := TX5) (N := 5) hx hb hts inTX5 hown hK hP 0 rfl rfl 4 (by decide) (hts _ q182) (fun _ h9 => h9) rfl dX5_cameBy_43 ?_
          refine lv_iload_n hx hb dX5_cameBy_46 rfl (lv_at hl 1 rfl) ?_
          refine lv_bipush (v := 8) hx hb dX5_cameBy_47 (by decide) ?_
          refine lv_imul hx hb dX5_cameBy_49 ?_
          refine lv_iload hx hb dX5_cameBy_50 (lv_at hl 4 rfl) ?_
          refine lv_iadd hx hb dX5_cameBy_52 ?_
          obtain ⟨v8, hv8, hf⟩ := ob hf
          refine x_iald hx hb hK hP 3 0 rfl rfl hv8 dX5_cameBy_53 ?_
          refine lv_iload_n hx hb dX5_cameBy_54 rfl (lv_at hl 2 rfl) ?_
          refine lv_icmp_gt (tgt := 65) hx hb dX5_cameBy_55 (by decide) (fun c9 => ?_) (fun c9 => ?_)
          · replace hf := it hf c9
            refine lv_iinc (v := (l4 + 1)) (lv' := [(4, .int (l4 + 1)), (0, .ref a_this), (1, .int l1), (2, .int l2), (3, .int l3)]) hx hb dX5_cameBy_65 hl (k := 4) rfl rfl (by decide) rfl (fun ls hl => ?_)
            refine lv_goto (tgt := 21) hx hb dX5_cameBy_68 (by decide) ?_
            exact ih21 l1 l2 l3 (l4 + 1) ls (lv_sub hl [1, 2, 3, 4, 0] rfl) hf
          · replace hf := ie hf c9
            refine lv_iload_n hx hb dX5_cameBy_58 rfl (lv_at hl 3 rfl) ?_
            refine lv_iconst (v := 1) hx hb dX5_cameBy_59 (by decide) ?_
            refine lv_iload hx hb dX5_cameBy_60 (lv_at hl 4 rfl) ?_
            refine lv_ishl hx hb dX5_cameBy_62 ?_
            refine lv_ior hx hb dX5_cameBy_63 ?_
            refine lv_istore_n (lv' := [(3, .int (l3 ||| ((1 : Int32) <<< (l4 &&& 31)))), (0, .ref a_this), (1, .int l1), (2, .int l2), (4, .int l4)]) hx hb dX5_cameBy_64 rfl hl (by decide) rfl (fun ls hl => ?_)
            refine lv_iinc (v := (l4 + 1)) (lv' := [(4, .int (l4 + 1)), (3, .int (l3 ||| ((1 : Int32) <<< (l4 &&& 31)))), (0, .ref a_this), (1, .int l1), (2, .int l2)]) hx hb dX5_cameBy_65 hl (k := 4) rfl rfl (by decide) rfl (fun ls hl => ?_)
            refine lv_goto (tgt := 21) hx hb dX5_cameBy_68 (by decide) ?_
            exact ih21 l1 l2 (l3 ||| ((1 : Int32) <<< (l4 &&& 31))) (l4 + 1) ls (lv_sub hl [2, 3, 4, 1, 0] rfl) hf
  unfold fX5_cameBy at hf
  refine lv_aload_n hx hb dX5_cameBy_0 rfl (lv_at hl 0 rfl) ?_
  refine va_get (D := D) (ci := 5) (v := .ref a_came) (C := RX5) (T := TX5) (N := 5) hx hb hts inTX5 hown hK hP 0 rfl rfl 2 (by decide) (hts _ q173) (fun _ h9 => h9) rfl dX5_cameBy_1 ?_
  refine lv_iload_n hx hb dX5_cameBy_4 rfl (lv_at hl 1 rfl) ?_
  obtain ⟨v1, hv1, hf⟩ := ob hf
  refine x_iald hx hb hK hP 1 0 rfl rfl hv1 dX5_cameBy_5 ?_
  refine lv_istore_n (lv' := [(3, .int v1), (0, .ref a_this), (1, .int p1), (2, .int p2)]) hx hb dX5_cameBy_6 rfl hl (by decide) rfl (fun ls hl => ?_)
  refine lv_aload_n hx hb dX5_cameBy_7 rfl (lv_at hl 1 rfl) ?_
  refine va_get (D := D) (ci := 5) (v := .ref a_under) (C := RX5) (T := TX5) (N := 5) hx hb hts inTX5 hown hK hP 0 rfl rfl 3 (by decide) (hts _ q179) (fun _ h9 => h9) rfl dX5_cameBy_8 ?_
  refine lv_iload_n hx hb dX5_cameBy_11 rfl (lv_at hl 2 rfl) ?_
  obtain ⟨v2, hv2, hf⟩ := ob hf
  refine x_iald hx hb hK hP 2 0 rfl rfl hv2 dX5_cameBy_12 ?_
  refine lv_if_ne (tgt := 18) hx hb dX5_cameBy_13 (by decide) (fun c3 => ?_) (fun c3 => ?_)
  · replace hf := ie hf c3
    refine lv_iconst (v := 0) hx hb dX5_cameBy_18 (by decide) ?_
    refine lv_istore (lv' := [(4, .int 0), (3, .int v1), (0, .ref a_this), (1, .int p1), (2, .int p2)]) hx hb dX5_cameBy_19 hl (by decide) rfl (fun ls hl => ?_)
    exact hB21 fu p1 p2 v1 0 ls (lv_sub hl [2, 3, 4, 1, 0] rfl) hf
  · replace hf := it hf c3
    refine lv_iload_n hx hb dX5_cameBy_16 rfl (lv_at hl 0 rfl) ?_
    cases hf
    exact W.iret hx hb hr (fun t ht _ => ⟨rfl, ht⟩) (fun q h => by cases h) dX5_cameBy_17
theorem kX5_cameBy {p : Program} {l : Launch} {e : Env} {R : Room} {s : State} {m : MethodId} {args : Array Value} {below : List Frame} {meth : Method} {c : Code} {H : Heap} {locs : List Loc} {cells slots : Nat} {Q : State → Prop} {cc : ByteArray} {nL pc index : Nat} {ls : Array Slot} {rest : List Value} {own : String} {D : va_G} {cI cZ cQ : ClassId} {a_this a_came a_under a_due : Nat} {z_day z_crossed p1 p2 : Int32} {z_came z_under z_due : Nat → Int32} {fu : Nat} {r : Int32} (hx : p.tables.exec = Jvm.exec) (hb : c.code = cc) (hml : c.maxLocals = nL) (hown : s.vm.findClass own = some m.cls) (hts : ∀ w ∈ TB, w.before args s = true) (hKW : KW D (TY cI cZ cQ) s) (hlk : Cond.methodLink own index yX5_cameBy ∈ TB) (hP : va_P D vwCl [(a_this, .inr (5, [.int z_day, .int z_crossed, .ref a_came, .ref a_under, .ref a_due])), (a_came, .inl (cI, 8, .inl z_came)), (a_under, .inl (cI, 8, .inl z_under)), (a_due, .inl (cI, 64, .inl z_due))] H) (hf : fX5_cameBy fu z_came z_under z_due p1 p2 = some (r)) (hn : ls.size = nL) (hW : (rest.map fun v => v.category).sum ≤ 8) (hR : 1 + 1 ≤ R.frames ∧ 8 + (5 + 11) + 21 ≤ R.locals) (hcs : cells ≤ R.cells ∧ slots ≤ R.slots) (hdg : decode cc pc = .ok (.invokevirtual index, 3)) (kk : W p l e R s m args below meth c H locs cells slots Q (F0 m (pc + 3) ls (.int r :: rest))) : W p l e R s m args below meth c H locs cells slots Q (F0 m pc ls (.int p2 :: .int p1 :: .ref a_this :: rest)) :=
  x_ret (va_runV (As := [.int p1, .int p2]) (rest := rest) ⟨hx, hb, hml, hown, hts⟩ (tX5_cameBy hf) (cwV 2 hts (tb_V hlk q627 q628 q43 q629) rfl rfl rfl (by decide +kernel) hR) ⟨roB, va_recv hKW.1 hP (ci := 5) (q0 := 0) rfl rfl, fun U hU hW => ⟨rfl, by rw [hU]; exact hP, hKW.warm hW⟩⟩ rfl rfl hn rfl (lv_room hW) hdg hcs) kk

-- HalfPlanks$Promises.pass()I
set_option maxHeartbeats 4000000 in
set_option maxRecDepth 100000 in
theorem tX5_pass {l : Launch} {D : va_G} {cI cZ cQ : ClassId} {a_this a_came a_under a_due : Nat} {z_day z_crossed : Int32} {z_came z_under z_due : Nat → Int32} {fu : Nat} {r : Int32} {o_z_day : Int32} {o_z_came o_z_under : Nat → Int32} (hf : fX5_pass fu z_due z_day z_came z_under = some (r, o_z_day, o_z_came, o_z_under)) : Met l yX5_pass (.code yX5_pass cX5_pass 4 (some .int) :: TB) ({ frames := 2, cells := 0, slots := 0, locals := 45 } : Room) (rwP D (TY cI cZ cQ) [(a_this, .inr (5, [.int z_day, .int z_crossed, .ref a_came, .ref a_under, .ref a_due])), (a_came, .inl (cI, 8, .inl z_came)), (a_under, .inl (cI, 8, .inl z_under)), (a_due, .inl (cI, 64, .inl z_due))] [.ref a_this]) (rwQ D (some (.int r)) [(a_this, .inr (5, [.int o_z_day, .int z_crossed, .ref a_came, .ref a_under, .ref a_due])), (a_came, .inl (cI, 8, .inl o_z_came)), (a_under, .inl (cI, 8, .inl o_z_under)), (a_due, .inl (cI, 64, .inl z_due))] (inW [(a_this, .inr (5, [.int z_day, .int z_crossed, .ref a_came, .ref a_under, .ref a_due])), (a_came, .inl (cI, 8, .inl z_came)), (a_under, .inl (cI, 8, .inl z_under)), (a_due, .inl (cI, 64, .inl z_due))])) 0 0 (inW [(a_this, .inr (5, [.int z_day, .int z_crossed, .ref a_came, .ref a_under, .ref a_due])), (a_came, .inl (cI, 8, .inl z_came)), (a_under, .inl (cI, 8, .inl z_under)), (a_due, .inl (cI, 64, .inl z_due))]) := by
  refine Met.ofW (cc := cX5_pass) (maxL := 4) (ret := (some .int)) (by decide) rfl ?_
  intro p e s m args below meth c s₁ B hml hv
  obtain ⟨rfl, hP, hKW, hD0⟩ := hv
  have hx := B.exec
  have hb := B.bytes
  have hr := B.returns
  have hts : ∀ w ∈ TB, w.before ([.ref a_this] : List Value).toArray s = true := fun w h => atoms_spec (ws := .code yX5_pass cX5_pass 4 (some .int) :: TB) B.pre w (List.mem_cons_of_mem _ h)
  have hown : s.vm.findClass RX5 = some m.cls := findClass_of_methodNamed B.named
  have hlocks := B.notSynchronized
  have hK := hKW.1
  have hD := inW_D hD0
  generalize hAe : inW [(a_this, .inr (5, [.int z_day, .int z_crossed, .ref a_came, .ref a_under, .ref a_due])), (a_came, .inl (cI, 8, .inl z_came)), (a_under, .inl (cI, 8, .inl z_under)), (a_due, .inl (cI, 64, .inl z_due))] = A at hD ⊢
  have hS : va_S A s.heap s.heap [] := va_S.rf
  have hl := lv_entry [.ref a_this] (n := 4) (Nat.le_of_ble_eq_true rfl)
  rw [lg_entry_eq]
  generalize (lg_sl [.ref a_this] ++ List.replicate (4 - (lg_sl [.ref a_this]).length) Slot.unset).toArray = ls at hl ⊢
  have hl : lv_has ls 4 [(0, .ref a_this)] := hl
  show W p l e ({ frames := 2, cells := 0, slots := 0, locals := 45 } : Room) s m ([.ref a_this] : List Value).toArray below meth c s.heap [] 0 0 (MQ below (rwQ D (some (.int r)) [(a_this, .inr (5, [.int o_z_day, .int z_crossed, .ref a_came, .ref a_under, .ref a_due])), (a_came, .inl (cI, 8, .inl o_z_came)), (a_under, .inl (cI, 8, .inl o_z_under)), (a_due, .inl (cI, 64, .inl z_due))] A) ([.ref a_this] : List Value).toArray s 0 0 A) (F0 m 0 ls [])
  have hP : va_P D vwCl [(a_this, .inr (5, [.int z_day, .int z_crossed, .ref a_came, .ref a_under, .ref a_due])), (a_came, .inl (cI, 8, .inl z_came)), (a_under, .inl (cI, 8, .inl z_under)), (a_due, .inl (cI, 64, .inl z_due))] s.heap := hP
  have hD : va_D A [(a_this, .inr (5, [.int z_day, .int z_crossed, .ref a_came, .ref a_under, .ref a_due])), (a_came, .inl (cI, 8, .inl z_came)), (a_under, .inl (cI, 8, .inl z_under)), (a_due, .inl (cI, 64, .inl z_due))] := hD
  have hB14 : ∀ (n14 : Nat) (l1 : Int32) (l2 : Int32) (z_day : Int32) (z_came : Nat → Int32) (z_under : Nat → Int32) (H : Heap) (locs : List Loc) (ls : Array Slot), va_P D vwCl [(a_this, .inr (5, [.int z_day, .int z_crossed, .ref a_came, .ref a_under, .ref a_due])), (a_came, .inl (cI, 8, .inl z_came)), (a_under, .inl (cI, 8, .inl z_under)), (a_due, .inl (cI, 64, .inl z_due))] H → va_D A [(a_this, .inr (5, [.int z_day, .int z_crossed, .ref a_came, .ref a_under, .ref a_due])), (a_came, .inl (cI, 8, .inl z_came)), (a_under, .inl (cI, 8, .inl z_under)), (a_due, .inl (cI, 64, .inl z_due))] → va_S A s.heap H locs → lv_has ls 4 [(0, .ref a_this), (1, .int l1), (2, .int l2)] → fX5_pass_b14 fu z_due n14 l1 l2 z_day z_came z_under = some (r, o_z_day, o_z_came, o_z_under) → W p l e ({ frames := 2, cells := 0, slots := 0, locals := 45 } : Room) s m ([.ref a_this] : List Value).toArray below meth c H locs 0 0 (MQ below (rwQ D (some (.int r)) [(a_this, .inr (5, [.int o_z_day, .int z_crossed, .ref a_came, .ref a_under, .ref a_due])), (a_came, .inl (cI, 8, .inl o_z_came)), (a_under, .inl (cI, 8, .inl o_z_under)), (a_due, .inl (cI, 64, .inl z_due))] A) ([.ref a_this] : List Value).toArray s 0 0 A) (F0 m 14 ls []) := by
    intro n14
    induction n14 with
    | zero => intro l1 l2 z_day z_came z_under H locs ls hP hD hS hl hf; exact nn hf
    | succ n14 ih14 =>
      intro l1 l2 z_day z_came z_under H locs ls hP hD hS hl hf
      replace hf : fX5_pass_b14_body fu z_due (fX5_pass_b14 fu z_due n14) l1 l2 z_day z_came z_under = some (r, o_z_day, o_z_came, o_z_under) := hf
      unfold fX5_pass_b14_body at hf
      refine lv_iload_n hx hb dX5_pass_14 rfl (lv_at hl 2 rfl) ?_
      refine lv_bipush (v := 8) hx hb dX5_pass_15 (by decide) ?_
      refine lv_icmp_ge (tgt := 71) hx hb dX5_pass_17 (by decide) (fun c1 => ?_) (fun c1 => ?_)
      · replace hf := it hf c1
        refine lv_iload_n hx hb dX5_pass_71 rfl (lv_at hl 1 rfl) ?_
        cases hf
        exact W.iret hx hb hr (fun t ht _ => ⟨rfl, by rw [ht]; exact hP, hS.F ht⟩) hS.2.2 dX5_pass_72
      · replace hf := ie hf c1
        refine lv_aload_n hx hb dX5_pass_20 rfl (lv_at hl 0 rfl) ?_
        refine lv_iload_n hx hb dX5_pass_21 rfl (lv_at hl 2 rfl) ?_
        refine lv_aload_n hx hb dX5_pass_22 rfl (lv_at hl 0 rfl) ?_
        refine va_get (D := D) (ci := 5) (v := .int z_day) (C := RX5) (T := TX5) (N := 5) hx hb hts inTX5 hown hK hP 0 rfl rfl 0 (by decide) (hts _ q168) (fun _ h9 => h9) rfl dX5_pass_23 ?_
        obtain ⟨v2, hv2, hf⟩ := ob hf
        refine kX5_cameBy hx hb hml hown hts hKW q626 (hP.sub [0, 1, 2, 3] rfl) hv2 hl.1 (Nat.le_of_ble_eq_true rfl) ⟨Nat.le_of_ble_eq_true rfl, Nat.le_of_ble_eq_true rfl⟩ ⟨Nat.zero_le _, Nat.zero_le _⟩ dX5_pass_26 ?_
        refine lv_istore_n (lv' := [(3, .int v2), (0, .ref a_this), (1, .int l1), (2, .int l2)]) hx hb dX5_pass_29 rfl hl (by decide) rfl (fun ls hl => ?_)
        refine lv_iload_n hx hb dX5_pass_30 rfl (lv_at hl 2 rfl) ?_
        refine lv_iload_n hx hb dX5_pass_31 rfl (lv_at hl 0 rfl) ?_
        refine lv_aload_n hx hb dX5_pass_32 rfl (lv_at hl 1 rfl) ?_
        refine va_get (D := D) (ci := 5) (v := .ref a_came) (C := RX5) (T := TX5) (N := 5) hx hb hts inTX5 hown hK hP 0 rfl rfl 2 (by decide) (hts _ q173) (fun _ h9 => h9) rfl dX5_pass_33 ?_
        refine lv_iload_n hx hb dX5_pass_36 rfl (lv_at hl 3 rfl) ?_
        obtain ⟨v3, hv3, hf⟩ := ob hf
        refine x_iald hx hb hK hP 1 0 rfl rfl hv3 dX5_pass_37 ?_
        refine lv_iconst (v := -1) hx hb dX5_pass_38 (by decide) ?_
        refine lv_ixor hx hb dX5_pass_39 ?_
        refine lv_iand hx hb dX5_pass_40 ?_
        obtain ⟨v4, hv4, hf⟩ := ob hf
        refine kJ6_bitCount_0f7a4 hx hb hml hown hts hKW q577  hv4 hl.1 (Nat.le_of_ble_eq_true rfl) ⟨Nat.le_of_ble_eq_true rfl, Nat.le_of_ble_eq_true rfl⟩ ⟨Nat.zero_le _, Nat.zero_le _⟩ dX5_pass_41 ?_
        refine lv_iadd hx hb dX5_pass_44 ?_
        refine lv_istore_n (lv' := [(1, .int (l1 + v4)), (3, .int v2), (0, .ref a_this), (2, .int l2)]) hx hb dX5_pass_45 rfl hl (by decide) rfl (fun ls hl => ?_)
        refine lv_aload_n hx hb dX5_pass_46 rfl (lv_at hl 2 rfl) ?_
        refine va_get (D := D) (ci := 5) (v := .ref a_came) (C := RX5) (T := TX5) (N := 5) hx hb hts inTX5 hown hK hP 0 rfl rfl 2 (by decide) (hts _ q173) (fun _ h9 => h9) rfl dX5_pass_47 ?_
        refine lv_iload_n hx hb dX5_pass_50 rfl (lv_at hl 3 rfl) ?_
        refine lv_iload_n hx hb dX5_pass_51 rfl (lv_at hl 1 rfl) ?_
        obtain ⟨g5, hg5, hf⟩ := ob hf
        refine x_iast hx hb hK hP hD hS 1 0 rfl rfl hg5 dX5_pass_52 (fun H locs hP hD hS => ?_)
        have hP : va_P D vwCl [(a_this, .inr (5, [.int z_day, .int z_crossed, .ref a_came, .ref a_under, .ref a_due])), (a_came, .inl (cI, 8, .inl g5)), (a_under, .inl (cI, 8, .inl z_under)), (a_due, .inl (cI, 64, .inl z_due))] H := hP
        have hD : va_D A [(a_this, .inr (5, [.int z_day, .int z_crossed, .ref a_came, .ref a_under, .ref a_due])), (a_came, .inl (cI, 8, .inl g5)), (a_under, .inl (cI, 8, .inl z_under)), (a_due, .inl (cI, 64, .inl z_due))] := hD
        refine lv_aload_n hx hb dX5_pass_53 rfl (lv_at hl 2 rfl) ?_
        refine va_get (D := D) (ci := 5) (v := .ref a_under) (C := RX5) (T := TX5) (N := 5) hx hb hts inTX5 hown hK hP 0 rfl rfl 3 (by decide) (hts _ q179) (fun _ h9 => h9) rfl dX5_pass_54 ?_
        refine lv_iload_n hx hb dX5_pass_57 rfl (lv_at hl 3 rfl) ?_
        refine lv_dup2_11 hx hb dX5_pass_58 rfl rfl ?_
        obtain ⟨v6, hv6, hf⟩ := ob hf
        refine x_iald hx hb hK hP 2 0 rfl rfl hv6 dX5_pass_59 ?_
        refine lv_iload_n hx hb dX5_pass_60 rfl (lv_at hl 1 rfl) ?_
        refine lv_iconst (v := -1) hx hb dX5_pass_61 (by decide) ?_
        refine lv_ixor hx hb dX5_pass_62 ?_
        refine lv_iand hx hb dX5_pass_63 ?_
        obtain ⟨g7, hg7, hf⟩ := ob hf
        refine x_iast hx hb hK hP hD hS 2 0 rfl rfl hg7 dX5_pass_64 (fun H locs hP hD hS => ?_)
        have hP : va_P D vwCl [(a_this, .inr (5, [.int z_day, .int z_crossed, .ref a_came, .ref a_under, .ref a_due])), (a_came, .inl (cI, 8, .inl g5)), (a_under, .inl (cI, 8, .inl g7)), (a_due, .inl (cI, 64, .inl z_due))] H := hP
        have hD : va_D A [(a_this, .inr (5, [.int z_day, .int z_crossed, .ref a_came, .ref a_under, .ref a_due])), (a_came, .inl (cI, 8, .inl g5)), (a_under, .inl (cI, 8, .inl g7)), (a_due, .inl (cI, 64, .inl z_due))] := hD
        refine lv_iinc (v := (l2 + 1)) (lv' := [(2, .int (l2 + 1)), (1, .int (l1 + v4)), (3, .int v2), (0, .ref a_this)]) hx hb dX5_pass_65 hl (k := 3) rfl rfl (by decide) rfl (fun ls hl => ?_)
        refine lv_goto (tgt := 14) hx hb dX5_pass_68 (by decide) ?_
        exact ih14 (l1 + v4) (l2 + 1) z_day g5 g7 H locs ls hP hD hS (lv_sub hl [3, 1, 0] rfl) hf
  unfold fX5_pass at hf
  obtain ⟨H, hH⟩ : ∃ H, H = s.heap := ⟨_, rfl⟩
  obtain ⟨locs, hlo⟩ : ∃ q : List Loc, q = [] := ⟨_, rfl⟩
  have hS : va_S A s.heap H locs := by rw [hH, hlo]; exact hS
  rw [← hH] at hP
  suffices hgo : W p l e ({ frames := 2, cells := 0, slots := 0, locals := 45 } : Room) s m ([.ref a_this] : List Value).toArray below meth c H locs 0 0 (MQ below (rwQ D (some (.int r)) [(a_this, .inr (5, [.int o_z_day, .int z_crossed, .ref a_came, .ref a_under, .ref a_due])), (a_came, .inl (cI, 8, .inl o_z_came)), (a_under, .inl (cI, 8, .inl o_z_under)), (a_due, .inl (cI, 64, .inl z_due))] A) ([.ref a_this] : List Value).toArray s 0 0 A) (F0 m 0 ls []) by rw [hH, hlo] at hgo; exact hgo
  clear hH hlo
  refine lv_aload_n hx hb dX5_pass_0 rfl (lv_at hl 0 rfl) ?_
  refine lv_dup hx hb dX5_pass_1 rfl ?_
  refine va_get (D := D) (ci := 5) (v := .int z_day) (C := RX5) (T := TX5) (N := 5) hx hb hts inTX5 hown hK hP 0 rfl rfl 0 (by decide) (hts _ q168) (fun _ h9 => h9) rfl dX5_pass_2 ?_
  refine lv_iconst (v := 1) hx hb dX5_pass_5 (by decide) ?_
  refine lv_iadd hx hb dX5_pass_6 ?_
  refine va_put (D := D) (ci := 5) (v := .int (z_day + 1)) (ty := .int) (C := RX5) (T := TX5) (N := 5) hx hb hts inTX5 tyX5 tyX5_ok nmX5 hown hK hP hD hS 0 rfl rfl 0 (by decide) (hts _ q168) (fun _ h9 => h9) rfl (by decide +kernel) rfl rfl (Nat.le_of_ble_eq_true rfl) dX5_pass_7 (fun H locs hP hD hS => ?_)
  have hP : va_P D vwCl [(a_this, .inr (5, [.int (z_day + 1), .int z_crossed, .ref a_came, .ref a_under, .ref a_due])), (a_came, .inl (cI, 8, .inl z_came)), (a_under, .inl (cI, 8, .inl z_under)), (a_due, .inl (cI, 64, .inl z_due))] H := hP
  have hD : va_D A [(a_this, .inr (5, [.int (z_day + 1), .int z_crossed, .ref a_came, .ref a_under, .ref a_due])), (a_came, .inl (cI, 8, .inl z_came)), (a_under, .inl (cI, 8, .inl z_under)), (a_due, .inl (cI, 64, .inl z_due))] := hD
  refine lv_iconst (v := 0) hx hb dX5_pass_10 (by decide) ?_
  refine lv_istore_n (lv' := [(1, .int 0), (0, .ref a_this)]) hx hb dX5_pass_11 rfl hl (by decide) rfl (fun ls hl => ?_)
  refine lv_iconst (v := 0) hx hb dX5_pass_12 (by decide) ?_
  refine lv_istore_n (lv' := [(2, .int 0), (1, .int 0), (0, .ref a_this)]) hx hb dX5_pass_13 rfl hl (by decide) rfl (fun ls hl => ?_)
  exact hB14 fu 0 0 (z_day + 1) z_came z_under H locs ls hP hD hS (lv_sub hl [2, 1, 0] rfl) hf
theorem kX5_pass {p : Program} {l : Launch} {e : Env} {R : Room} {s : State} {m : MethodId} {args : Array Value} {below : List Frame} {meth : Method} {c : Code} {H : Heap} {locs : List Loc} {cells slots : Nat} {Q : State → Prop} {cc : ByteArray} {nL pc index : Nat} {ls : Array Slot} {rest : List Value} {own : String} {D : va_G} {cI cZ cQ : ClassId} {a_this a_came a_under a_due : Nat} {z_day z_crossed : Int32} {z_came z_under z_due : Nat → Int32} {fu : Nat} {r : Int32} {o_z_day : Int32} {o_z_came o_z_under : Nat → Int32} (hx : p.tables.exec = Jvm.exec) (hb : c.code = cc) (hml : c.maxLocals = nL) (hown : s.vm.findClass own = some m.cls) (hts : ∀ w ∈ TB, w.before args s = true) (hKW : KW D (TY cI cZ cQ) s) (hlk : Cond.methodLink own index yX5_pass ∈ TB) {ws : va_W} {A : Nat → Prop} {H0 : Heap} (hP : va_P D vwCl ws H) (hD : va_D A ws) (hS : va_S A H0 H locs) (is : List Nat) (hC : is.map (fun i => ws[i]?) = ([(a_this, .inr (5, [.int z_day, .int z_crossed, .ref a_came, .ref a_under, .ref a_due])), (a_came, .inl (cI, 8, .inl z_came)), (a_under, .inl (cI, 8, .inl z_under)), (a_due, .inl (cI, 64, .inl z_due))] : va_W).map some) (hnd : va_nd is = true) (hf : fX5_pass fu z_due z_day z_came z_under = some (r, o_z_day, o_z_came, o_z_under)) (hn : ls.size = nL) (hW : (rest.map fun v => v.category).sum ≤ 8) (hR : 2 + 1 ≤ R.frames ∧ 8 + (4 + 11) + 45 ≤ R.locals) (hcs : cells ≤ R.cells ∧ slots ≤ R.slots) (hdg : decode cc pc = .ok (.invokevirtual index, 3)) (kk : ∀ (H1 : Heap) (locs1 : List Loc), va_P D vwCl (rpl ws is [(a_this, .inr (5, [.int o_z_day, .int z_crossed, .ref a_came, .ref a_under, .ref a_due])), (a_came, .inl (cI, 8, .inl o_z_came)), (a_under, .inl (cI, 8, .inl o_z_under)), (a_due, .inl (cI, 64, .inl z_due))]) H1 → va_D A (rpl ws is [(a_this, .inr (5, [.int o_z_day, .int z_crossed, .ref a_came, .ref a_under, .ref a_due])), (a_came, .inl (cI, 8, .inl o_z_came)), (a_under, .inl (cI, 8, .inl o_z_under)), (a_due, .inl (cI, 64, .inl z_due))]) → va_S A H0 H1 locs1 → W p l e R s m args below meth c H1 locs1 cells slots Q (F0 m (pc + 3) ls (.int r :: rest))) : W p l e R s m args below meth c H locs cells slots Q (F0 m pc ls (.ref a_this :: rest)) :=
  x_rw (va_runV (As := []) (rest := rest) ⟨hx, hb, hml, hown, hts⟩ (tX5_pass hf) (cwV 0 hts (tb_V hlk q623 q624 q43 q625) rfl rfl rfl (by decide +kernel) hR) ⟨rwB, va_recv hKW.1 (subP hP hC) (ci := 5) (q0 := 0) rfl rfl, fun U hU hW => ⟨rfl, by rw [hU]; exact subP hP hC, hKW.warm hW, subD hD hC hnd⟩⟩ rfl rfl hn rfl (lv_room hW) hdg hcs) hP hD hS is hC rfl kk
