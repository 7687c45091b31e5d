-- HalfPlanks$Strength.together(II)I
set_option maxHeartbeats 4000000 in
set_option maxRecDepth 100000 in
theorem tX7_together {l : Launch} {D : va_G} {cI cZ cQ : ClassId} {p0 p1 : Int32} {fu : Nat} {r : Int32} (hf : fX7_together fu p0 p1 = some (r)) : Met l yX7_together (.code yX7_together cX7_together 2 (some .int) :: TB) ({ frames := 0, cells := 0, slots := 0, locals := 0 } : Room) (roP D (TY cI cZ cQ) [] [.int p0, .int p1]) (roQ (some (.int r))) 0 0 (fun _ => False) := by
  refine Met.ofW (cc := cX7_together) (maxL := 2) (ret := (some .int)) (by decide) rfl ?_
  intro p e s m args below meth c s₁ B hml hv
  obtain ⟨rfl, hP, hKW⟩ := hv
  have hx := B.exec
  have hb := B.bytes
  have hr := B.returns
  have hts : ∀ w ∈ TB, w.before ([.int p0, .int p1] : List Value).toArray s = true := fun w h => atoms_spec (ws := .code yX7_together cX7_together 2 (some .int) :: TB) B.pre w (List.mem_cons_of_mem _ h)
  have hown : s.vm.findClass RX7 = some m.cls := findClass_of_methodNamed B.named
  have hlocks := B.notSynchronized
  have hK := hKW.1
  have hl := lv_entry [.int p0, .int p1] (n := 2) (Nat.le_of_ble_eq_true rfl)
  rw [lg_entry_eq]
  generalize (lg_sl [.int p0, .int p1] ++ List.replicate (2 - (lg_sl [.int p0, .int p1]).length) Slot.unset).toArray = ls at hl ⊢
  have hl : lv_has ls 2 [(0, .int p0), (1, .int p1)] := hl
  show W p l e ({ frames := 0, cells := 0, slots := 0, locals := 0 } : Room) s m ([.int p0, .int p1] : List Value).toArray below meth c s.heap [] 0 0 (MQ below (roQ (some (.int r))) ([.int p0, .int p1] : List Value).toArray s 0 0 (fun _ => False)) (F0 m 0 ls [])
  unfold fX7_together at hf
  refine lv_iload_n hx hb dX7_together_0 rfl (lv_at hl 0 rfl) ?_
  refine lv_if_le (tgt := 14) hx hb dX7_together_1 (by decide) (fun c1 => ?_) (fun c1 => ?_)
  · replace hf := it hf c1
    refine lv_iconst (v := 0) hx hb dX7_together_14 (by decide) ?_
    cases hf
    exact W.iret hx hb hr (fun t ht _ => ⟨rfl, ht⟩) (fun q h => by cases h) dX7_together_15
  · replace hf := ie hf c1
    refine lv_iload_n hx hb dX7_together_4 rfl (lv_at hl 1 rfl) ?_
    refine lv_if_le (tgt := 14) hx hb dX7_together_5 (by decide) (fun c2 => ?_) (fun c2 => ?_)
    · replace hf := it hf c2
      refine lv_iconst (v := 0) hx hb dX7_together_14 (by decide) ?_
      cases hf
      exact W.iret hx hb hr (fun t ht _ => ⟨rfl, ht⟩) (fun q h => by cases h) dX7_together_15
    · replace hf := ie hf c2
      refine lv_iload_n hx hb dX7_together_8 rfl (lv_at hl 0 rfl) ?_
      refine lv_iload_n hx hb dX7_together_9 rfl (lv_at hl 1 rfl) ?_
      refine lv_iadd hx hb dX7_together_10 ?_
      refine lv_goto (tgt := 15) hx hb dX7_together_11 (by decide) ?_
      cases hf
      exact W.iret hx hb hr (fun t ht _ => ⟨rfl, ht⟩) (fun q h => by cases h) dX7_together_15
theorem kX7_together {p : Program} {l : Launch} {e : Env} {R : Room} {s : State} {m : MethodId} {args : Array Value} {below : List Frame} {meth : Method} {c : Code} {H : Heap} {locs : List Loc} {cells slots : Nat} {Q : State → Prop} {cc : ByteArray} {nL pc index : Nat} {ls : Array Slot} {rest : List Value} {own : String} {D : va_G} {cI cZ cQ : ClassId} {p0 p1 : Int32} {fu : Nat} {r : Int32} (hx : p.tables.exec = Jvm.exec) (hb : c.code = cc) (hml : c.maxLocals = nL) (hown : s.vm.findClass own = some m.cls) (hts : ∀ w ∈ TB, w.before args s = true) (hKW : KW D (TY cI cZ cQ) s) (hlk : Cond.methodLink own index yX7_together ∈ TB) (hf : fX7_together fu p0 p1 = some (r)) (hn : ls.size = nL) (hW : (rest.map fun v => v.category).sum ≤ 8) (hR : 0 + 1 ≤ R.frames ∧ 8 + (2 + 11) + 0 ≤ R.locals) (hcs : cells ≤ R.cells ∧ slots ≤ R.slots) (hdg : decode cc pc = .ok (.invokestatic index, 3)) (kk : W p l e R s m args below meth c H locs cells slots Q (F0 m (pc + 3) ls (.int r :: rest))) : W p l e R s m args below meth c H locs cells slots Q (F0 m pc ls (.int p1 :: .int p0 :: rest)) :=
  x_ret (va_runS (As := [.int p0, .int p1]) (rest := rest) ⟨hx, hb, hml, hown, hts⟩ (tX7_together hf) (va_cwS 2 hts (tb_S hlk q510 q42 q511) rfl rfl rfl (by decide +kernel) hR) ⟨roB, fun U hU hW => ⟨rfl, fun k q h => by simp at h, hKW.warm hW⟩⟩ rfl rfl hn rfl (lv_room hW) hdg hcs) kk

-- HalfPlanks$Strength.bestOfTwo(IIII)I
set_option maxHeartbeats 4000000 in
set_option maxRecDepth 100000 in
theorem tX7_bestOfTwo {l : Launch} {D : va_G} {cI cZ cQ : ClassId} {a_this a_folk a_borne a_folk_bank a_folk_kind a_folk_word a_folk_slow a_folk_told : Nat} {z_folk_planks z_folk_size z_folk_sworn p1 p2 p3 p4 : Int32} {z_folk_kind z_folk_bank z_folk_word : Nat → Int32} {fu : Nat} {r : Int32} (hf : fX7_bestOfTwo fu z_folk_size z_folk_kind z_folk_sworn z_folk_bank z_folk_word p1 p2 p3 p4 = some (r)) : Met l yX7_bestOfTwo (.code yX7_bestOfTwo cX7_bestOfTwo 11 (some .int) :: TB) ({ frames := 2, cells := 0, slots := 0, locals := 45 } : Room) (roP D (TY cI cZ cQ) [(a_this, .inr (7, [.ref a_folk, .ref a_borne])), (a_folk, .inr (0, [.int z_folk_planks, .int z_folk_size, .int z_folk_sworn, .ref a_folk_bank, .ref a_folk_kind, .ref a_folk_word, .ref a_folk_slow, .ref a_folk_told])), (a_folk_kind, .inl (cI, 8, .inl z_folk_kind)), (a_folk_bank, .inl (cI, 8, .inl z_folk_bank)), (a_folk_word, .inl (cI, 8, .inl z_folk_word))] [.ref a_this, .int p1, .int p2, .int p3, .int p4]) (roQ (some (.int r))) 0 0 (fun _ => False) := by
  refine Met.ofW (cc := cX7_bestOfTwo) (maxL := 11) (ret := (some .int)) (by decide) rfl ?_
  intro p e s m args below meth c s₁ B hml hv
  obtain ⟨rfl, hP, hKW⟩ := hv
  have hx := B.exec
  have hb := B.bytes
  have hr := B.returns
  have hts : ∀ w ∈ TB, w.before ([.ref a_this, .int p1, .int p2, .int p3, .int p4] : List Value).toArray s = true := fun w h => atoms_spec (ws := .code yX7_bestOfTwo cX7_bestOfTwo 11 (some .int) :: TB) B.pre w (List.mem_cons_of_mem _ h)
  have hown : s.vm.findClass RX7 = some m.cls := findClass_of_methodNamed B.named
  have hlocks := B.notSynchronized
  have hK := hKW.1
  have hl := lv_entry [.ref a_this, .int p1, .int p2, .int p3, .int p4] (n := 11) (Nat.le_of_ble_eq_true rfl)
  rw [lg_entry_eq]
  generalize (lg_sl [.ref a_this, .int p1, .int p2, .int p3, .int p4] ++ List.replicate (11 - (lg_sl [.ref a_this, .int p1, .int p2, .int p3, .int p4]).length) Slot.unset).toArray = ls at hl ⊢
  have hl : lv_has ls 11 [(0, .ref a_this), (1, .int p1), (2, .int p2), (3, .int p3), (4, .int p4)] := hl
  show W p l e ({ frames := 2, cells := 0, slots := 0, locals := 45 } : Room) s m ([.ref a_this, .int p1, .int p2, .int p3, .int p4] : List Value).toArray below meth c s.heap [] 0 0 (MQ below (roQ (some (.int r))) ([.ref a_this, .int p1, .int p2, .int p3, .int p4] : List Value).toArray s 0 0 (fun _ => False)) (F0 m 0 ls [])
  have hB15 : ∀ (n15 : Nat) (l1 : Int32) (l2 : Int32) (l3 : Int32) (l4 : Int32) (l5 : Int32) (l6 : Int32) (l7 : Int32) (l8 : Int32) (l9 : Int32) (ls : Array Slot), lv_has ls 11 [(0, .ref a_this), (1, .int l1), (2, .int l2), (3, .int l3), (4, .int l4), (5, .int l5), (6, .int l6), (7, .int l7), (8, .int l8), (9, .int l9)] → fX7_bestOfTwo_b15 fu z_folk_size z_folk_kind z_folk_sworn z_folk_bank z_folk_word n15 l1 l2 l3 l4 l5 l6 l7 l8 l9 = some (r) → W p l e ({ frames := 2, cells := 0, slots := 0, locals := 45 } : Room) s m ([.ref a_this, .int p1, .int p2, .int p3, .int p4] : List Value).toArray below meth c s.heap [] 0 0 (MQ below (roQ (some (.int r))) ([.ref a_this, .int p1, .int p2, .int p3, .int p4] : List Value).toArray s 0 0 (fun _ => False)) (F0 m 15 ls []) := by
    intro n15
    induction n15 with
    | zero => intro l1 l2 l3 l4 l5 l6 l7 l8 l9 ls hl hf; exact nn hf
    | succ n15 ih15 =>
      have hB66 : ∀ (l1 : Int32) (l2 : Int32) (l3 : Int32) (l4 : Int32) (l5 : Int32) (l6 : Int32) (l7 : Int32) (l8 : Int32) (l9 : Int32) (s0 : Int32) (s1 : Int32) (ls : Array Slot), lv_has ls 11 [(0, .ref a_this), (1, .int l1), (2, .int l2), (3, .int l3), (4, .int l4), (5, .int l5), (6, .int l6), (7, .int l7), (8, .int l8), (9, .int l9)] → fX7_bestOfTwo_b66 fu z_folk_size z_folk_kind z_folk_sworn z_folk_bank z_folk_word (fX7_bestOfTwo_b15 fu z_folk_size z_folk_kind z_folk_sworn z_folk_bank z_folk_word n15) l1 l2 l3 l4 l5 l6 l7 l8 l9 s0 s1 = some (r) → W p l e ({ frames := 2, cells := 0, slots := 0, locals := 45 } : Room) s m ([.ref a_this, .int p1, .int p2, .int p3, .int p4] : List Value).toArray below meth c s.heap [] 0 0 (MQ below (roQ (some (.int r))) ([.ref a_this, .int p1, .int p2, .int p3, .int p4] : List Value).toArray s 0 0 (fun _ => False)) (F0 m 66 ls [.int s0, .int s1, .ref a_folk]) := by
        intro l1 l2 l3 l4 l5 l6 l7 l8 l9 s0 s1 ls hl hf
        unfold fX7_bestOfTwo_b66 at hf
        refine lv_iload_n hx hb dX7_bestOfTwo_66 rfl (lv_at hl 1 rfl) ?_
        refine lv_iload_n hx hb dX7_bestOfTwo_67 rfl (lv_at hl 2 rfl) ?_
        obtain ⟨v9, hv9, hf⟩ := ob hf
        refine kX0_holdBy hx hb hml hown hts hKW q502 (hP.sub [1, 2] rfl) hv9 hl.1 (Nat.le_of_ble_eq_true rfl) ⟨Nat.le_of_ble_eq_true rfl, Nat.le_of_ble_eq_true rfl⟩ ⟨Nat.zero_le _, Nat.zero_le _⟩ dX7_bestOfTwo_68 ?_
        refine lv_istore (lv' := [(10, .int v9), (0, .ref a_this), (1, .int l1), (2, .int l2), (3, .int l3), (4, .int l4), (5, .int l5), (6, .int l6), (7, .int l7), (8, .int l8), (9, .int l9)]) hx hb dX7_bestOfTwo_71 hl (by decide) rfl (fun ls hl => ?_)
        refine lv_aload_n hx hb dX7_bestOfTwo_73 rfl (lv_at hl 1 rfl) ?_
        refine va_get (D := D) (ci := 7) (v := .ref a_folk) (C := RX7) (T := TX7) (N := 2) hx hb hts inTX7 hown hK hP 0 rfl rfl 0 (by decide) (hts _ q155) (fun _ h9 => h9) rfl dX7_bestOfTwo_74 ?_
        refine va_get (D := D) (ci := 0) (v := .ref a_folk_kind) (C := RX0) (T := TX0) (N := 8) hx hb hts inTX0 hown hK hP 1 rfl rfl 4 (by decide) (hts _ q91) (fun _ h9 => h9) rfl dX7_bestOfTwo_77 ?_
        refine lv_iload hx hb dX7_bestOfTwo_80 (lv_at hl 10 rfl) ?_
        obtain ⟨v10, hv10, hf⟩ := ob hf
        refine x_iald hx hb hK hP 2 0 rfl rfl hv10 dX7_bestOfTwo_82 ?_
        refine lv_iconst (v := 3) hx hb dX7_bestOfTwo_83 (by decide) ?_
        refine lv_icmp_ne (tgt := 113) hx hb dX7_bestOfTwo_84 (by decide) (fun c11 => ?_) (fun c11 => ?_)
        · replace hf := ie hf c11
          refine lv_aload_n hx hb dX7_bestOfTwo_113 rfl (lv_at hl 1 rfl) ?_
          refine va_get (D := D) (ci := 7) (v := .ref a_folk) (C := RX7) (T := TX7) (N := 2) hx hb hts inTX7 hown hK hP 0 rfl rfl 0 (by decide) (hts _ q155) (fun _ h9 => h9) rfl dX7_bestOfTwo_114 ?_
          refine va_get (D := D) (ci := 0) (v := .ref a_folk_bank) (C := RX0) (T := TX0) (N := 8) hx hb hts inTX0 hown hK hP 1 rfl rfl 3 (by decide) (hts _ q87) (fun _ h9 => h9) rfl dX7_bestOfTwo_117 ?_
          refine lv_iload hx hb dX7_bestOfTwo_120 (lv_at hl 10 rfl) ?_
          obtain ⟨v12, hv12, hf⟩ := ob hf
          refine x_iald hx hb hK hP 3 0 rfl rfl hv12 dX7_bestOfTwo_122 ?_
          refine lv_if_ne (tgt := 138) hx hb dX7_bestOfTwo_123 (by decide) (fun c13 => ?_) (fun c13 => ?_)
          · replace hf := ie hf c13
            refine lv_iload hx hb dX7_bestOfTwo_138 (lv_at hl 7 rfl) ?_
            refine lv_iload hx hb dX7_bestOfTwo_140 (lv_at hl 0 rfl) ?_
            refine x_max hx hb hml hl.1 hown hts q508 ⟨Nat.le_of_ble_eq_true rfl, Nat.le_of_ble_eq_true rfl⟩ ⟨Nat.zero_le _, Nat.zero_le _⟩ dX7_bestOfTwo_142 ?_
            refine lv_istore (lv' := [(6, .int (mx l6 v9)), (10, .int v9), (0, .ref a_this), (1, .int l1), (2, .int l2), (3, .int l3), (4, .int l4), (5, .int l5), (7, .int l7), (8, .int l8), (9, .int l9)]) hx hb dX7_bestOfTwo_145 hl (by decide) rfl (fun ls hl => ?_)
            refine lv_iinc (v := (l9 + 1)) (lv' := [(9, .int (l9 + 1)), (6, .int (mx l6 v9)), (10, .int v9), (0, .ref a_this), (1, .int l1), (2, .int l2), (3, .int l3), (4, .int l4), (5, .int l5), (7, .int l7), (8, .int l8)]) hx hb dX7_bestOfTwo_147 hl (k := 10) rfl rfl (by decide) rfl (fun ls hl => ?_)
            refine lv_goto (tgt := 15) hx hb dX7_bestOfTwo_150 (by decide) ?_
            exact ih15 l1 l2 l3 l4 l5 (mx l6 v9) l7 l8 (l9 + 1) ls (lv_sub hl [3, 4, 5, 6, 7, 8, 1, 9, 10, 0] rfl) hf
          · replace hf := it hf c13
            refine lv_iload hx hb dX7_bestOfTwo_126 (lv_at hl 6 rfl) ?_
            refine lv_iload hx hb dX7_bestOfTwo_128 (lv_at hl 0 rfl) ?_
            refine x_max hx hb hml hl.1 hown hts q508 ⟨Nat.le_of_ble_eq_true rfl, Nat.le_of_ble_eq_true rfl⟩ ⟨Nat.zero_le _, Nat.zero_le _⟩ dX7_bestOfTwo_130 ?_
            refine lv_istore (lv' := [(5, .int (mx l5 v9)), (10, .int v9), (0, .ref a_this), (1, .int l1), (2, .int l2), (3, .int l3), (4, .int l4), (6, .int l6), (7, .int l7), (8, .int l8), (9, .int l9)]) hx hb dX7_bestOfTwo_133 hl (by decide) rfl (fun ls hl => ?_)
            refine lv_goto (tgt := 147) hx hb dX7_bestOfTwo_135 (by decide) ?_
            refine lv_iinc (v := (l9 + 1)) (lv' := [(9, .int (l9 + 1)), (5, .int (mx l5 v9)), (10, .int v9), (0, .ref a_this), (1, .int l1), (2, .int l2), (3, .int l3), (4, .int l4), (6, .int l6), (7, .int l7), (8, .int l8)]) hx hb dX7_bestOfTwo_147 hl (k := 10) rfl rfl (by decide) rfl (fun ls hl => ?_)
            refine lv_goto (tgt := 15) hx hb dX7_bestOfTwo_150 (by decide) ?_
            exact ih15 l1 l2 l3 l4 (mx l5 v9) l6 l7 l8 (l9 + 1) ls (lv_sub hl [3, 4, 5, 6, 7, 1, 8, 9, 10, 0] rfl) hf
        · replace hf := it hf c11
          refine lv_iload hx hb dX7_bestOfTwo_87 (lv_at hl 9 rfl) ?_
          refine lv_iload hx hb dX7_bestOfTwo_89 (lv_at hl 8 rfl) ?_
          refine lv_iload hx hb dX7_bestOfTwo_91 (lv_at hl 0 rfl) ?_
          refine x_min hx hb hml hl.1 hown hts q507 ⟨Nat.le_of_ble_eq_true rfl, Nat.le_of_ble_eq_true rfl⟩ ⟨Nat.zero_le _, Nat.zero_le _⟩ dX7_bestOfTwo_93 ?_
          refine x_max hx hb hml hl.1 hown hts q508 ⟨Nat.le_of_ble_eq_true rfl, Nat.le_of_ble_eq_true rfl⟩ ⟨Nat.zero_le _, Nat.zero_le _⟩ dX7_bestOfTwo_96 ?_
          refine lv_istore (lv' := [(8, .int (mx l8 (mn l7 v9))), (10, .int v9), (0, .ref a_this), (1, .int l1), (2, .int l2), (3, .int l3), (4, .int l4), (5, .int l5), (6, .int l6), (7, .int l7), (9, .int l9)]) hx hb dX7_bestOfTwo_99 hl (by decide) rfl (fun ls hl => ?_)
          refine lv_iload hx hb dX7_bestOfTwo_101 (lv_at hl 9 rfl) ?_
          refine lv_iload hx hb dX7_bestOfTwo_103 (lv_at hl 1 rfl) ?_
          refine x_max hx hb hml hl.1 hown hts q508 ⟨Nat.le_of_ble_eq_true rfl, Nat.le_of_ble_eq_true rfl⟩ ⟨Nat.zero_le _, Nat.zero_le _⟩ dX7_bestOfTwo_105 ?_
          refine lv_istore (lv' := [(7, .int (mx l7 v9)), (8, .int (mx l8 (mn l7 v9))), (10, .int v9), (0, .ref a_this), (1, .int l1), (2, .int l2), (3, .int l3), (4, .int l4), (5, .int l5), (6, .int l6), (9, .int l9)]) hx hb dX7_bestOfTwo_108 hl (by decide) rfl (fun ls hl => ?_)
          refine lv_goto (tgt := 147) hx hb dX7_bestOfTwo_110 (by decide) ?_
          refine lv_iinc (v := (l9 + 1)) (lv' := [(9, .int (l9 + 1)), (7, .int (mx l7 v9)), (8, .int (mx l8 (mn l7 v9))), (10, .int v9), (0, .ref a_this), (1, .int l1), (2, .int l2), (3, .int l3), (4, .int l4), (5, .int l5), (6, .int l6)]) hx hb dX7_bestOfTwo_147 hl (k := 10) rfl rfl (by decide) rfl (fun ls hl => ?_)
          refine lv_goto (tgt := 15) hx hb dX7_bestOfTwo_150 (by decide) ?_
          exact ih15 l1 l2 l3 l4 l5 l6 (mx l7 v9) (mx l8 (mn l7 v9)) (l9 + 1) ls (lv_sub hl [4, 5, 6, 7, 8, 9, 10, 1, 2, 0] rfl) hf
      intro l1 l2 l3 l4 l5 l6 l7 l8 l9 ls hl hf
      replace hf : fX7_bestOfTwo_b15_body fu z_folk_size z_folk_kind z_folk_sworn z_folk_bank z_folk_word (fX7_bestOfTwo_b15 fu z_folk_size z_folk_kind z_folk_sworn z_folk_bank z_folk_word n15) l1 l2 l3 l4 l5 l6 l7 l8 l9 = some (r) := hf
      unfold fX7_bestOfTwo_b15_body at hf
      refine lv_iload hx hb dX7_bestOfTwo_15 (lv_at hl 9 rfl) ?_
      refine lv_aload_n hx hb dX7_bestOfTwo_17 rfl (lv_at hl 0 rfl) ?_
      refine va_get (D := D) (ci := 7) (v := .ref a_folk) (C := RX7) (T := TX7) (N := 2) hx hb hts inTX7 hown hK hP 0 rfl rfl 0 (by decide) (hts _ q155) (fun _ h9 => h9) rfl dX7_bestOfTwo_18 ?_
      refine va_get (D := D) (ci := 0) (v := .int z_folk_size) (C := RX0) (T := TX0) (N := 8) hx hb hts inTX0 hown hK hP 1 rfl rfl 1 (by decide) (hts _ q80) (fun _ h9 => h9) rfl dX7_bestOfTwo_21 ?_
      refine lv_icmp_ge (tgt := 153) hx hb dX7_bestOfTwo_24 (by decide) (fun c1 => ?_) (fun c1 => ?_)
      · replace hf := it hf c1
        refine lv_iload hx hb dX7_bestOfTwo_153 (lv_at hl 5 rfl) ?_
        refine lv_iload hx hb dX7_bestOfTwo_155 (lv_at hl 6 rfl) ?_
        obtain ⟨v2, hv2, hf⟩ := ob hf
        refine kX7_together hx hb hml hown hts hKW q509  hv2 hl.1 (Nat.le_of_ble_eq_true rfl) ⟨Nat.le_of_ble_eq_true rfl, Nat.le_of_ble_eq_true rfl⟩ ⟨Nat.zero_le _, Nat.zero_le _⟩ dX7_bestOfTwo_157 ?_
        refine lv_iload hx hb dX7_bestOfTwo_160 (lv_at hl 7 rfl) ?_
        refine lv_iload hx hb dX7_bestOfTwo_162 (lv_at hl 8 rfl) ?_
        obtain ⟨v3, hv3, hf⟩ := ob hf
        refine kX7_together hx hb hml hown hts hKW q509  hv3 hl.1 (Nat.le_of_ble_eq_true rfl) ⟨Nat.le_of_ble_eq_true rfl, Nat.le_of_ble_eq_true rfl⟩ ⟨Nat.zero_le _, Nat.zero_le _⟩ dX7_bestOfTwo_164 ?_
        refine x_max hx hb hml hl.1 hown hts q508 ⟨Nat.le_of_ble_eq_true rfl, Nat.le_of_ble_eq_true rfl⟩ ⟨Nat.zero_le _, Nat.zero_le _⟩ dX7_bestOfTwo_167 ?_
        refine lv_istore (lv' := [(9, .int (mx v2 v3)), (0, .ref a_this), (1, .int l1), (2, .int l2), (3, .int l3), (4, .int l4), (5, .int l5), (6, .int l6), (7, .int l7), (8, .int l8)]) hx hb dX7_bestOfTwo_170 hl (by decide) rfl (fun ls hl => ?_)
        refine lv_iload hx hb dX7_bestOfTwo_172 (lv_at hl 0 rfl) ?_
        refine lv_iload hx hb dX7_bestOfTwo_174 (lv_at hl 8 rfl) ?_
        refine lv_iload hx hb dX7_bestOfTwo_176 (lv_at hl 6 rfl) ?_
        refine lv_iload hx hb dX7_bestOfTwo_178 (lv_at hl 7 rfl) ?_
        refine x_max hx hb hml hl.1 hown hts q508 ⟨Nat.le_of_ble_eq_true rfl, Nat.le_of_ble_eq_true rfl⟩ ⟨Nat.zero_le _, Nat.zero_le _⟩ dX7_bestOfTwo_180 ?_
        obtain ⟨v4, hv4, hf⟩ := ob hf
        refine kX7_together hx hb hml hown hts hKW q509  hv4 hl.1 (Nat.le_of_ble_eq_true rfl) ⟨Nat.le_of_ble_eq_true rfl, Nat.le_of_ble_eq_true rfl⟩ ⟨Nat.zero_le _, Nat.zero_le _⟩ dX7_bestOfTwo_183 ?_
        refine x_max hx hb hml hl.1 hown hts q508 ⟨Nat.le_of_ble_eq_true rfl, Nat.le_of_ble_eq_true rfl⟩ ⟨Nat.zero_le _, Nat.zero_le _⟩ dX7_bestOfTwo_186 ?_
        cases hf
        exact W.iret hx hb hr (fun t ht _ => ⟨rfl, ht⟩) (fun q h => by cases h) dX7_bestOfTwo_189
      · replace hf := ie hf c1
        refine lv_iload_n hx hb dX7_bestOfTwo_27 rfl (lv_at hl 2 rfl) ?_
        refine lv_iload hx hb dX7_bestOfTwo_28 (lv_at hl 9 rfl) ?_
        obtain ⟨v5, hv5, hf⟩ := ob hf
        refine knX8_has hx hb hml hown hts hKW (hKW.2 ("HalfPlanks$Strength", 33, yX8_has, "HalfPlanks") (by decide +kernel))  hv5 hl.1 (Nat.le_of_ble_eq_true rfl) ⟨Nat.le_of_ble_eq_true rfl, Nat.le_of_ble_eq_true rfl⟩ ⟨Nat.zero_le _, Nat.zero_le _⟩ dX7_bestOfTwo_30 ?_
        refine lv_if_ne (tgt := 39) hx hb dX7_bestOfTwo_33 (by decide) (fun c6 => ?_) (fun c6 => ?_)
        · replace hf := ie hf c6
          refine lv_aload_n hx hb dX7_bestOfTwo_39 rfl (lv_at hl 0 rfl) ?_
          refine va_get (D := D) (ci := 7) (v := .ref a_folk) (C := RX7) (T := TX7) (N := 2) hx hb hts inTX7 hown hK hP 0 rfl rfl 0 (by decide) (hts _ q155) (fun _ h9 => h9) rfl dX7_bestOfTwo_40 ?_
          refine lv_iload hx hb dX7_bestOfTwo_43 (lv_at hl 9 rfl) ?_
          refine lv_iload hx hb dX7_bestOfTwo_45 (lv_at hl 9 rfl) ?_
          refine lv_iload_n hx hb dX7_bestOfTwo_47 rfl (lv_at hl 3 rfl) ?_
          refine lv_icmp_ne (tgt := 56) hx hb dX7_bestOfTwo_48 (by decide) (fun c7 => ?_) (fun c7 => ?_)
          · replace hf := ie hf c7
            refine lv_aload_n hx hb dX7_bestOfTwo_56 rfl (lv_at hl 0 rfl) ?_
            refine va_get (D := D) (ci := 7) (v := .ref a_folk) (C := RX7) (T := TX7) (N := 2) hx hb hts inTX7 hown hK hP 0 rfl rfl 0 (by decide) (hts _ q155) (fun _ h9 => h9) rfl dX7_bestOfTwo_57 ?_
            refine va_get (D := D) (ci := 0) (v := .ref a_folk_word) (C := RX0) (T := TX0) (N := 8) hx hb hts inTX0 hown hK hP 1 rfl rfl 5 (by decide) (hts _ q94) (fun _ h9 => h9) rfl dX7_bestOfTwo_60 ?_
            refine lv_iload hx hb dX7_bestOfTwo_63 (lv_at hl 9 rfl) ?_
            obtain ⟨v8, hv8, hf⟩ := ob hf
            refine x_iald hx hb hK hP 4 0 rfl rfl hv8 dX7_bestOfTwo_65 ?_
            exact hB66 l1 l2 l3 l4 l5 l6 l7 l8 l9 v8 l9 ls (lv_sub hl [0, 1, 2, 3, 4, 5, 6, 7, 8, 9] rfl) hf
          · replace hf := it hf c7
            refine lv_iload hx hb dX7_bestOfTwo_51 (lv_at hl 4 rfl) ?_
            refine lv_goto (tgt := 66) hx hb dX7_bestOfTwo_53 (by decide) ?_
            exact hB66 l1 l2 l3 l4 l5 l6 l7 l8 l9 l4 l9 ls (lv_sub hl [0, 1, 2, 3, 4, 5, 6, 7, 8, 9] rfl) hf
        · replace hf := it hf c6
          refine lv_goto (tgt := 147) hx hb dX7_bestOfTwo_36 (by decide) ?_
          refine lv_iinc (v := (l9 + 1)) (lv' := [(9, .int (l9 + 1)), (0, .ref a_this), (1, .int l1), (2, .int l2), (3, .int l3), (4, .int l4), (5, .int l5), (6, .int l6), (7, .int l7), (8, .int l8)]) hx hb dX7_bestOfTwo_147 hl (k := 9) rfl rfl (by decide) rfl (fun ls hl => ?_)
          refine lv_goto (tgt := 15) hx hb dX7_bestOfTwo_150 (by decide) ?_
          exact ih15 l1 l2 l3 l4 l5 l6 l7 l8 (l9 + 1) ls (lv_sub hl [1, 2, 3, 4, 5, 6, 7, 8, 9, 0] rfl) hf
  unfold fX7_bestOfTwo at hf
  refine lv_iconst (v := 0) hx hb dX7_bestOfTwo_0 (by decide) ?_
  refine lv_istore (lv' := [(5, .int 0), (0, .ref a_this), (1, .int p1), (2, .int p2), (3, .int p3), (4, .int p4)]) hx hb dX7_bestOfTwo_1 hl (by decide) rfl (fun ls hl => ?_)
  refine lv_iconst (v := 0) hx hb dX7_bestOfTwo_3 (by decide) ?_
  refine lv_istore (lv' := [(6, .int 0), (5, .int 0), (0, .ref a_this), (1, .int p1), (2, .int p2), (3, .int p3), (4, .int p4)]) hx hb dX7_bestOfTwo_4 hl (by decide) rfl (fun ls hl => ?_)
  refine lv_iconst (v := 0) hx hb dX7_bestOfTwo_6 (by decide) ?_
  refine lv_istore (lv' := [(7, .int 0), (6, .int 0), (5, .int 0), (0, .ref a_this), (1, .int p1), (2, .int p2), (3, .int p3), (4, .int p4)]) hx hb dX7_bestOfTwo_7 hl (by decide) rfl (fun ls hl => ?_)
  refine lv_iconst (v := 0) hx hb dX7_bestOfTwo_9 (by decide) ?_
  refine lv_istore (lv' := [(8, .int 0), (7, .int 0), (6, .int 0), (5, .int 0), (0, .ref a_this), (1, .int p1), (2, .int p2), (3, .int p3), (4, .int p4)]) hx hb dX7_bestOfTwo_10 hl (by decide) rfl (fun ls hl => ?_)
  refine lv_iconst (v := 0) hx hb dX7_bestOfTwo_12 (by decide) ?_
  refine lv_istore (lv' := [(9, .int 0), (8, .int 0), (7, .int 0), (6, .int 0), (5, .int 0), (0, .ref a_this), (1, .int p1), (2, .int p2), (3, .int p3), (4, .int p4)]) hx hb dX7_bestOfTwo_13 hl (by decide) rfl (fun ls hl => ?_)
  exact hB15 fu p1 p2 p3 p4 0 0 0 0 0 ls (lv_sub hl [5, 6, 7, 8, 9, 4, 3, 2, 1, 0] rfl) hf
theorem kX7_bestOfTwo {p : Program} {l : Launch} {e : Env} {R : Room} {s : State} {m : MethodId} {args : Array Value} {below : List Frame} {meth : Method} {c : Code} {H : Heap} {locs : List Loc} {cells slots : Nat} {Q : State → Prop} {cc : ByteArray} {nL pc index : Nat} {ls : Array Slot} {rest : List Value} {own : String} {D : va_G} {cI cZ cQ : ClassId} {a_this a_folk a_borne a_folk_bank a_folk_kind a_folk_word a_folk_slow a_folk_told : Nat} {z_folk_planks z_folk_size z_folk_sworn p1 p2 p3 p4 : Int32} {z_folk_kind z_folk_bank z_folk_word : Nat → Int32} {fu : Nat} {r : Int32} (hx : p.tables.exec = Jvm.exec) (hb : c.code = cc) (hml : c.maxLocals = nL) (hown : s.vm.findClass own = some m.cls) (hts : ∀ w ∈ TB, w.before args s = true) (hKW : KW D (TY cI cZ cQ) s) (hlk : Cond.methodLink own index yX7_bestOfTwo ∈ TB) (hP : va_P D vwCl [(a_this, .inr (7, [.ref a_folk, .ref a_borne])), (a_folk, .inr (0, [.int z_folk_planks, .int z_folk_size, .int z_folk_sworn, .ref a_folk_bank, .ref a_folk_kind, .ref a_folk_word, .ref a_folk_slow, .ref a_folk_told])), (a_folk_kind, .inl (cI, 8, .inl z_folk_kind)), (a_folk_bank, .inl (cI, 8, .inl z_folk_bank)), (a_folk_word, .inl (cI, 8, .inl z_folk_word))] H) (hf : fX7_bestOfTwo fu z_folk_size z_folk_kind z_folk_sworn z_folk_bank z_folk_word p1 p2 p3 p4 = some (r)) (hn : ls.size = nL) (hW : (rest.map fun v => v.category).sum ≤ 8) (hR : 2 + 1 ≤ R.frames ∧ 8 + (11 + 11) + 45 ≤ R.locals) (hcs : cells ≤ R.cells ∧ slots ≤ R.slots) (hdg : decode cc pc = .ok (.invokevirtual index, 3)) (kk : W p l e R s m args below meth c H locs cells slots Q (F0 m (pc + 3) ls (.int r :: rest))) : W p l e R s m args below meth c H locs cells slots Q (F0 m pc ls (.int p4 :: .int p3 :: .int p2 :: .int p1 :: .ref a_this :: rest)) :=
  x_ret (va_runV (As := [.int p1, .int p2, .int p3, .int p4]) (rest := rest) ⟨hx, hb, hml, hown, hts⟩ (tX7_bestOfTwo hf) (cwV 4 hts (tb_V hlk q498 q499 q42 q500) rfl rfl rfl (by decide +kernel) hR) ⟨roB, va_recv hKW.1 hP (ci := 7) (q0 := 0) rfl rfl, fun U hU hW => ⟨rfl, by rw [hU]; exact hP, hKW.warm hW⟩⟩ rfl rfl hn rfl (lv_room hW) hdg hcs) kk

-- HalfPlanks$Strength.reckonAll()V
set_option maxHeartbeats 4000000 in
set_option maxRecDepth 100000 in
theorem tX7_reckonAll {l : Launch} {D : va_G} {cI cZ cQ : ClassId} {a_this a_folk a_borne a_folk_bank a_folk_kind a_folk_word a_folk_slow a_folk_told : Nat} {z_folk_planks z_folk_size z_folk_sworn : Int32} {z_folk_kind z_folk_bank z_folk_word z_borne : Nat → Int32} {fu : Nat} {o_z_borne : Nat → Int32} (hf : fX7_reckonAll fu z_folk_size z_folk_kind z_folk_sworn z_folk_bank z_folk_word z_borne = some (o_z_borne)) : Met l yX7_reckonAll (.code yX7_reckonAll cX7_reckonAll 2 none :: TB) ({ frames := 3, cells := 0, slots := 0, locals := 75 } : Room) (rwP D (TY cI cZ cQ) [(a_this, .inr (7, [.ref a_folk, .ref a_borne])), (a_folk, .inr (0, [.int z_folk_planks, .int z_folk_size, .int z_folk_sworn, .ref a_folk_bank, .ref a_folk_kind, .ref a_folk_word, .ref a_folk_slow, .ref a_folk_told])), (a_folk_kind, .inl (cI, 8, .inl z_folk_kind)), (a_folk_bank, .inl (cI, 8, .inl z_folk_bank)), (a_folk_word, .inl (cI, 8, .inl z_folk_word)), (a_borne, .inl (cI, 512, .inl z_borne))] [.ref a_this]) (rwQ D none [(a_this, .inr (7, [.ref a_folk, .ref a_borne])), (a_folk, .inr (0, [.int z_folk_planks, .int z_folk_size, .int z_folk_sworn, .ref a_folk_bank, .ref a_folk_kind, .ref a_folk_word, .ref a_folk_slow, .ref a_folk_told])), (a_folk_kind, .inl (cI, 8, .inl z_folk_kind)), (a_folk_bank, .inl (cI, 8, .inl z_folk_bank)), (a_folk_word, .inl (cI, 8, .inl z_folk_word)), (a_borne, .inl (cI, 512, .inl o_z_borne))] (inW [(a_this, .inr (7, [.ref a_folk, .ref a_borne])), (a_folk, .inr (0, [.int z_folk_planks, .int z_folk_size, .int z_folk_sworn, .ref a_folk_bank, .ref a_folk_kind, .ref a_folk_word, .ref a_folk_slow, .ref a_folk_told])), (a_folk_kind, .inl (cI, 8, .inl z_folk_kind)), (a_folk_bank, .inl (cI, 8, .inl z_folk_bank)), (a_folk_word, .inl (cI, 8, .inl z_folk_word)), (a_borne, .inl (cI, 512, .inl z_borne))])) 0 0 (inW [(a_this, .inr (7, [.ref a_folk, .ref a_borne])), (a_folk, .inr (0, [.int z_folk_planks, .int z_folk_size, .int z_folk_sworn, .ref a_folk_bank, .ref a_folk_kind, .ref a_folk_word, .ref a_folk_slow, .ref a_folk_told])), (a_folk_kind, .inl (cI, 8, .inl z_folk_kind)), (a_folk_bank, .inl (cI, 8, .inl z_folk_bank)), (a_folk_word, .inl (cI, 8, .inl z_folk_word)), (a_borne, .inl (cI, 512, .inl z_borne))]) := by
  refine Met.ofW (cc := cX7_reckonAll) (maxL := 2) (ret := none) (by decide) rfl ?_
  intro p e s m args below meth c s₁ B hml hv
  obtain ⟨rfl, hP, hKW, hD0⟩ := hv
  have hx := B.exec
  have hb := B.bytes
  have hr := B.returns
  have hts : ∀ w ∈ TB, w.before ([.ref a_this] : List Value).toArray s = true := fun w h => atoms_spec (ws := .code yX7_reckonAll cX7_reckonAll 2 none :: TB) B.pre w (List.mem_cons_of_mem _ h)
  have hown : s.vm.findClass RX7 = some m.cls := findClass_of_methodNamed B.named
  have hlocks := B.notSynchronized
  have hK := hKW.1
  have hD := inW_D hD0
  generalize hAe : inW [(a_this, .inr (7, [.ref a_folk, .ref a_borne])), (a_folk, .inr (0, [.int z_folk_planks, .int z_folk_size, .int z_folk_sworn, .ref a_folk_bank, .ref a_folk_kind, .ref a_folk_word, .ref a_folk_slow, .ref a_folk_told])), (a_folk_kind, .inl (cI, 8, .inl z_folk_kind)), (a_folk_bank, .inl (cI, 8, .inl z_folk_bank)), (a_folk_word, .inl (cI, 8, .inl z_folk_word)), (a_borne, .inl (cI, 512, .inl z_borne))] = A at hD ⊢
  have hS : va_S A s.heap s.heap [] := va_S.rf
  have hl := lv_entry [.ref a_this] (n := 2) (Nat.le_of_ble_eq_true rfl)
  rw [lg_entry_eq]
  generalize (lg_sl [.ref a_this] ++ List.replicate (2 - (lg_sl [.ref a_this]).length) Slot.unset).toArray = ls at hl ⊢
  have hl : lv_has ls 2 [(0, .ref a_this)] := hl
  show W p l e ({ frames := 3, cells := 0, slots := 0, locals := 75 } : Room) s m ([.ref a_this] : List Value).toArray below meth c s.heap [] 0 0 (MQ below (rwQ D none [(a_this, .inr (7, [.ref a_folk, .ref a_borne])), (a_folk, .inr (0, [.int z_folk_planks, .int z_folk_size, .int z_folk_sworn, .ref a_folk_bank, .ref a_folk_kind, .ref a_folk_word, .ref a_folk_slow, .ref a_folk_told])), (a_folk_kind, .inl (cI, 8, .inl z_folk_kind)), (a_folk_bank, .inl (cI, 8, .inl z_folk_bank)), (a_folk_word, .inl (cI, 8, .inl z_folk_word)), (a_borne, .inl (cI, 512, .inl o_z_borne))] A) ([.ref a_this] : List Value).toArray s 0 0 A) (F0 m 0 ls [])
  have hP : va_P D vwCl [(a_this, .inr (7, [.ref a_folk, .ref a_borne])), (a_folk, .inr (0, [.int z_folk_planks, .int z_folk_size, .int z_folk_sworn, .ref a_folk_bank, .ref a_folk_kind, .ref a_folk_word, .ref a_folk_slow, .ref a_folk_told])), (a_folk_kind, .inl (cI, 8, .inl z_folk_kind)), (a_folk_bank, .inl (cI, 8, .inl z_folk_bank)), (a_folk_word, .inl (cI, 8, .inl z_folk_word)), (a_borne, .inl (cI, 512, .inl z_borne))] s.heap := hP
  have hD : va_D A [(a_this, .inr (7, [.ref a_folk, .ref a_borne])), (a_folk, .inr (0, [.int z_folk_planks, .int z_folk_size, .int z_folk_sworn, .ref a_folk_bank, .ref a_folk_kind, .ref a_folk_word, .ref a_folk_slow, .ref a_folk_told])), (a_folk_kind, .inl (cI, 8, .inl z_folk_kind)), (a_folk_bank, .inl (cI, 8, .inl z_folk_bank)), (a_folk_word, .inl (cI, 8, .inl z_folk_word)), (a_borne, .inl (cI, 512, .inl z_borne))] := hD
  have hB2 : ∀ (n2 : Nat) (l1 : Int32) (z_borne : Nat → Int32) (H : Heap) (locs : List Loc) (ls : Array Slot), va_P D vwCl [(a_this, .inr (7, [.ref a_folk, .ref a_borne])), (a_folk, .inr (0, [.int z_folk_planks, .int z_folk_size, .int z_folk_sworn, .ref a_folk_bank, .ref a_folk_kind, .ref a_folk_word, .ref a_folk_slow, .ref a_folk_told])), (a_folk_kind, .inl (cI, 8, .inl z_folk_kind)), (a_folk_bank, .inl (cI, 8, .inl z_folk_bank)), (a_folk_word, .inl (cI, 8, .inl z_folk_word)), (a_borne, .inl (cI, 512, .inl z_borne))] H → va_D A [(a_this, .inr (7, [.ref a_folk, .ref a_borne])), (a_folk, .inr (0, [.int z_folk_planks, .int z_folk_size, .int z_folk_sworn, .ref a_folk_bank, .ref a_folk_kind, .ref a_folk_word, .ref a_folk_slow, .ref a_folk_told])), (a_folk_kind, .inl (cI, 8, .inl z_folk_kind)), (a_folk_bank, .inl (cI, 8, .inl z_folk_bank)), (a_folk_word, .inl (cI, 8, .inl z_folk_word)), (a_borne, .inl (cI, 512, .inl z_borne))] → va_S A s.heap H locs → lv_has ls 2 [(0, .ref a_this), (1, .int l1)] → fX7_reckonAll_b2 fu z_folk_size z_folk_kind z_folk_sworn z_folk_bank z_folk_word n2 l1 z_borne = some (o_z_borne) → W p l e ({ frames := 3, cells := 0, slots := 0, locals := 75 } : Room) s m ([.ref a_this] : List Value).toArray below meth c H locs 0 0 (MQ below (rwQ D none [(a_this, .inr (7, [.ref a_folk, .ref a_borne])), (a_folk, .inr (0, [.int z_folk_planks, .int z_folk_size, .int z_folk_sworn, .ref a_folk_bank, .ref a_folk_kind, .ref a_folk_word, .ref a_folk_slow, .ref a_folk_told])), (a_folk_kind, .inl (cI, 8, .inl z_folk_kind)), (a_folk_bank, .inl (cI, 8, .inl z_folk_bank)), (a_folk_word, .inl (cI, 8, .inl z_folk_word)), (a_borne, .inl (cI, 512, .inl o_z_borne))] A) ([.ref a_this] : List Value).toArray s 0 0 A) (F0 m 2 ls []) := by
    intro n2
    induction n2 with
    | zero => intro l1 z_borne H locs ls hP hD hS hl hf; exact nn hf
    | succ n2 ih2 =>
      intro l1 z_borne H locs ls hP hD hS hl hf
      replace hf : fX7_reckonAll_b2_body fu z_folk_size z_folk_kind z_folk_sworn z_folk_bank z_folk_word (fX7_reckonAll_b2 fu z_folk_size z_folk_kind z_folk_sworn z_folk_bank z_folk_word n2) l1 z_borne = some (o_z_borne) := hf
      unfold fX7_reckonAll_b2_body at hf
      refine lv_iload_n hx hb dX7_reckonAll_2 rfl (lv_at hl 1 rfl) ?_
      refine lv_aload_n hx hb dX7_reckonAll_3 rfl (lv_at hl 0 rfl) ?_
      refine va_get (D := D) (ci := 7) (v := .ref a_folk) (C := RX7) (T := TX7) (N := 2) hx hb hts inTX7 hown hK hP 0 rfl rfl 0 (by decide) (hts _ q155) (fun _ h9 => h9) rfl dX7_reckonAll_4 ?_
      obtain ⟨v1, hv1, hf⟩ := ob hf
      refine kX0_everyone hx hb hml hown hts hKW q493 (hP.sub [1] rfl) hv1 hl.1 (Nat.le_of_ble_eq_true rfl) ⟨Nat.le_of_ble_eq_true rfl, Nat.le_of_ble_eq_true rfl⟩ ⟨Nat.zero_le _, Nat.zero_le _⟩ dX7_reckonAll_7 ?_
      refine lv_icmp_gt (tgt := 51) hx hb dX7_reckonAll_10 (by decide) (fun c2 => ?_) (fun c2 => ?_)
      · replace hf := it hf c2
        cases hf
        exact W.vret hx hb hr (fun t ht _ => ⟨rfl, by rw [ht]; exact hP, hS.F ht⟩) hS.2.2 dX7_reckonAll_51
      · replace hf := ie hf c2
        refine lv_aload_n hx hb dX7_reckonAll_13 rfl (lv_at hl 0 rfl) ?_
        refine va_get (D := D) (ci := 7) (v := .ref a_borne) (C := RX7) (T := TX7) (N := 2) hx hb hts inTX7 hown hK hP 0 rfl rfl 1 (by decide) (hts _ q156) (fun _ h9 => h9) rfl dX7_reckonAll_14 ?_
        refine lv_iload_n hx hb dX7_reckonAll_17 rfl (lv_at hl 1 rfl) ?_
        refine lv_aload_n hx hb dX7_reckonAll_18 rfl (lv_at hl 0 rfl) ?_
        refine lv_iconst (v := 0) hx hb dX7_reckonAll_19 (by decide) ?_
        refine lv_iload_n hx hb dX7_reckonAll_20 rfl (lv_at hl 1 rfl) ?_
        refine lv_iconst (v := -1) hx hb dX7_reckonAll_21 (by decide) ?_
        refine lv_iconst (v := 0) hx hb dX7_reckonAll_22 (by decide) ?_
        obtain ⟨v3, hv3, hf⟩ := ob hf
        refine kX7_bestOfTwo hx hb hml hown hts hKW q497 (hP.sub [0, 1, 2, 3, 4] rfl) hv3 hl.1 (Nat.le_of_ble_eq_true rfl) ⟨Nat.le_of_ble_eq_true rfl, Nat.le_of_ble_eq_true rfl⟩ ⟨Nat.zero_le _, Nat.zero_le _⟩ dX7_reckonAll_23 ?_
        obtain ⟨g4, hg4, hf⟩ := ob hf
        refine x_iast hx hb hK hP hD hS 5 0 rfl rfl hg4 dX7_reckonAll_26 (fun H locs hP hD hS => ?_)
        have hP : va_P D vwCl [(a_this, .inr (7, [.ref a_folk, .ref a_borne])), (a_folk, .inr (0, [.int z_folk_planks, .int z_folk_size, .int z_folk_sworn, .ref a_folk_bank, .ref a_folk_kind, .ref a_folk_word, .ref a_folk_slow, .ref a_folk_told])), (a_folk_kind, .inl (cI, 8, .inl z_folk_kind)), (a_folk_bank, .inl (cI, 8, .inl z_folk_bank)), (a_folk_word, .inl (cI, 8, .inl z_folk_word)), (a_borne, .inl (cI, 512, .inl g4))] H := hP
        have hD : va_D A [(a_this, .inr (7, [.ref a_folk, .ref a_borne])), (a_folk, .inr (0, [.int z_folk_planks, .int z_folk_size, .int z_folk_sworn, .ref a_folk_bank, .ref a_folk_kind, .ref a_folk_word, .ref a_folk_slow, .ref a_folk_told])), (a_folk_kind, .inl (cI, 8, .inl z_folk_kind)), (a_folk_bank, .inl (cI, 8, .inl z_folk_bank)), (a_folk_word, .inl (cI, 8, .inl z_folk_word)), (a_borne, .inl (cI, 512, .inl g4))] := hD
        refine lv_aload_n hx hb dX7_reckonAll_27 rfl (lv_at hl 0 rfl) ?_
        refine va_get (D := D) (ci := 7) (v := .ref a_borne) (C := RX7) (T := TX7) (N := 2) hx hb hts inTX7 hown hK hP 0 rfl rfl 1 (by decide) (hts _ q156) (fun _ h9 => h9) rfl dX7_reckonAll_28 ?_
        refine lv_sipush (v := 256) hx hb dX7_reckonAll_31 (by decide) ?_
        refine lv_iload_n hx hb dX7_reckonAll_34 rfl (lv_at hl 1 rfl) ?_
        refine lv_iadd hx hb dX7_reckonAll_35 ?_
        refine lv_aload_n hx hb dX7_reckonAll_36 rfl (lv_at hl 0 rfl) ?_
        refine lv_iconst (v := 1) hx hb dX7_reckonAll_37 (by decide) ?_
        refine lv_iload_n hx hb dX7_reckonAll_38 rfl (lv_at hl 1 rfl) ?_
        refine lv_iconst (v := -1) hx hb dX7_reckonAll_39 (by decide) ?_
        refine lv_iconst (v := 0) hx hb dX7_reckonAll_40 (by decide) ?_
        obtain ⟨v5, hv5, hf⟩ := ob hf
        refine kX7_bestOfTwo hx hb hml hown hts hKW q497 (hP.sub [0, 1, 2, 3, 4] rfl) hv5 hl.1 (Nat.le_of_ble_eq_true rfl) ⟨Nat.le_of_ble_eq_true rfl, Nat.le_of_ble_eq_true rfl⟩ ⟨Nat.zero_le _, Nat.zero_le _⟩ dX7_reckonAll_41 ?_
        obtain ⟨g6, hg6, hf⟩ := ob hf
        refine x_iast hx hb hK hP hD hS 5 0 rfl rfl hg6 dX7_reckonAll_44 (fun H locs hP hD hS => ?_)
        have hP : va_P D vwCl [(a_this, .inr (7, [.ref a_folk, .ref a_borne])), (a_folk, .inr (0, [.int z_folk_planks, .int z_folk_size, .int z_folk_sworn, .ref a_folk_bank, .ref a_folk_kind, .ref a_folk_word, .ref a_folk_slow, .ref a_folk_told])), (a_folk_kind, .inl (cI, 8, .inl z_folk_kind)), (a_folk_bank, .inl (cI, 8, .inl z_folk_bank)), (a_folk_word, .inl (cI, 8, .inl z_folk_word)), (a_borne, .inl (cI, 512, .inl g6))] H := hP
        have hD : va_D A [(a_this, .inr (7, [.ref a_folk, .ref a_borne])), (a_folk, .inr (0, [.int z_folk_planks, .int z_folk_size, .int z_folk_sworn, .ref a_folk_bank, .ref a_folk_kind, .ref a_folk_word, .ref a_folk_slow, .ref a_folk_told])), (a_folk_kind, .inl (cI, 8, .inl z_folk_kind)), (a_folk_bank, .inl (cI, 8, .inl z_folk_bank)), (a_folk_word, .inl (cI, 8, .inl z_folk_word)), (a_borne, .inl (cI, 512, .inl g6))] := hD
        refine lv_iinc (v := (l1 + 1)) (lv' := [(1, .int (l1 + 1)), (0, .ref a_this)]) hx hb dX7_reckonAll_45 hl (k := 1) rfl rfl (by decide) rfl (fun ls hl => ?_)
        refine lv_goto (tgt := 2) hx hb dX7_reckonAll_48 (by decide) ?_
        exact ih2 (l1 + 1) g6 H locs ls hP hD hS (lv_sub hl [1, 0] rfl) hf
  unfold fX7_reckonAll at hf
  obtain ⟨H, hH⟩ : ∃ H, H = s.heap := ⟨_, rfl⟩
  obtain ⟨locs, hlo⟩ : ∃ q : List Loc, q = [] := ⟨_, rfl⟩
  have hS : va_S A s.heap H locs := by rw [hH, hlo]; exact hS
  rw [← hH] at hP
  suffices hgo : W p l e ({ frames := 3, cells := 0, slots := 0, locals := 75 } : Room) s m ([.ref a_this] : List Value).toArray below meth c H locs 0 0 (MQ below (rwQ D none [(a_this, .inr (7, [.ref a_folk, .ref a_borne])), (a_folk, .inr (0, [.int z_folk_planks, .int z_folk_size, .int z_folk_sworn, .ref a_folk_bank, .ref a_folk_kind, .ref a_folk_word, .ref a_folk_slow, .ref a_folk_told])), (a_folk_kind, .inl (cI, 8, .inl z_folk_kind)), (a_folk_bank, .inl (cI, 8, .inl z_folk_bank)), (a_folk_word, .inl (cI, 8, .inl z_folk_word)), (a_borne, .inl (cI, 512, .inl o_z_borne))] A) ([.ref a_this] : List Value).toArray s 0 0 A) (F0 m 0 ls []) by rw [hH, hlo] at hgo; exact hgo
  clear hH hlo
  refine lv_iconst (v := 0) hx hb dX7_reckonAll_0 (by decide) ?_
  refine lv_istore_n (lv' := [(1, .int 0), (0, .ref a_this)]) hx hb dX7_reckonAll_1 rfl hl (by decide) rfl (fun ls hl => ?_)
  exact hB2 fu 0 z_borne H locs ls hP hD hS (lv_sub hl [1, 0] rfl) hf
theorem kX7_reckonAll {p : Program} {l : Launch} {e : Env} {R : Room} {s : State} {m : MethodId} {args : Array Value} {below : List Frame} {meth : Method} {c : Code} {H : Heap} {locs : List Loc} {cells slots : Nat} {Q : State → Prop} {cc : ByteArray} {nL pc index : Nat} {ls : Array Slot} {rest : List Value} {own : String} {D : va_G} {cI cZ cQ : ClassId} {a_this a_folk a_borne a_folk_bank a_folk_kind a_folk_word a_folk_slow a_folk_told : Nat} {z_folk_planks z_folk_size z_folk_sworn : Int32} {z_folk_kind z_folk_bank z_folk_word z_borne : Nat → Int32} {fu : Nat} {o_z_borne : Nat → Int32} (hx : p.tables.exec = Jvm.exec) (hb : c.code = cc) (hml : c.maxLocals = nL) (hown : s.vm.findClass own = some m.cls) (hts : ∀ w ∈ TB, w.before args s = true) (hKW : KW D (TY cI cZ cQ) s) (hlk : Cond.methodLink own index yX7_reckonAll ∈ TB) {ws : va_W} {A : Nat → Prop} {H0 : Heap} (hP : va_P D vwCl ws H) (hD : va_D A ws) (hS : va_S A H0 H locs) (is : List Nat) (hC : is.map (fun i => ws[i]?) = ([(a_this, .inr (7, [.ref a_folk, .ref a_borne])), (a_folk, .inr (0, [.int z_folk_planks, .int z_folk_size, .int z_folk_sworn, .ref a_folk_bank, .ref a_folk_kind, .ref a_folk_word, .ref a_folk_slow, .ref a_folk_told])), (a_folk_kind, .inl (cI, 8, .inl z_folk_kind)), (a_folk_bank, .inl (cI, 8, .inl z_folk_bank)), (a_folk_word, .inl (cI, 8, .inl z_folk_word)), (a_borne, .inl (cI, 512, .inl z_borne))] : va_W).map some) (hnd : va_nd is = true) (hf : fX7_reckonAll fu z_folk_size z_folk_kind z_folk_sworn z_folk_bank z_folk_word z_borne = some (o_z_borne)) (hn : ls.size = nL) (hW : (rest.map fun v => v.category).sum ≤ 8) (hR : 3 + 1 ≤ R.frames ∧ 8 + (2 + 11) + 75 ≤ R.locals) (hcs : cells ≤ R.cells ∧ slots ≤ R.slots) (hdg : decode cc pc = .ok (.invokevirtual index, 3)) (kk : ∀ (H1 : Heap) (locs1 : List Loc), va_P D vwCl (rpl ws is [(a_this, .inr (7, [.ref a_folk, .ref a_borne])), (a_folk, .inr (0, [.int z_folk_planks, .int z_folk_size, .int z_folk_sworn, .ref a_folk_bank, .ref a_folk_kind, .ref a_folk_word, .ref a_folk_slow, .ref a_folk_told])), (a_folk_kind, .inl (cI, 8, .inl z_folk_kind)), (a_folk_bank, .inl (cI, 8, .inl z_folk_bank)), (a_folk_word, .inl (cI, 8, .inl z_folk_word)), (a_borne, .inl (cI, 512, .inl o_z_borne))]) H1 → va_D A (rpl ws is [(a_this, .inr (7, [.ref a_folk, .ref a_borne])), (a_folk, .inr (0, [.int z_folk_planks, .int z_folk_size, .int z_folk_sworn, .ref a_folk_bank, .ref a_folk_kind, .ref a_folk_word, .ref a_folk_slow, .ref a_folk_told])), (a_folk_kind, .inl (cI, 8, .inl z_folk_kind)), (a_folk_bank, .inl (cI, 8, .inl z_folk_bank)), (a_folk_word, .inl (cI, 8, .inl z_folk_word)), (a_borne, .inl (cI, 512, .inl o_z_borne))]) → va_S A H0 H1 locs1 → W p l e R s m args below meth c H1 locs1 cells slots Q (F0 m (pc + 3) ls (rest))) : W p l e R s m args below meth c H locs cells slots Q (F0 m pc ls (.ref a_this :: rest)) :=
  x_rw (va_runV (As := []) (rest := rest) ⟨hx, hb, hml, hown, hts⟩ (tX7_reckonAll hf) (cwV 0 hts (tb_V hlk q490 q491 q42 q492) rfl rfl rfl (by decide +kernel) hR) ⟨rwB, va_recv hKW.1 (subP hP hC) (ci := 7) (q0 := 0) rfl rfl, fun U hU hW => ⟨rfl, by rw [hU]; exact subP hP hC, hKW.warm hW, subD hD hC hnd⟩⟩ rfl rfl hn rfl (lv_room hW) hdg hcs) hP hD hS is hC rfl kk

-- HalfPlanks$Strength.of(II)I
set_option maxHeartbeats 4000000 in
set_option maxRecDepth 100000 in
theorem tX7_of {l : Launch} {D : va_G} {cI cZ cQ : ClassId} {a_this a_folk a_borne : Nat} {p1 p2 : Int32} {z_borne : Nat → Int32} {fu : Nat} {r : Int32} (hf : fX7_of fu z_borne p1 p2 = some (r)) : Met l yX7_of (.code yX7_of cX7_of 3 (some .int) :: TB) ({ frames := 0, cells := 0, slots := 0, locals := 0 } : Room) (roP D (TY cI cZ cQ) [(a_this, .inr (7, [.ref a_folk, .ref a_borne])), (a_borne, .inl (cI, 512, .inl z_borne))] [.ref a_this, .int p1, .int p2]) (roQ (some (.int r))) 0 0 (fun _ => False) := by
  refine Met.ofW (cc := cX7_of) (maxL := 3) (ret := (some .int)) (by decide) rfl ?_
  intro p e s m args below meth c s₁ B hml hv
  obtain ⟨rfl, hP, hKW⟩ := hv
  have hx := B.exec
  have hb := B.bytes
  have hr := B.returns
  have hts : ∀ w ∈ TB, w.before ([.ref a_this, .int p1, .int p2] : List Value).toArray s = true := fun w h => atoms_spec (ws := .code yX7_of cX7_of 3 (some .int) :: TB) B.pre w (List.mem_cons_of_mem _ h)
  have hown : s.vm.findClass RX7 = some m.cls := findClass_of_methodNamed B.named
  have hlocks := B.notSynchronized
  have hK := hKW.1
  have hl := lv_entry [.ref a_this, .int p1, .int p2] (n := 3) (Nat.le_of_ble_eq_true rfl)
  rw [lg_entry_eq]
  generalize (lg_sl [.ref a_this, .int p1, .int p2] ++ List.replicate (3 - (lg_sl [.ref a_this, .int p1, .int p2]).length) Slot.unset).toArray = ls at hl ⊢
  have hl : lv_has ls 3 [(0, .ref a_this), (1, .int p1), (2, .int p2)] := hl
  show W p l e ({ frames := 0, cells := 0, slots := 0, locals := 0 } : Room) s m ([.ref a_this, .int p1, .int p2] : List Value).toArray below meth c s.heap [] 0 0 (MQ below (roQ (some (.int r))) ([.ref a_this, .int p1, .int p2] : List Value).toArray s 0 0 (fun _ => False)) (F0 m 0 ls [])
  unfold fX7_of at hf
  refine lv_aload_n hx hb dX7_of_0 rfl (lv_at hl 0 rfl) ?_
  refine va_get (D := D) (ci := 7) (v := .ref a_borne) (C := RX7) (T := TX7) (N := 2) hx hb hts inTX7 hown hK hP 0 rfl rfl 1 (by decide) (hts _ q156) (fun _ h9 => h9) rfl dX7_of_1 ?_
  refine lv_iload_n hx hb dX7_of_4 rfl (lv_at hl 1 rfl) ?_
  refine lv_iconst (v := 1) hx hb dX7_of_5 (by decide) ?_
  refine lv_iand hx hb dX7_of_6 ?_
  refine lv_sipush (v := 256) hx hb dX7_of_7 (by decide) ?_
  refine lv_imul hx hb dX7_of_10 ?_
  refine lv_iload_n hx hb dX7_of_11 rfl (lv_at hl 2 rfl) ?_
  refine lv_sipush (v := 255) hx hb dX7_of_12 (by decide) ?_
  refine lv_iand hx hb dX7_of_15 ?_
  refine lv_iadd hx hb dX7_of_16 ?_
  obtain ⟨v1, hv1, hf⟩ := ob hf
  refine x_iald hx hb hK hP 1 0 rfl rfl hv1 dX7_of_17 ?_
  cases hf
  exact W.iret hx hb hr (fun t ht _ => ⟨rfl, ht⟩) (fun q h => by cases h) dX7_of_18
theorem kX7_of {p : Program} {l : Launch} {e : Env} {R : Room} {s : State} {m : MethodId} {args : Array Value} {below : List Frame} {meth : Method} {c : Code} {H : Heap} {locs : List Loc} {cells slots : Nat} {Q : State → Prop} {cc : ByteArray} {nL pc index : Nat} {ls : Array Slot} {rest : List Value} {own : String} {D : va_G} {cI cZ cQ : ClassId} {a_this a_folk a_borne : Nat} {p1 p2 : Int32} {z_borne : Nat → Int32} {fu : Nat} {r : Int32} (hx : p.tables.exec = Jvm.exec) (hb : c.code = cc) (hml : c.maxLocals = nL) (hown : s.vm.findClass own = some m.cls) (hts : ∀ w ∈ TB, w.before args s = true) (hKW : KW D (TY cI cZ cQ) s) (hlk : Cond.methodLink own index yX7_of ∈ TB) (hP : va_P D vwCl [(a_this, .inr (7, [.ref a_folk, .ref a_borne])), (a_borne, .inl (cI, 512, .inl z_borne))] H) (hf : fX7_of fu z_borne p1 p2 = some (r)) (hn : ls.size = nL) (hW : (rest.map fun v => v.category).sum ≤ 8) (hR : 0 + 1 ≤ R.frames ∧ 8 + (3 + 11) + 0 ≤ R.locals) (hcs : cells ≤ R.cells ∧ slots ≤ R.slots) (hdg : decode cc pc = .ok (.invokevirtual index, 3)) (kk : W p l e R s m args below meth c H locs cells slots Q (F0 m (pc + 3) ls (.int r :: rest))) : W p l e R s m args below meth c H locs cells slots Q (F0 m pc ls (.int p2 :: .int p1 :: .ref a_this :: rest)) :=
  x_ret (va_runV (As := [.int p1, .int p2]) (rest := rest) ⟨hx, hb, hml, hown, hts⟩ (tX7_of hf) (cwV 2 hts (tb_V hlk q539 q540 q42 q541) rfl rfl rfl (by decide +kernel) hR) ⟨roB, va_recv hKW.1 hP (ci := 7) (q0 := 0) rfl rfl, fun U hU hW => ⟨rfl, by rw [hU]; exact hP, hKW.warm hW⟩⟩ rfl rfl hn rfl (lv_room hW) hdg hcs) kk

-- HalfPlanks$Strength.falling(LHalfPlanks$Promises;I)I
set_option maxHeartbeats 4000000 in
set_option maxRecDepth 100000 in
theorem tX7_falling {l : Launch} {D : va_G} {cI cZ cQ : ClassId} {a_this a_folk a_borne a_folk_bank a_folk_kind a_folk_word a_folk_slow a_folk_told a_p1 a_p1_came a_p1_under a_p1_due : Nat} {z_folk_planks z_folk_size z_folk_sworn z_p1_day z_p1_crossed p2 : Int32} {z_p1_came z_borne : Nat → Int32} {fu : Nat} {r : Int32} (hf : fX7_falling fu z_folk_planks z_p1_came z_borne p2 = some (r)) : Met l yX7_falling (.code yX7_falling cX7_falling 5 (some .int) :: TB) ({ frames := 1, cells := 0, slots := 0, locals := 22 } : Room) (roP D (TY cI cZ cQ) [(a_this, .inr (7, [.ref a_folk, .ref a_borne])), (a_folk, .inr (0, [.int z_folk_planks, .int z_folk_size, .int z_folk_sworn, .ref a_folk_bank, .ref a_folk_kind, .ref a_folk_word, .ref a_folk_slow, .ref a_folk_told])), (a_p1, .inr (5, [.int z_p1_day, .int z_p1_crossed, .ref a_p1_came, .ref a_p1_under, .ref a_p1_due])), (a_p1_came, .inl (cI, 8, .inl z_p1_came)), (a_borne, .inl (cI, 512, .inl z_borne))] [.ref a_this, .ref a_p1, .int p2]) (roQ (some (.int r))) 0 0 (fun _ => False) := by
  refine Met.ofW (cc := cX7_falling) (maxL := 5) (ret := (some .int)) (by decide) rfl ?_
  intro p e s m args below meth c s₁ B hml hv
  obtain ⟨rfl, hP, hKW⟩ := hv
  have hx := B.exec
  have hb := B.bytes
  have hr := B.returns
  have hts : ∀ w ∈ TB, w.before ([.ref a_this, .ref a_p1, .int p2] : List Value).toArray s = true := fun w h => atoms_spec (ws := .code yX7_falling cX7_falling 5 (some .int) :: TB) B.pre w (List.mem_cons_of_mem _ h)
  have hown : s.vm.findClass RX7 = some m.cls := findClass_of_methodNamed B.named
  have hlocks := B.notSynchronized
  have hK := hKW.1
  have hl := lv_entry [.ref a_this, .ref a_p1, .int p2] (n := 5) (Nat.le_of_ble_eq_true rfl)
  rw [lg_entry_eq]
  generalize (lg_sl [.ref a_this, .ref a_p1, .int p2] ++ List.replicate (5 - (lg_sl [.ref a_this, .ref a_p1, .int p2]).length) Slot.unset).toArray = ls at hl ⊢
  have hl : lv_has ls 5 [(0, .ref a_this), (1, .ref a_p1), (2, .int p2)] := hl
  show W p l e ({ frames := 1, cells := 0, slots := 0, locals := 22 } : Room) s m ([.ref a_this, .ref a_p1, .int p2] : List Value).toArray below meth c s.heap [] 0 0 (MQ below (roQ (some (.int r))) ([.ref a_this, .ref a_p1, .int p2] : List Value).toArray s 0 0 (fun _ => False)) (F0 m 0 ls [])
  have hB5 : ∀ (n5 : Nat) (l2 : Int32) (l3 : Int32) (l4 : Int32) (ls : Array Slot), lv_has ls 5 [(0, .ref a_this), (1, .ref a_p1), (2, .int l2), (3, .int l3), (4, .int l4)] → fX7_falling_b5 fu z_folk_planks z_p1_came z_borne n5 l2 l3 l4 = some (r) → W p l e ({ frames := 1, cells := 0, slots := 0, locals := 22 } : Room) s m ([.ref a_this, .ref a_p1, .int p2] : List Value).toArray below meth c s.heap [] 0 0 (MQ below (roQ (some (.int r))) ([.ref a_this, .ref a_p1, .int p2] : List Value).toArray s 0 0 (fun _ => False)) (F0 m 5 ls []) := by
    intro n5
    induction n5 with
    | zero => intro l2 l3 l4 ls hl hf; exact nn hf
    | succ n5 ih5 =>
      intro l2 l3 l4 ls hl hf
      replace hf : fX7_falling_b5_body fu z_folk_planks z_p1_came z_borne (fX7_falling_b5 fu z_folk_planks z_p1_came z_borne n5) l2 l3 l4 = some (r) := hf
      unfold fX7_falling_b5_body at hf
      refine lv_iload hx hb dX7_falling_5 (lv_at hl 4 rfl) ?_
      refine lv_aload_n hx hb dX7_falling_7 rfl (lv_at hl 0 rfl) ?_
      refine va_get (D := D) (ci := 7) (v := .ref a_folk) (C := RX7) (T := TX7) (N := 2) hx hb hts inTX7 hown hK hP 0 rfl rfl 0 (by decide) (hts _ q155) (fun _ h9 => h9) rfl dX7_falling_8 ?_
      refine va_get (D := D) (ci := 0) (v := .int z_folk_planks) (C := RX0) (T := TX0) (N := 8) hx hb hts inTX0 hown hK hP 1 rfl rfl 0 (by decide) (hts _ q76) (fun _ h9 => h9) rfl dX7_falling_11 ?_
      refine lv_icmp_ge (tgt := 68) hx hb dX7_falling_14 (by decide) (fun c1 => ?_) (fun c1 => ?_)
      · replace hf := it hf c1
        refine lv_iload_n hx hb dX7_falling_68 rfl (lv_at hl 3 rfl) ?_
        cases hf
        exact W.iret hx hb hr (fun t ht _ => ⟨rfl, ht⟩) (fun q h => by cases h) dX7_falling_69
      · replace hf := ie hf c1
        refine lv_aload_n hx hb dX7_falling_17 rfl (lv_at hl 0 rfl) ?_
        refine lv_iload hx hb dX7_falling_18 (lv_at hl 4 rfl) ?_
        refine lv_aload_n hx hb dX7_falling_20 rfl (lv_at hl 1 rfl) ?_
        refine va_get (D := D) (ci := 5) (v := .ref a_p1_came) (C := RX5) (T := TX5) (N := 5) hx hb hts inTX5 hown hK hP 2 rfl rfl 2 (by decide) (hts _ q177) (fun _ h9 => h9) rfl dX7_falling_21 ?_
        refine lv_iload hx hb dX7_falling_24 (lv_at hl 4 rfl) ?_
        obtain ⟨v2, hv2, hf⟩ := ob hf
        refine x_iald hx hb hK hP 3 0 rfl rfl hv2 dX7_falling_26 ?_
        obtain ⟨v3, hv3, hf⟩ := ob hf
        refine kX7_of hx hb hml hown hts hKW q538 (hP.sub [0, 4] rfl) hv3 hl.1 (Nat.le_of_ble_eq_true rfl) ⟨Nat.le_of_ble_eq_true rfl, Nat.le_of_ble_eq_true rfl⟩ ⟨Nat.zero_le _, Nat.zero_le _⟩ dX7_falling_27 ?_
        refine lv_if_le (tgt := 62) hx hb dX7_falling_30 (by decide) (fun c4 => ?_) (fun c4 => ?_)
        · replace hf := it hf c4
          refine lv_iinc (v := (l4 + 1)) (lv' := [(4, .int (l4 + 1)), (0, .ref a_this), (1, .ref a_p1), (2, .int l2), (3, .int l3)]) hx hb dX7_falling_62 hl (k := 4) rfl rfl (by decide) rfl (fun ls hl => ?_)
          refine lv_goto (tgt := 5) hx hb dX7_falling_65 (by decide) ?_
          exact ih5 l2 l3 (l4 + 1) ls (lv_sub hl [1, 2, 3, 4, 0] rfl) hf
        · replace hf := ie hf c4
          refine lv_aload_n hx hb dX7_falling_33 rfl (lv_at hl 0 rfl) ?_
          refine lv_iload hx hb dX7_falling_34 (lv_at hl 4 rfl) ?_
          refine lv_aload_n hx hb dX7_falling_36 rfl (lv_at hl 1 rfl) ?_
          refine va_get (D := D) (ci := 5) (v := .ref a_p1_came) (C := RX5) (T := TX5) (N := 5) hx hb hts inTX5 hown hK hP 2 rfl rfl 2 (by decide) (hts _ q177) (fun _ h9 => h9) rfl dX7_falling_37 ?_
          refine lv_iload hx hb dX7_falling_40 (lv_at hl 4 rfl) ?_
          obtain ⟨v5, hv5, hf⟩ := ob hf
          refine x_iald hx hb hK hP 3 0 rfl rfl hv5 dX7_falling_42 ?_
          refine lv_iconst (v := 1) hx hb dX7_falling_43 (by decide) ?_
          refine lv_iload_n hx hb dX7_falling_44 rfl (lv_at hl 2 rfl) ?_
          refine lv_ishl hx hb dX7_falling_45 ?_
          refine lv_iconst (v := -1) hx hb dX7_falling_46 (by decide) ?_
          refine lv_ixor hx hb dX7_falling_47 ?_
          refine lv_iand hx hb dX7_falling_48 ?_
          obtain ⟨v6, hv6, hf⟩ := ob hf
          refine kX7_of hx hb hml hown hts hKW q538 (hP.sub [0, 4] rfl) hv6 hl.1 (Nat.le_of_ble_eq_true rfl) ⟨Nat.le_of_ble_eq_true rfl, Nat.le_of_ble_eq_true rfl⟩ ⟨Nat.zero_le _, Nat.zero_le _⟩ dX7_falling_49 ?_
          refine lv_if_ne (tgt := 62) hx hb dX7_falling_52 (by decide) (fun c7 => ?_) (fun c7 => ?_)
          · replace hf := ie hf c7
            refine lv_iinc (v := (l4 + 1)) (lv' := [(4, .int (l4 + 1)), (0, .ref a_this), (1, .ref a_p1), (2, .int l2), (3, .int l3)]) hx hb dX7_falling_62 hl (k := 4) rfl rfl (by decide) rfl (fun ls hl => ?_)
            refine lv_goto (tgt := 5) hx hb dX7_falling_65 (by decide) ?_
            exact ih5 l2 l3 (l4 + 1) ls (lv_sub hl [1, 2, 3, 4, 0] rfl) hf
          · replace hf := it hf c7
            refine lv_iload_n hx hb dX7_falling_55 rfl (lv_at hl 3 rfl) ?_
            refine lv_iconst (v := 1) hx hb dX7_falling_56 (by decide) ?_
            refine lv_iload hx hb dX7_falling_57 (lv_at hl 4 rfl) ?_
            refine lv_ishl hx hb dX7_falling_59 ?_
            refine lv_ior hx hb dX7_falling_60 ?_
            refine lv_istore_n (lv' := [(3, .int (l3 ||| ((1 : Int32) <<< (l4 &&& 31)))), (0, .ref a_this), (1, .ref a_p1), (2, .int l2), (4, .int l4)]) hx hb dX7_falling_61 rfl hl (by decide) rfl (fun ls hl => ?_)
            refine lv_iinc (v := (l4 + 1)) (lv' := [(4, .int (l4 + 1)), (3, .int (l3 ||| ((1 : Int32) <<< (l4 &&& 31)))), (0, .ref a_this), (1, .ref a_p1), (2, .int l2)]) hx hb dX7_falling_62 hl (k := 4) rfl rfl (by decide) rfl (fun ls hl => ?_)
            refine lv_goto (tgt := 5) hx hb dX7_falling_65 (by decide) ?_
            exact ih5 l2 (l3 ||| ((1 : Int32) <<< (l4 &&& 31))) (l4 + 1) ls (lv_sub hl [2, 3, 4, 1, 0] rfl) hf
  unfold fX7_falling at hf
  refine lv_iconst (v := 0) hx hb dX7_falling_0 (by decide) ?_
  refine lv_istore_n (lv' := [(3, .int 0), (0, .ref a_this), (1, .ref a_p1), (2, .int p2)]) hx hb dX7_falling_1 rfl hl (by decide) rfl (fun ls hl => ?_)
  refine lv_iconst (v := 0) hx hb dX7_falling_2 (by decide) ?_
  refine lv_istore (lv' := [(4, .int 0), (3, .int 0), (0, .ref a_this), (1, .ref a_p1), (2, .int p2)]) hx hb dX7_falling_3 hl (by decide) rfl (fun ls hl => ?_)
  exact hB5 fu p2 0 0 ls (lv_sub hl [2, 3, 4, 1, 0] rfl) hf
theorem kX7_falling {p : Program} {l : Launch} {e : Env} {R : Room} {s : State} {m : MethodId} {args : Array Value} {below : List Frame} {meth : Method} {c : Code} {H : Heap} {locs : List Loc} {cells slots : Nat} {Q : State → Prop} {cc : ByteArray} {nL pc index : Nat} {ls : Array Slot} {rest : List Value} {own : String} {D : va_G} {cI cZ cQ : ClassId} {a_this a_folk a_borne a_folk_bank a_folk_kind a_folk_word a_folk_slow a_folk_told a_p1 a_p1_came a_p1_under a_p1_due : Nat} {z_folk_planks z_folk_size z_folk_sworn z_p1_day z_p1_crossed p2 : Int32} {z_p1_came z_borne : Nat → Int32} {fu : Nat} {r : Int32} (hx : p.tables.exec = Jvm.exec) (hb : c.code = cc) (hml : c.maxLocals = nL) (hown : s.vm.findClass own = some m.cls) (hts : ∀ w ∈ TB, w.before args s = true) (hKW : KW D (TY cI cZ cQ) s) (hlk : Cond.methodLink own index yX7_falling ∈ TB) (hP : va_P D vwCl [(a_this, .inr (7, [.ref a_folk, .ref a_borne])), (a_folk, .inr (0, [.int z_folk_planks, .int z_folk_size, .int z_folk_sworn, .ref a_folk_bank, .ref a_folk_kind, .ref a_folk_word, .ref a_folk_slow, .ref a_folk_told])), (a_p1, .inr (5, [.int z_p1_day, .int z_p1_crossed, .ref a_p1_came, .ref a_p1_under, .ref a_p1_due])), (a_p1_came, .inl (cI, 8, .inl z_p1_came)), (a_borne, .inl (cI, 512, .inl z_borne))] H) (hf : fX7_falling fu z_folk_planks z_p1_came z_borne p2 = some (r)) (hn : ls.size = nL) (hW : (rest.map fun v => v.category).sum ≤ 8) (hR : 1 + 1 ≤ R.frames ∧ 8 + (5 + 11) + 22 ≤ R.locals) (hcs : cells ≤ R.cells ∧ slots ≤ R.slots) (hdg : decode cc pc = .ok (.invokevirtual index, 3)) (kk : W p l e R s m args below meth c H locs cells slots Q (F0 m (pc + 3) ls (.int r :: rest))) : W p l e R s m args below meth c H locs cells slots Q (F0 m pc ls (.int p2 :: .ref a_p1 :: .ref a_this :: rest)) :=
  x_ret (va_runV (As := [.ref a_p1, .int p2]) (rest := rest) ⟨hx, hb, hml, hown, hts⟩ (tX7_falling hf) (cwV 2 hts (tb_V hlk q535 q536 q42 q537) rfl rfl rfl (by decide +kernel) hR) ⟨roB, va_recv hKW.1 hP (ci := 7) (q0 := 0) rfl rfl, fun U hU hW => ⟨rfl, by rw [hU]; exact hP, hKW.warm hW⟩⟩ rfl rfl hn rfl (lv_room hW) hdg hcs) kk

-- HalfPlanks$Strength.bridge(LHalfPlanks$Promises;I)I
set_option maxHeartbeats 4000000 in
set_option maxRecDepth 100000 in
theorem tX7_bridge {l : Launch} {D : va_G} {cI cZ cQ : ClassId} {a_this a_folk a_borne a_p1 a_p1_came a_p1_under a_p1_due a_folk_bank a_folk_kind a_folk_word a_folk_slow a_folk_told : Nat} {z_p1_day z_p1_crossed z_folk_planks z_folk_size z_folk_sworn p2 : Int32} {z_p1_came z_borne : Nat → Int32} {fu : Nat} {r : Int32} (hf : fX7_bridge fu z_p1_came z_borne z_folk_planks p2 = some (r)) : Met l yX7_bridge (.code yX7_bridge cX7_bridge 5 (some .int) :: TB) ({ frames := 1, cells := 0, slots := 0, locals := 22 } : Room) (roP D (TY cI cZ cQ) [(a_this, .inr (7, [.ref a_folk, .ref a_borne])), (a_p1, .inr (5, [.int z_p1_day, .int z_p1_crossed, .ref a_p1_came, .ref a_p1_under, .ref a_p1_due])), (a_p1_came, .inl (cI, 8, .inl z_p1_came)), (a_borne, .inl (cI, 512, .inl z_borne)), (a_folk, .inr (0, [.int z_folk_planks, .int z_folk_size, .int z_folk_sworn, .ref a_folk_bank, .ref a_folk_kind, .ref a_folk_word, .ref a_folk_slow, .ref a_folk_told]))] [.ref a_this, .ref a_p1, .int p2]) (roQ (some (.int r))) 0 0 (fun _ => False) := by
  refine Met.ofW (cc := cX7_bridge) (maxL := 5) (ret := (some .int)) (by decide) rfl ?_
  intro p e s m args below meth c s₁ B hml hv
  obtain ⟨rfl, hP, hKW⟩ := hv
  have hx := B.exec
  have hb := B.bytes
  have hr := B.returns
  have hts : ∀ w ∈ TB, w.before ([.ref a_this, .ref a_p1, .int p2] : List Value).toArray s = true := fun w h => atoms_spec (ws := .code yX7_bridge cX7_bridge 5 (some .int) :: TB) B.pre w (List.mem_cons_of_mem _ h)
  have hown : s.vm.findClass RX7 = some m.cls := findClass_of_methodNamed B.named
  have hlocks := B.notSynchronized
  have hK := hKW.1
  have hl := lv_entry [.ref a_this, .ref a_p1, .int p2] (n := 5) (Nat.le_of_ble_eq_true rfl)
  rw [lg_entry_eq]
  generalize (lg_sl [.ref a_this, .ref a_p1, .int p2] ++ List.replicate (5 - (lg_sl [.ref a_this, .ref a_p1, .int p2]).length) Slot.unset).toArray = ls at hl ⊢
  have hl : lv_has ls 5 [(0, .ref a_this), (1, .ref a_p1), (2, .int p2)] := hl
  show W p l e ({ frames := 1, cells := 0, slots := 0, locals := 22 } : Room) s m ([.ref a_this, .ref a_p1, .int p2] : List Value).toArray below meth c s.heap [] 0 0 (MQ below (roQ (some (.int r))) ([.ref a_this, .ref a_p1, .int p2] : List Value).toArray s 0 0 (fun _ => False)) (F0 m 0 ls [])
  have hB19 : ∀ (n19 : Nat) (l2 : Int32) (l3 : Int32) (l4 : Int32) (ls : Array Slot), lv_has ls 5 [(0, .ref a_this), (1, .ref a_p1), (2, .int l2), (3, .int l3), (4, .int l4)] → fX7_bridge_b19 fu z_p1_came z_borne z_folk_planks n19 l2 l3 l4 = some (r) → W p l e ({ frames := 1, cells := 0, slots := 0, locals := 22 } : Room) s m ([.ref a_this, .ref a_p1, .int p2] : List Value).toArray below meth c s.heap [] 0 0 (MQ below (roQ (some (.int r))) ([.ref a_this, .ref a_p1, .int p2] : List Value).toArray s 0 0 (fun _ => False)) (F0 m 19 ls []) := by
    intro n19
    induction n19 with
    | zero => intro l2 l3 l4 ls hl hf; exact nn hf
    | succ n19 ih19 =>
      intro l2 l3 l4 ls hl hf
      replace hf : fX7_bridge_b19_body fu z_p1_came z_borne z_folk_planks (fX7_bridge_b19 fu z_p1_came z_borne z_folk_planks n19) l2 l3 l4 = some (r) := hf
      unfold fX7_bridge_b19_body at hf
      refine lv_iload hx hb dX7_bridge_19 (lv_at hl 4 rfl) ?_
      refine lv_aload_n hx hb dX7_bridge_21 rfl (lv_at hl 0 rfl) ?_
      refine va_get (D := D) (ci := 7) (v := .ref a_folk) (C := RX7) (T := TX7) (N := 2) hx hb hts inTX7 hown hK hP 0 rfl rfl 0 (by decide) (hts _ q155) (fun _ h9 => h9) rfl dX7_bridge_22 ?_
      refine va_get (D := D) (ci := 0) (v := .int z_folk_planks) (C := RX0) (T := TX0) (N := 8) hx hb hts inTX0 hown hK hP 4 rfl rfl 0 (by decide) (hts _ q76) (fun _ h9 => h9) rfl dX7_bridge_25 ?_
      refine lv_icmp_ge (tgt := 63) hx hb dX7_bridge_28 (by decide) (fun c3 => ?_) (fun c3 => ?_)
      · replace hf := it hf c3
        refine lv_iload_n hx hb dX7_bridge_63 rfl (lv_at hl 3 rfl) ?_
        cases hf
        exact W.iret hx hb hr (fun t ht _ => ⟨rfl, ht⟩) (fun q h => by cases h) dX7_bridge_64
      · replace hf := ie hf c3
        refine lv_iload_n hx hb dX7_bridge_31 rfl (lv_at hl 3 rfl) ?_
        refine lv_if_le (tgt := 63) hx hb dX7_bridge_32 (by decide) (fun c4 => ?_) (fun c4 => ?_)
        · replace hf := it hf c4
          refine lv_iload_n hx hb dX7_bridge_63 rfl (lv_at hl 3 rfl) ?_
          cases hf
          exact W.iret hx hb hr (fun t ht _ => ⟨rfl, ht⟩) (fun q h => by cases h) dX7_bridge_64
        · replace hf := ie hf c4
          refine lv_iload_n hx hb dX7_bridge_35 rfl (lv_at hl 3 rfl) ?_
          refine lv_aload_n hx hb dX7_bridge_36 rfl (lv_at hl 0 rfl) ?_
          refine lv_iload hx hb dX7_bridge_37 (lv_at hl 4 rfl) ?_
          refine lv_aload_n hx hb dX7_bridge_39 rfl (lv_at hl 1 rfl) ?_
          refine va_get (D := D) (ci := 5) (v := .ref a_p1_came) (C := RX5) (T := TX5) (N := 5) hx hb hts inTX5 hown hK hP 1 rfl rfl 2 (by decide) (hts _ q177) (fun _ h9 => h9) rfl dX7_bridge_40 ?_
          refine lv_iload hx hb dX7_bridge_43 (lv_at hl 4 rfl) ?_
          obtain ⟨v5, hv5, hf⟩ := ob hf
          refine x_iald hx hb hK hP 2 0 rfl rfl hv5 dX7_bridge_45 ?_
          refine lv_iload_n hx hb dX7_bridge_46 rfl (lv_at hl 2 rfl) ?_
          refine lv_iconst (v := -1) hx hb dX7_bridge_47 (by decide) ?_
          refine lv_ixor hx hb dX7_bridge_48 ?_
          refine lv_iand hx hb dX7_bridge_49 ?_
          obtain ⟨v6, hv6, hf⟩ := ob hf
          refine kX7_of hx hb hml hown hts hKW q538 (hP.sub [0, 3] rfl) hv6 hl.1 (Nat.le_of_ble_eq_true rfl) ⟨Nat.le_of_ble_eq_true rfl, Nat.le_of_ble_eq_true rfl⟩ ⟨Nat.zero_le _, Nat.zero_le _⟩ dX7_bridge_50 ?_
          refine x_min hx hb hml hl.1 hown hts q507 ⟨Nat.le_of_ble_eq_true rfl, Nat.le_of_ble_eq_true rfl⟩ ⟨Nat.zero_le _, Nat.zero_le _⟩ dX7_bridge_53 ?_
          refine lv_istore_n (lv' := [(3, .int (mn l3 v6)), (0, .ref a_this), (1, .ref a_p1), (2, .int l2), (4, .int l4)]) hx hb dX7_bridge_56 rfl hl (by decide) rfl (fun ls hl => ?_)
          refine lv_iinc (v := (l4 + 1)) (lv' := [(4, .int (l4 + 1)), (3, .int (mn l3 v6)), (0, .ref a_this), (1, .ref a_p1), (2, .int l2)]) hx hb dX7_bridge_57 hl (k := 4) rfl rfl (by decide) rfl (fun ls hl => ?_)
          refine lv_goto (tgt := 19) hx hb dX7_bridge_60 (by decide) ?_
          exact ih19 l2 (mn l3 v6) (l4 + 1) ls (lv_sub hl [2, 3, 4, 1, 0] rfl) hf
  unfold fX7_bridge at hf
  refine lv_aload_n hx hb dX7_bridge_0 rfl (lv_at hl 0 rfl) ?_
  refine lv_iconst (v := 0) hx hb dX7_bridge_1 (by decide) ?_
  refine lv_aload_n hx hb dX7_bridge_2 rfl (lv_at hl 1 rfl) ?_
  refine va_get (D := D) (ci := 5) (v := .ref a_p1_came) (C := RX5) (T := TX5) (N := 5) hx hb hts inTX5 hown hK hP 1 rfl rfl 2 (by decide) (hts _ q177) (fun _ h9 => h9) rfl dX7_bridge_3 ?_
  refine lv_iconst (v := 0) hx hb dX7_bridge_6 (by decide) ?_
  obtain ⟨v1, hv1, hf⟩ := ob hf
  refine x_iald hx hb hK hP 2 0 rfl rfl hv1 dX7_bridge_7 ?_
  refine lv_iload_n hx hb dX7_bridge_8 rfl (lv_at hl 2 rfl) ?_
  refine lv_iconst (v := -1) hx hb dX7_bridge_9 (by decide) ?_
  refine lv_ixor hx hb dX7_bridge_10 ?_
  refine lv_iand hx hb dX7_bridge_11 ?_
  obtain ⟨v2, hv2, hf⟩ := ob hf
  refine kX7_of hx hb hml hown hts hKW q538 (hP.sub [0, 3] rfl) hv2 hl.1 (Nat.le_of_ble_eq_true rfl) ⟨Nat.le_of_ble_eq_true rfl, Nat.le_of_ble_eq_true rfl⟩ ⟨Nat.zero_le _, Nat.zero_le _⟩ dX7_bridge_12 ?_
  refine lv_istore_n (lv' := [(3, .int v2), (0, .ref a_this), (1, .ref a_p1), (2, .int p2)]) hx hb dX7_bridge_15 rfl hl (by decide) rfl (fun ls hl => ?_)
  refine lv_iconst (v := 1) hx hb dX7_bridge_16 (by decide) ?_
  refine lv_istore (lv' := [(4, .int 1), (3, .int v2), (0, .ref a_this), (1, .ref a_p1), (2, .int p2)]) hx hb dX7_bridge_17 hl (by decide) rfl (fun ls hl => ?_)
  exact hB19 fu p2 v2 1 ls (lv_sub hl [2, 3, 4, 1, 0] rfl) hf
theorem kX7_bridge {p : Program} {l : Launch} {e : Env} {R : Room} {s : State} {m : MethodId} {args : Array Value} {below : List Frame} {meth : Method} {c : Code} {H : Heap} {locs : List Loc} {cells slots : Nat} {Q : State → Prop} {cc : ByteArray} {nL pc index : Nat} {ls : Array Slot} {rest : List Value} {own : String} {D : va_G} {cI cZ cQ : ClassId} {a_this a_folk a_borne a_p1 a_p1_came a_p1_under a_p1_due a_folk_bank a_folk_kind a_folk_word a_folk_slow a_folk_told : Nat} {z_p1_day z_p1_crossed z_folk_planks z_folk_size z_folk_sworn p2 : Int32} {z_p1_came z_borne : Nat → Int32} {fu : Nat} {r : Int32} (hx : p.tables.exec = Jvm.exec) (hb : c.code = cc) (hml : c.maxLocals = nL) (hown : s.vm.findClass own = some m.cls) (hts : ∀ w ∈ TB, w.before args s = true) (hKW : KW D (TY cI cZ cQ) s) (hlk : Cond.methodLink own index yX7_bridge ∈ TB) (hP : va_P D vwCl [(a_this, .inr (7, [.ref a_folk, .ref a_borne])), (a_p1, .inr (5, [.int z_p1_day, .int z_p1_crossed, .ref a_p1_came, .ref a_p1_under, .ref a_p1_due])), (a_p1_came, .inl (cI, 8, .inl z_p1_came)), (a_borne, .inl (cI, 512, .inl z_borne)), (a_folk, .inr (0, [.int z_folk_planks, .int z_folk_size, .int z_folk_sworn, .ref a_folk_bank, .ref a_folk_kind, .ref a_folk_word, .ref a_folk_slow, .ref a_folk_told]))] H) (hf : fX7_bridge fu z_p1_came z_borne z_folk_planks p2 = some (r)) (hn : ls.size = nL) (hW : (rest.map fun v => v.category).sum ≤ 8) (hR : 1 + 1 ≤ R.frames ∧ 8 + (5 + 11) + 22 ≤ R.locals) (hcs : cells ≤ R.cells ∧ slots ≤ R.slots) (hdg : decode cc pc = .ok (.invokevirtual index, 3)) (kk : W p l e R s m args below meth c H locs cells slots Q (F0 m (pc + 3) ls (.int r :: rest))) : W p l e R s m args below meth c H locs cells slots Q (F0 m pc ls (.int p2 :: .ref a_p1 :: .ref a_this :: rest)) :=
  x_ret (va_runV (As := [.ref a_p1, .int p2]) (rest := rest) ⟨hx, hb, hml, hown, hts⟩ (tX7_bridge hf) (cwV 2 hts (tb_V hlk q543 q544 q42 q545) rfl rfl rfl (by decide +kernel) hR) ⟨roB, va_recv hKW.1 hP (ci := 7) (q0 := 0) rfl rfl, fun U hU hW => ⟨rfl, by rw [hU]; exact hP, hKW.warm hW⟩⟩ rfl rfl hn rfl (lv_room hW) hdg hcs) kk

-- HalfPlanks$Strength.standing(III)I
set_option maxHeartbeats 4000000 in
set_option maxRecDepth 100000 in
theorem tX7_standing {l : Launch} {D : va_G} {cI cZ cQ : ClassId} {a_this a_folk a_borne a_folk_bank a_folk_kind a_folk_word a_folk_slow a_folk_told : Nat} {z_folk_planks z_folk_size z_folk_sworn p1 p2 p3 : Int32} {z_folk_bank z_folk_kind z_folk_word : Nat → Int32} {fu : Nat} {r : Int32} (hf : fX7_standing fu z_folk_size z_folk_bank z_folk_kind z_folk_word z_folk_sworn p1 p2 p3 = some (r)) : Met l yX7_standing (.code yX7_standing cX7_standing 7 (some .int) :: TB) ({ frames := 2, cells := 0, slots := 0, locals := 45 } : Room) (roP D (TY cI cZ cQ) [(a_this, .inr (7, [.ref a_folk, .ref a_borne])), (a_folk, .inr (0, [.int z_folk_planks, .int z_folk_size, .int z_folk_sworn, .ref a_folk_bank, .ref a_folk_kind, .ref a_folk_word, .ref a_folk_slow, .ref a_folk_told])), (a_folk_bank, .inl (cI, 8, .inl z_folk_bank)), (a_folk_kind, .inl (cI, 8, .inl z_folk_kind)), (a_folk_word, .inl (cI, 8, .inl z_folk_word))] [.ref a_this, .int p1, .int p2, .int p3]) (roQ (some (.int r))) 0 0 (fun _ => False) := by
  refine Met.ofW (cc := cX7_standing) (maxL := 7) (ret := (some .int)) (by decide) rfl ?_
  intro p e s m args below meth c s₁ B hml hv
  obtain ⟨rfl, hP, hKW⟩ := hv
  have hx := B.exec
  have hb := B.bytes
  have hr := B.returns
  have hts : ∀ w ∈ TB, w.before ([.ref a_this, .int p1, .int p2, .int p3] : List Value).toArray s = true := fun w h => atoms_spec (ws := .code yX7_standing cX7_standing 7 (some .int) :: TB) B.pre w (List.mem_cons_of_mem _ h)
  have hown : s.vm.findClass RX7 = some m.cls := findClass_of_methodNamed B.named
  have hlocks := B.notSynchronized
  have hK := hKW.1
  have hl := lv_entry [.ref a_this, .int p1, .int p2, .int p3] (n := 7) (Nat.le_of_ble_eq_true rfl)
  rw [lg_entry_eq]
  generalize (lg_sl [.ref a_this, .int p1, .int p2, .int p3] ++ List.replicate (7 - (lg_sl [.ref a_this, .int p1, .int p2, .int p3]).length) Slot.unset).toArray = ls at hl ⊢
  have hl : lv_has ls 7 [(0, .ref a_this), (1, .int p1), (2, .int p2), (3, .int p3)] := hl
  show W p l e ({ frames := 2, cells := 0, slots := 0, locals := 45 } : Room) s m ([.ref a_this, .int p1, .int p2, .int p3] : List Value).toArray below meth c s.heap [] 0 0 (MQ below (roQ (some (.int r))) ([.ref a_this, .int p1, .int p2, .int p3] : List Value).toArray s 0 0 (fun _ => False)) (F0 m 0 ls [])
  have hB6 : ∀ (n6 : Nat) (l1 : Int32) (l2 : Int32) (l3 : Int32) (l4 : Int32) (l5 : Int32) (ls : Array Slot), lv_has ls 7 [(0, .ref a_this), (1, .int l1), (2, .int l2), (3, .int l3), (4, .int l4), (5, .int l5)] → fX7_standing_b6 fu z_folk_size z_folk_bank z_folk_kind z_folk_word z_folk_sworn n6 l1 l2 l3 l4 l5 = some (r) → W p l e ({ frames := 2, cells := 0, slots := 0, locals := 45 } : Room) s m ([.ref a_this, .int p1, .int p2, .int p3] : List Value).toArray below meth c s.heap [] 0 0 (MQ below (roQ (some (.int r))) ([.ref a_this, .int p1, .int p2, .int p3] : List Value).toArray s 0 0 (fun _ => False)) (F0 m 6 ls []) := by
    intro n6
    induction n6 with
    | zero => intro l1 l2 l3 l4 l5 ls hl hf; exact nn hf
    | succ n6 ih6 =>
      have hB51 : ∀ (l1 : Int32) (l2 : Int32) (l3 : Int32) (l4 : Int32) (l5 : Int32) (s0 : Int32) (ls : Array Slot), lv_has ls 7 [(0, .ref a_this), (1, .int l1), (2, .int l2), (3, .int l3), (4, .int l4), (5, .int l5)] → fX7_standing_b51 fu z_folk_size z_folk_bank z_folk_kind z_folk_word z_folk_sworn (fX7_standing_b6 fu z_folk_size z_folk_bank z_folk_kind z_folk_word z_folk_sworn n6) l1 l2 l3 l4 l5 s0 = some (r) → W p l e ({ frames := 2, cells := 0, slots := 0, locals := 45 } : Room) s m ([.ref a_this, .int p1, .int p2, .int p3] : List Value).toArray below meth c s.heap [] 0 0 (MQ below (roQ (some (.int r))) ([.ref a_this, .int p1, .int p2, .int p3] : List Value).toArray s 0 0 (fun _ => False)) (F0 m 51 ls [.int s0]) := by
        intro l1 l2 l3 l4 l5 s0 ls hl hf
        unfold fX7_standing_b51 at hf
        refine lv_istore (lv' := [(6, .int s0), (0, .ref a_this), (1, .int l1), (2, .int l2), (3, .int l3), (4, .int l4), (5, .int l5)]) hx hb dX7_standing_51 hl (by decide) rfl (fun ls hl => ?_)
        refine lv_iload_n hx hb dX7_standing_53 rfl (lv_at hl 3 rfl) ?_
        refine lv_iload hx hb dX7_standing_54 (lv_at hl 6 rfl) ?_
        obtain ⟨v4, hv4, hf⟩ := ob hf
        refine knX8_has hx hb hml hown hts hKW (hKW.2 ("HalfPlanks$Strength", 33, yX8_has, "HalfPlanks") (by decide +kernel))  hv4 hl.1 (Nat.le_of_ble_eq_true rfl) ⟨Nat.le_of_ble_eq_true rfl, Nat.le_of_ble_eq_true rfl⟩ ⟨Nat.zero_le _, Nat.zero_le _⟩ dX7_standing_56 ?_
        refine lv_if_eq (tgt := 100) hx hb dX7_standing_59 (by decide) (fun c5 => ?_) (fun c5 => ?_)
        · replace hf := it hf c5
          refine lv_iinc (v := (l5 + 1)) (lv' := [(5, .int (l5 + 1)), (6, .int s0), (0, .ref a_this), (1, .int l1), (2, .int l2), (3, .int l3), (4, .int l4)]) hx hb dX7_standing_100 hl (k := 6) rfl rfl (by decide) rfl (fun ls hl => ?_)
          refine lv_goto (tgt := 6) hx hb dX7_standing_103 (by decide) ?_
          exact ih6 l1 l2 l3 l4 (l5 + 1) ls (lv_sub hl [2, 3, 4, 5, 6, 0] rfl) hf
        · replace hf := ie hf c5
          refine lv_iload hx hb dX7_standing_62 (lv_at hl 0 rfl) ?_
          refine lv_if_eq (tgt := 100) hx hb dX7_standing_64 (by decide) (fun c6 => ?_) (fun c6 => ?_)
          · replace hf := it hf c6
            refine lv_iinc (v := (l5 + 1)) (lv' := [(5, .int (l5 + 1)), (6, .int s0), (0, .ref a_this), (1, .int l1), (2, .int l2), (3, .int l3), (4, .int l4)]) hx hb dX7_standing_100 hl (k := 6) rfl rfl (by decide) rfl (fun ls hl => ?_)
            refine lv_goto (tgt := 6) hx hb dX7_standing_103 (by decide) ?_
            exact ih6 l1 l2 l3 l4 (l5 + 1) ls (lv_sub hl [2, 3, 4, 5, 6, 0] rfl) hf
          · replace hf := ie hf c6
            refine lv_aload_n hx hb dX7_standing_67 rfl (lv_at hl 1 rfl) ?_
            refine va_get (D := D) (ci := 7) (v := .ref a_folk) (C := RX7) (T := TX7) (N := 2) hx hb hts inTX7 hown hK hP 0 rfl rfl 0 (by decide) (hts _ q155) (fun _ h9 => h9) rfl dX7_standing_68 ?_
            refine lv_iload hx hb dX7_standing_71 (lv_at hl 6 rfl) ?_
            refine lv_aload_n hx hb dX7_standing_73 rfl (lv_at hl 1 rfl) ?_
            refine va_get (D := D) (ci := 7) (v := .ref a_folk) (C := RX7) (T := TX7) (N := 2) hx hb hts inTX7 hown hK hP 0 rfl rfl 0 (by decide) (hts _ q155) (fun _ h9 => h9) rfl dX7_standing_74 ?_
            refine va_get (D := D) (ci := 0) (v := .ref a_folk_word) (C := RX0) (T := TX0) (N := 8) hx hb hts inTX0 hown hK hP 1 rfl rfl 5 (by decide) (hts _ q94) (fun _ h9 => h9) rfl dX7_standing_77 ?_
            refine lv_iload hx hb dX7_standing_80 (lv_at hl 6 rfl) ?_
            obtain ⟨v7, hv7, hf⟩ := ob hf
            refine x_iald hx hb hK hP 4 0 rfl rfl hv7 dX7_standing_82 ?_
            refine lv_iload_n hx hb dX7_standing_83 rfl (lv_at hl 2 rfl) ?_
            refine lv_iload_n hx hb dX7_standing_84 rfl (lv_at hl 3 rfl) ?_
            obtain ⟨v8, hv8, hf⟩ := ob hf
            refine kX0_holdBy hx hb hml hown hts hKW q502 (hP.sub [1, 3] rfl) hv8 hl.1 (Nat.le_of_ble_eq_true rfl) ⟨Nat.le_of_ble_eq_true rfl, Nat.le_of_ble_eq_true rfl⟩ ⟨Nat.zero_le _, Nat.zero_le _⟩ dX7_standing_85 ?_
            refine lv_if_le (tgt := 100) hx hb dX7_standing_88 (by decide) (fun c9 => ?_) (fun c9 => ?_)
            · replace hf := it hf c9
              refine lv_iinc (v := (l5 + 1)) (lv' := [(5, .int (l5 + 1)), (6, .int s0), (0, .ref a_this), (1, .int l1), (2, .int l2), (3, .int l3), (4, .int l4)]) hx hb dX7_standing_100 hl (k := 6) rfl rfl (by decide) rfl (fun ls hl => ?_)
              refine lv_goto (tgt := 6) hx hb dX7_standing_103 (by decide) ?_
              exact ih6 l1 l2 l3 l4 (l5 + 1) ls (lv_sub hl [2, 3, 4, 5, 6, 0] rfl) hf
            · replace hf := ie hf c9
              refine lv_iload hx hb dX7_standing_91 (lv_at hl 5 rfl) ?_
              refine lv_iconst (v := 1) hx hb dX7_standing_93 (by decide) ?_
              refine lv_iload hx hb dX7_standing_94 (lv_at hl 6 rfl) ?_
              refine lv_ishl hx hb dX7_standing_96 ?_
              refine lv_ior hx hb dX7_standing_97 ?_
              refine lv_istore (lv' := [(4, .int (l4 ||| ((1 : Int32) <<< (l5 &&& 31)))), (6, .int s0), (0, .ref a_this), (1, .int l1), (2, .int l2), (3, .int l3), (5, .int l5)]) hx hb dX7_standing_98 hl (by decide) rfl (fun ls hl => ?_)
              refine lv_iinc (v := (l5 + 1)) (lv' := [(5, .int (l5 + 1)), (4, .int (l4 ||| ((1 : Int32) <<< (l5 &&& 31)))), (6, .int s0), (0, .ref a_this), (1, .int l1), (2, .int l2), (3, .int l3)]) hx hb dX7_standing_100 hl (k := 6) rfl rfl (by decide) rfl (fun ls hl => ?_)
              refine lv_goto (tgt := 6) hx hb dX7_standing_103 (by decide) ?_
              exact ih6 l1 l2 l3 (l4 ||| ((1 : Int32) <<< (l5 &&& 31))) (l5 + 1) ls (lv_sub hl [3, 4, 5, 6, 1, 0] rfl) hf
      intro l1 l2 l3 l4 l5 ls hl hf
      replace hf : fX7_standing_b6_body fu z_folk_size z_folk_bank z_folk_kind z_folk_word z_folk_sworn (fX7_standing_b6 fu z_folk_size z_folk_bank z_folk_kind z_folk_word z_folk_sworn n6) l1 l2 l3 l4 l5 = some (r) := hf
      unfold fX7_standing_b6_body at hf
      refine lv_iload hx hb dX7_standing_6 (lv_at hl 5 rfl) ?_
      refine lv_aload_n hx hb dX7_standing_8 rfl (lv_at hl 0 rfl) ?_
      refine va_get (D := D) (ci := 7) (v := .ref a_folk) (C := RX7) (T := TX7) (N := 2) hx hb hts inTX7 hown hK hP 0 rfl rfl 0 (by decide) (hts _ q155) (fun _ h9 => h9) rfl dX7_standing_9 ?_
      refine va_get (D := D) (ci := 0) (v := .int z_folk_size) (C := RX0) (T := TX0) (N := 8) hx hb hts inTX0 hown hK hP 1 rfl rfl 1 (by decide) (hts _ q80) (fun _ h9 => h9) rfl dX7_standing_12 ?_
      refine lv_icmp_ge (tgt := 106) hx hb dX7_standing_15 (by decide) (fun c1 => ?_) (fun c1 => ?_)
      · replace hf := it hf c1
        refine lv_iload hx hb dX7_standing_106 (lv_at hl 4 rfl) ?_
        cases hf
        exact W.iret hx hb hr (fun t ht _ => ⟨rfl, ht⟩) (fun q h => by cases h) dX7_standing_108
      · replace hf := ie hf c1
        refine lv_aload_n hx hb dX7_standing_18 rfl (lv_at hl 0 rfl) ?_
        refine va_get (D := D) (ci := 7) (v := .ref a_folk) (C := RX7) (T := TX7) (N := 2) hx hb hts inTX7 hown hK hP 0 rfl rfl 0 (by decide) (hts _ q155) (fun _ h9 => h9) rfl dX7_standing_19 ?_
        refine va_get (D := D) (ci := 0) (v := .ref a_folk_bank) (C := RX0) (T := TX0) (N := 8) hx hb hts inTX0 hown hK hP 1 rfl rfl 3 (by decide) (hts _ q87) (fun _ h9 => h9) rfl dX7_standing_22 ?_
        refine lv_iload hx hb dX7_standing_25 (lv_at hl 5 rfl) ?_
        obtain ⟨v2, hv2, hf⟩ := ob hf
        refine x_iald hx hb hK hP 2 0 rfl rfl hv2 dX7_standing_27 ?_
        refine lv_iload_n hx hb dX7_standing_28 rfl (lv_at hl 3 rfl) ?_
        refine lv_icmp_eq (tgt := 46) hx hb dX7_standing_29 (by decide) (fun c3 => ?_) (fun c3 => ?_)
        · replace hf := it hf c3
          refine lv_iconst (v := 1) hx hb dX7_standing_46 (by decide) ?_
          refine lv_goto (tgt := 51) hx hb dX7_standing_47 (by decide) ?_
          exact hB51 l1 l2 l3 l4 l5 1 ls (lv_sub hl [0, 1, 2, 3, 4, 5] rfl) hf
        · replace hf := ie hf c3
          refine lv_aload_n hx hb dX7_standing_32 rfl (lv_at hl 0 rfl) ?_
          refine va_get (D := D) (ci := 7) (v := .ref a_folk) (C := RX7) (T := TX7) (N := 2) hx hb hts inTX7 hown hK hP 0 rfl rfl 0 (by decide) (hts _ q155) (fun _ h9 => h9) rfl dX7_standing_33 ?_
          refine va_get (D := D) (ci := 0) (v := .ref a_folk_kind) (C := RX0) (T := TX0) (N := 8) hx hb hts inTX0 hown hK hP 1 rfl rfl 4 (by decide) (hts _ q91) (fun _ h9 => h9) rfl dX7_standing_36 ?_
          refine lv_iload hx hb dX7_standing_39 (lv_at hl 5 rfl) ?_
          obtain ⟨v10, hv10, hf⟩ := ob hf
          refine x_iald hx hb hK hP 3 0 rfl rfl hv10 dX7_standing_41 ?_
          refine lv_iconst (v := 3) hx hb dX7_standing_42 (by decide) ?_
          refine lv_icmp_ne (tgt := 50) hx hb dX7_standing_43 (by decide) (fun c11 => ?_) (fun c11 => ?_)
          · replace hf := ie hf c11
            refine lv_iconst (v := 0) hx hb dX7_standing_50 (by decide) ?_
            exact hB51 l1 l2 l3 l4 l5 0 ls (lv_sub hl [0, 1, 2, 3, 4, 5] rfl) hf
          · replace hf := it hf c11
            refine lv_iconst (v := 1) hx hb dX7_standing_46 (by decide) ?_
            refine lv_goto (tgt := 51) hx hb dX7_standing_47 (by decide) ?_
            exact hB51 l1 l2 l3 l4 l5 1 ls (lv_sub hl [0, 1, 2, 3, 4, 5] rfl) hf
  unfold fX7_standing at hf
  refine lv_iconst (v := 0) hx hb dX7_standing_0 (by decide) ?_
  refine lv_istore (lv' := [(4, .int 0), (0, .ref a_this), (1, .int p1), (2, .int p2), (3, .int p3)]) hx hb dX7_standing_1 hl (by decide) rfl (fun ls hl => ?_)
  refine lv_iconst (v := 0) hx hb dX7_standing_3 (by decide) ?_
  refine lv_istore (lv' := [(5, .int 0), (4, .int 0), (0, .ref a_this), (1, .int p1), (2, .int p2), (3, .int p3)]) hx hb dX7_standing_4 hl (by decide) rfl (fun ls hl => ?_)
  exact hB6 fu p1 p2 p3 0 0 ls (lv_sub hl [2, 3, 4, 5, 1, 0] rfl) hf
theorem kX7_standing {p : Program} {l : Launch} {e : Env} {R : Room} {s : State} {m : MethodId} {args : Array Value} {below : List Frame} {meth : Method} {c : Code} {H : Heap} {locs : List Loc} {cells slots : Nat} {Q : State → Prop} {cc : ByteArray} {nL pc index : Nat} {ls : Array Slot} {rest : List Value} {own : String} {D : va_G} {cI cZ cQ : ClassId} {a_this a_folk a_borne a_folk_bank a_folk_kind a_folk_word a_folk_slow a_folk_told : Nat} {z_folk_planks z_folk_size z_folk_sworn p1 p2 p3 : Int32} {z_folk_bank z_folk_kind z_folk_word : Nat → Int32} {fu : Nat} {r : Int32} (hx : p.tables.exec = Jvm.exec) (hb : c.code = cc) (hml : c.maxLocals = nL) (hown : s.vm.findClass own = some m.cls) (hts : ∀ w ∈ TB, w.before args s = true) (hKW : KW D (TY cI cZ cQ) s) (hlk : Cond.methodLink own index yX7_standing ∈ TB) (hP : va_P D vwCl [(a_this, .inr (7, [.ref a_folk, .ref a_borne])), (a_folk, .inr (0, [.int z_folk_planks, .int z_folk_size, .int z_folk_sworn, .ref a_folk_bank, .ref a_folk_kind, .ref a_folk_word, .ref a_folk_slow, .ref a_folk_told])), (a_folk_bank, .inl (cI, 8, .inl z_folk_bank)), (a_folk_kind, .inl (cI, 8, .inl z_folk_kind)), (a_folk_word, .inl (cI, 8, .inl z_folk_word))] H) (hf : fX7_standing fu z_folk_size z_folk_bank z_folk_kind z_folk_word z_folk_sworn p1 p2 p3 = some (r)) (hn : ls.size = nL) (hW : (rest.map fun v => v.category).sum ≤ 8) (hR : 2 + 1 ≤ R.frames ∧ 8 + (7 + 11) + 45 ≤ R.locals) (hcs : cells ≤ R.cells ∧ slots ≤ R.slots) (hdg : decode cc pc = .ok (.invokevirtual index, 3)) (kk : W p l e R s m args below meth c H locs cells slots Q (F0 m (pc + 3) ls (.int r :: rest))) : W p l e R s m args below meth c H locs cells slots Q (F0 m pc ls (.int p3 :: .int p2 :: .int p1 :: .ref a_this :: rest)) :=
  x_ret (va_runV (As := [.int p1, .int p2, .int p3]) (rest := rest) ⟨hx, hb, hml, hown, hts⟩ (tX7_standing hf) (cwV 3 hts (tb_V hlk q557 q558 q42 q559) rfl rfl rfl (by decide +kernel) hR) ⟨roB, va_recv hKW.1 hP (ci := 7) (q0 := 0) rfl rfl, fun U hU hW => ⟨rfl, by rw [hU]; exact hP, hKW.warm hW⟩⟩ rfl rfl hn rfl (lv_room hW) hdg hcs) kk

-- HalfPlanks$Strength.lying(LHalfPlanks$Promises;)I
set_option maxHeartbeats 4000000 in
set_option maxRecDepth 100000 in
theorem tX7_lying {l : Launch} {D : va_G} {cI cZ cQ : ClassId} {a_this a_folk a_borne a_folk_bank a_folk_kind a_folk_word a_folk_slow a_folk_told a_p1 a_p1_came a_p1_under a_p1_due : Nat} {z_folk_planks z_folk_size z_folk_sworn z_p1_day z_p1_crossed : Int32} {z_p1_came z_borne : Nat → Int32} {fu : Nat} {r : Int32} (hf : fX7_lying fu z_folk_planks z_p1_came z_borne = some (r)) : Met l yX7_lying (.code yX7_lying cX7_lying 4 (some .int) :: TB) ({ frames := 1, cells := 0, slots := 0, locals := 22 } : Room) (roP D (TY cI cZ cQ) [(a_this, .inr (7, [.ref a_folk, .ref a_borne])), (a_folk, .inr (0, [.int z_folk_planks, .int z_folk_size, .int z_folk_sworn, .ref a_folk_bank, .ref a_folk_kind, .ref a_folk_word, .ref a_folk_slow, .ref a_folk_told])), (a_p1, .inr (5, [.int z_p1_day, .int z_p1_crossed, .ref a_p1_came, .ref a_p1_under, .ref a_p1_due])), (a_p1_came, .inl (cI, 8, .inl z_p1_came)), (a_borne, .inl (cI, 512, .inl z_borne))] [.ref a_this, .ref a_p1]) (roQ (some (.int r))) 0 0 (fun _ => False) := by
  refine Met.ofW (cc := cX7_lying) (maxL := 4) (ret := (some .int)) (by decide) rfl ?_
  intro p e s m args below meth c s₁ B hml hv
  obtain ⟨rfl, hP, hKW⟩ := hv
  have hx := B.exec
  have hb := B.bytes
  have hr := B.returns
  have hts : ∀ w ∈ TB, w.before ([.ref a_this, .ref a_p1] : List Value).toArray s = true := fun w h => atoms_spec (ws := .code yX7_lying cX7_lying 4 (some .int) :: TB) B.pre w (List.mem_cons_of_mem _ h)
  have hown : s.vm.findClass RX7 = some m.cls := findClass_of_methodNamed B.named
  have hlocks := B.notSynchronized
  have hK := hKW.1
  have hl := lv_entry [.ref a_this, .ref a_p1] (n := 4) (Nat.le_of_ble_eq_true rfl)
  rw [lg_entry_eq]
  generalize (lg_sl [.ref a_this, .ref a_p1] ++ List.replicate (4 - (lg_sl [.ref a_this, .ref a_p1]).length) Slot.unset).toArray = ls at hl ⊢
  have hl : lv_has ls 4 [(0, .ref a_this), (1, .ref a_p1)] := hl
  show W p l e ({ frames := 1, cells := 0, slots := 0, locals := 22 } : Room) s m ([.ref a_this, .ref a_p1] : List Value).toArray below meth c s.heap [] 0 0 (MQ below (roQ (some (.int r))) ([.ref a_this, .ref a_p1] : List Value).toArray s 0 0 (fun _ => False)) (F0 m 0 ls [])
  have hB4 : ∀ (n4 : Nat) (l2 : Int32) (l3 : Int32) (ls : Array Slot), lv_has ls 4 [(0, .ref a_this), (1, .ref a_p1), (2, .int l2), (3, .int l3)] → fX7_lying_b4 fu z_folk_planks z_p1_came z_borne n4 l2 l3 = some (r) → W p l e ({ frames := 1, cells := 0, slots := 0, locals := 22 } : Room) s m ([.ref a_this, .ref a_p1] : List Value).toArray below meth c s.heap [] 0 0 (MQ below (roQ (some (.int r))) ([.ref a_this, .ref a_p1] : List Value).toArray s 0 0 (fun _ => False)) (F0 m 4 ls []) := by
    intro n4
    induction n4 with
    | zero => intro l2 l3 ls hl hf; exact nn hf
    | succ n4 ih4 =>
      intro l2 l3 ls hl hf
      replace hf : fX7_lying_b4_body fu z_folk_planks z_p1_came z_borne (fX7_lying_b4 fu z_folk_planks z_p1_came z_borne n4) l2 l3 = some (r) := hf
      unfold fX7_lying_b4_body at hf
      refine lv_iload_n hx hb dX7_lying_4 rfl (lv_at hl 3 rfl) ?_
      refine lv_aload_n hx hb dX7_lying_5 rfl (lv_at hl 0 rfl) ?_
      refine va_get (D := D) (ci := 7) (v := .ref a_folk) (C := RX7) (T := TX7) (N := 2) hx hb hts inTX7 hown hK hP 0 rfl rfl 0 (by decide) (hts _ q155) (fun _ h9 => h9) rfl dX7_lying_6 ?_
      refine va_get (D := D) (ci := 0) (v := .int z_folk_planks) (C := RX0) (T := TX0) (N := 8) hx hb hts inTX0 hown hK hP 1 rfl rfl 0 (by decide) (hts _ q76) (fun _ h9 => h9) rfl dX7_lying_9 ?_
      refine lv_icmp_ge (tgt := 41) hx hb dX7_lying_12 (by decide) (fun c1 => ?_) (fun c1 => ?_)
      · replace hf := it hf c1
        refine lv_iload_n hx hb dX7_lying_41 rfl (lv_at hl 2 rfl) ?_
        cases hf
        exact W.iret hx hb hr (fun t ht _ => ⟨rfl, ht⟩) (fun q h => by cases h) dX7_lying_42
      · replace hf := ie hf c1
        refine lv_aload_n hx hb dX7_lying_15 rfl (lv_at hl 0 rfl) ?_
        refine lv_iload_n hx hb dX7_lying_16 rfl (lv_at hl 3 rfl) ?_
        refine lv_aload_n hx hb dX7_lying_17 rfl (lv_at hl 1 rfl) ?_
        refine va_get (D := D) (ci := 5) (v := .ref a_p1_came) (C := RX5) (T := TX5) (N := 5) hx hb hts inTX5 hown hK hP 2 rfl rfl 2 (by decide) (hts _ q177) (fun _ h9 => h9) rfl dX7_lying_18 ?_
        refine lv_iload_n hx hb dX7_lying_21 rfl (lv_at hl 3 rfl) ?_
        obtain ⟨v2, hv2, hf⟩ := ob hf
        refine x_iald hx hb hK hP 3 0 rfl rfl hv2 dX7_lying_22 ?_
        obtain ⟨v3, hv3, hf⟩ := ob hf
        refine kX7_of hx hb hml hown hts hKW q538 (hP.sub [0, 4] rfl) hv3 hl.1 (Nat.le_of_ble_eq_true rfl) ⟨Nat.le_of_ble_eq_true rfl, Nat.le_of_ble_eq_true rfl⟩ ⟨Nat.zero_le _, Nat.zero_le _⟩ dX7_lying_23 ?_
        refine lv_if_le (tgt := 35) hx hb dX7_lying_26 (by decide) (fun c4 => ?_) (fun c4 => ?_)
        · replace hf := it hf c4
          refine lv_iinc (v := (l3 + 1)) (lv' := [(3, .int (l3 + 1)), (0, .ref a_this), (1, .ref a_p1), (2, .int l2)]) hx hb dX7_lying_35 hl (k := 3) rfl rfl (by decide) rfl (fun ls hl => ?_)
          refine lv_goto (tgt := 4) hx hb dX7_lying_38 (by decide) ?_
          exact ih4 l2 (l3 + 1) ls (lv_sub hl [1, 2, 3, 0] rfl) hf
        · replace hf := ie hf c4
          refine lv_iload_n hx hb dX7_lying_29 rfl (lv_at hl 2 rfl) ?_
          refine lv_iconst (v := 1) hx hb dX7_lying_30 (by decide) ?_
          refine lv_iload_n hx hb dX7_lying_31 rfl (lv_at hl 3 rfl) ?_
          refine lv_ishl hx hb dX7_lying_32 ?_
          refine lv_ior hx hb dX7_lying_33 ?_
          refine lv_istore_n (lv' := [(2, .int (l2 ||| ((1 : Int32) <<< (l3 &&& 31)))), (0, .ref a_this), (1, .ref a_p1), (3, .int l3)]) hx hb dX7_lying_34 rfl hl (by decide) rfl (fun ls hl => ?_)
          refine lv_iinc (v := (l3 + 1)) (lv' := [(3, .int (l3 + 1)), (2, .int (l2 ||| ((1 : Int32) <<< (l3 &&& 31)))), (0, .ref a_this), (1, .ref a_p1)]) hx hb dX7_lying_35 hl (k := 3) rfl rfl (by decide) rfl (fun ls hl => ?_)
          refine lv_goto (tgt := 4) hx hb dX7_lying_38 (by decide) ?_
          exact ih4 (l2 ||| ((1 : Int32) <<< (l3 &&& 31))) (l3 + 1) ls (lv_sub hl [2, 3, 1, 0] rfl) hf
  unfold fX7_lying at hf
  refine lv_iconst (v := 0) hx hb dX7_lying_0 (by decide) ?_
  refine lv_istore_n (lv' := [(2, .int 0), (0, .ref a_this), (1, .ref a_p1)]) hx hb dX7_lying_1 rfl hl (by decide) rfl (fun ls hl => ?_)
  refine lv_iconst (v := 0) hx hb dX7_lying_2 (by decide) ?_
  refine lv_istore_n (lv' := [(3, .int 0), (2, .int 0), (0, .ref a_this), (1, .ref a_p1)]) hx hb dX7_lying_3 rfl hl (by decide) rfl (fun ls hl => ?_)
  exact hB4 fu 0 0 ls (lv_sub hl [2, 3, 1, 0] rfl) hf
theorem kX7_lying {p : Program} {l : Launch} {e : Env} {R : Room} {s : State} {m : MethodId} {args : Array Value} {below : List Frame} {meth : Method} {c : Code} {H : Heap} {locs : List Loc} {cells slots : Nat} {Q : State → Prop} {cc : ByteArray} {nL pc index : Nat} {ls : Array Slot} {rest : List Value} {own : String} {D : va_G} {cI cZ cQ : ClassId} {a_this a_folk a_borne a_folk_bank a_folk_kind a_folk_word a_folk_slow a_folk_told a_p1 a_p1_came a_p1_under a_p1_due : Nat} {z_folk_planks z_folk_size z_folk_sworn z_p1_day z_p1_crossed : Int32} {z_p1_came z_borne : Nat → Int32} {fu : Nat} {r : Int32} (hx : p.tables.exec = Jvm.exec) (hb : c.code = cc) (hml : c.maxLocals = nL) (hown : s.vm.findClass own = some m.cls) (hts : ∀ w ∈ TB, w.before args s = true) (hKW : KW D (TY cI cZ cQ) s) (hlk : Cond.methodLink own index yX7_lying ∈ TB) (hP : va_P D vwCl [(a_this, .inr (7, [.ref a_folk, .ref a_borne])), (a_folk, .inr (0, [.int z_folk_planks, .int z_folk_size, .int z_folk_sworn, .ref a_folk_bank, .ref a_folk_kind, .ref a_folk_word, .ref a_folk_slow, .ref a_folk_told])), (a_p1, .inr (5, [.int z_p1_day, .int z_p1_crossed, .ref a_p1_came, .ref a_p1_under, .ref a_p1_due])), (a_p1_came, .inl (cI, 8, .inl z_p1_came)), (a_borne, .inl (cI, 512, .inl z_borne))] H) (hf : fX7_lying fu z_folk_planks z_p1_came z_borne = some (r)) (hn : ls.size = nL) (hW : (rest.map fun v => v.category).sum ≤ 8) (hR : 1 + 1 ≤ R.frames ∧ 8 + (4 + 11) + 22 ≤ R.locals) (hcs : cells ≤ R.cells ∧ slots ≤ R.slots) (hdg : decode cc pc = .ok (.invokevirtual index, 3)) (kk : W p l e R s m args below meth c H locs cells slots Q (F0 m (pc + 3) ls (.int r :: rest))) : W p l e R s m args below meth c H locs cells slots Q (F0 m pc ls (.ref a_p1 :: .ref a_this :: rest)) :=
  x_ret (va_runV (As := [.ref a_p1]) (rest := rest) ⟨hx, hb, hml, hown, hts⟩ (tX7_lying hf) (cwV 1 hts (tb_V hlk q570 q571 q42 q572) rfl rfl rfl (by decide +kernel) hR) ⟨roB, va_recv hKW.1 hP (ci := 7) (q0 := 0) rfl rfl, fun U hU hW => ⟨rfl, by rw [hU]; exact hP, hKW.warm hW⟩⟩ rfl rfl hn rfl (lv_room hW) hdg hcs) kk
