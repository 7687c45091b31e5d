-- HalfPlanks$Reader.takeNumber()V
set_option maxHeartbeats 4000000 in
set_option maxRecDepth 100000 in
theorem tX6_takeNumber {l : Launch} {D : va_G} {cI cZ cQ : ClassId} {a_this a_letters a_draft : Nat} {z_length z_at z_place z_token z_value : Int32} {z_letters : Nat → Int32} {fu : Nat} {o_z_at o_z_value o_z_token : Int32} (hf : fX6_takeNumber fu z_length z_letters z_place z_at z_value z_token = some (o_z_at, o_z_value, o_z_token)) : Met l yX6_takeNumber (.code yX6_takeNumber cX6_takeNumber 2 none :: TB) ({ frames := 0, cells := 0, slots := 0, locals := 0 } : Room) (rwP D (TY cI cZ cQ) [(a_this, .inr (6, [.ref a_letters, .ref a_draft, .int z_length, .int z_at, .int z_place, .int z_token, .int z_value])), (a_letters, .inl (cI, 120, .inl z_letters))] [.ref a_this]) (rwQ D none [(a_this, .inr (6, [.ref a_letters, .ref a_draft, .int z_length, .int o_z_at, .int z_place, .int o_z_token, .int o_z_value])), (a_letters, .inl (cI, 120, .inl z_letters))] (inW [(a_this, .inr (6, [.ref a_letters, .ref a_draft, .int z_length, .int z_at, .int z_place, .int z_token, .int z_value])), (a_letters, .inl (cI, 120, .inl z_letters))])) 0 0 (inW [(a_this, .inr (6, [.ref a_letters, .ref a_draft, .int z_length, .int z_at, .int z_place, .int z_token, .int z_value])), (a_letters, .inl (cI, 120, .inl z_letters))]) := by
  refine Met.ofW (cc := cX6_takeNumber) (maxL := 2) (ret := none) (by decide) rfl ?_
  intro p e s m args below meth c s₁ B hml hv
  obtain ⟨rfl, hP, hKW, hD0⟩ := hv
  have hx := B.exec
  have hb := B.bytes
  have hr := B.returns
  have hts : ∀ w ∈ TB, w.before ([.ref a_this] : List Value).toArray s = true := fun w h => atoms_spec (ws := .code yX6_takeNumber cX6_takeNumber 2 none :: TB) B.pre w (List.mem_cons_of_mem _ h)
  have hown : s.vm.findClass RX6 = some m.cls := findClass_of_methodNamed B.named
  have hlocks := B.notSynchronized
  have hK := hKW.1
  have hD := inW_D hD0
  generalize hAe : inW [(a_this, .inr (6, [.ref a_letters, .ref a_draft, .int z_length, .int z_at, .int z_place, .int z_token, .int z_value])), (a_letters, .inl (cI, 120, .inl z_letters))] = A at hD ⊢
  have hS : va_S A s.heap s.heap [] := va_S.rf
  have hl := lv_entry [.ref a_this] (n := 2) (Nat.le_of_ble_eq_true rfl)
  rw [lg_entry_eq]
  generalize (lg_sl [.ref a_this] ++ List.replicate (2 - (lg_sl [.ref a_this]).length) Slot.unset).toArray = ls at hl ⊢
  have hl : lv_has ls 2 [(0, .ref a_this)] := hl
  show W p l e ({ frames := 0, cells := 0, slots := 0, locals := 0 } : Room) s m ([.ref a_this] : List Value).toArray below meth c s.heap [] 0 0 (MQ below (rwQ D none [(a_this, .inr (6, [.ref a_letters, .ref a_draft, .int z_length, .int o_z_at, .int z_place, .int o_z_token, .int o_z_value])), (a_letters, .inl (cI, 120, .inl z_letters))] A) ([.ref a_this] : List Value).toArray s 0 0 A) (F0 m 0 ls [])
  have hP : va_P D vwCl [(a_this, .inr (6, [.ref a_letters, .ref a_draft, .int z_length, .int z_at, .int z_place, .int z_token, .int z_value])), (a_letters, .inl (cI, 120, .inl z_letters))] s.heap := hP
  have hD : va_D A [(a_this, .inr (6, [.ref a_letters, .ref a_draft, .int z_length, .int z_at, .int z_place, .int z_token, .int z_value])), (a_letters, .inl (cI, 120, .inl z_letters))] := hD
  have hB149 : ∀ (s0 : Int32) (z_at : Int32) (z_value : Int32) (z_token : Int32) (H : Heap) (locs : List Loc) (ls : Array Slot), va_P D vwCl [(a_this, .inr (6, [.ref a_letters, .ref a_draft, .int z_length, .int z_at, .int z_place, .int z_token, .int z_value])), (a_letters, .inl (cI, 120, .inl z_letters))] H → va_D A [(a_this, .inr (6, [.ref a_letters, .ref a_draft, .int z_length, .int z_at, .int z_place, .int z_token, .int z_value])), (a_letters, .inl (cI, 120, .inl z_letters))] → va_S A s.heap H locs → lv_has ls 2 [] → fX6_takeNumber_b149 fu z_length z_letters z_place s0 z_at z_value z_token = some (o_z_at, o_z_value, o_z_token) → W p l e ({ frames := 0, cells := 0, slots := 0, locals := 0 } : Room) s m ([.ref a_this] : List Value).toArray below meth c H locs 0 0 (MQ below (rwQ D none [(a_this, .inr (6, [.ref a_letters, .ref a_draft, .int z_length, .int o_z_at, .int z_place, .int o_z_token, .int o_z_value])), (a_letters, .inl (cI, 120, .inl z_letters))] A) ([.ref a_this] : List Value).toArray s 0 0 A) (F0 m 149 ls [.int s0, .ref a_this]) := by
    intro s0 z_at z_value z_token H locs ls hP hD hS hl hf
    unfold fX6_takeNumber_b149 at hf
    refine va_put (D := D) (ci := 6) (v := .int s0) (ty := .int) (C := RX6) (T := TX6) (N := 7) hx hb hts inTX6 tyX6 tyX6_ok nmX6 hown hK hP hD hS 0 rfl rfl 5 (by decide) (hts _ q132) (fun _ h9 => h9) rfl (by decide +kernel) rfl rfl (Nat.le_of_ble_eq_true rfl) dX6_takeNumber_149 (fun H locs hP hD hS => ?_)
    have hP : va_P D vwCl [(a_this, .inr (6, [.ref a_letters, .ref a_draft, .int z_length, .int z_at, .int z_place, .int s0, .int z_value])), (a_letters, .inl (cI, 120, .inl z_letters))] H := hP
    have hD : va_D A [(a_this, .inr (6, [.ref a_letters, .ref a_draft, .int z_length, .int z_at, .int z_place, .int s0, .int z_value])), (a_letters, .inl (cI, 120, .inl z_letters))] := hD
    cases hf
    exact W.vret hx hb hr (fun t ht _ => ⟨rfl, by rw [ht]; exact hP, hS.F ht⟩) hS.2.2 dX6_takeNumber_152
  have hB127 : ∀ (s0 : Int32) (z_at : Int32) (z_value : Int32) (z_token : Int32) (H : Heap) (locs : List Loc) (ls : Array Slot), va_P D vwCl [(a_this, .inr (6, [.ref a_letters, .ref a_draft, .int z_length, .int z_at, .int z_place, .int z_token, .int z_value])), (a_letters, .inl (cI, 120, .inl z_letters))] H → va_D A [(a_this, .inr (6, [.ref a_letters, .ref a_draft, .int z_length, .int z_at, .int z_place, .int z_token, .int z_value])), (a_letters, .inl (cI, 120, .inl z_letters))] → va_S A s.heap H locs → lv_has ls 2 [(0, .ref a_this)] → fX6_takeNumber_b127 fu z_length z_letters z_place s0 z_at z_value z_token = some (o_z_at, o_z_value, o_z_token) → W p l e ({ frames := 0, cells := 0, slots := 0, locals := 0 } : Room) s m ([.ref a_this] : List Value).toArray below meth c H locs 0 0 (MQ below (rwQ D none [(a_this, .inr (6, [.ref a_letters, .ref a_draft, .int z_length, .int o_z_at, .int z_place, .int o_z_token, .int o_z_value])), (a_letters, .inl (cI, 120, .inl z_letters))] A) ([.ref a_this] : List Value).toArray s 0 0 A) (F0 m 127 ls [.int s0]) := by
    intro s0 z_at z_value z_token H locs ls hP hD hS hl hf
    unfold fX6_takeNumber_b127 at hf
    refine lv_istore_n (lv' := [(1, .int s0), (0, .ref a_this)]) hx hb dX6_takeNumber_127 rfl hl (by decide) rfl (fun ls hl => ?_)
    refine lv_aload_n hx hb dX6_takeNumber_128 rfl (lv_at hl 1 rfl) ?_
    refine lv_aload_n hx hb dX6_takeNumber_129 rfl (lv_at hl 1 rfl) ?_
    refine va_get (D := D) (ci := 6) (v := .int z_value) (C := RX6) (T := TX6) (N := 7) hx hb hts inTX6 hown hK hP 0 rfl rfl 6 (by decide) (hts _ q133) (fun _ h9 => h9) rfl dX6_takeNumber_130 ?_
    refine lv_bipush (v := 99) hx hb dX6_takeNumber_133 (by decide) ?_
    refine lv_icmp_gt (tgt := 142) hx hb dX6_takeNumber_135 (by decide) (fun c3 => ?_) (fun c3 => ?_)
    · replace hf := it hf c3
      refine lv_bipush (v := -3) hx hb dX6_takeNumber_142 (by decide) ?_
      refine lv_goto (tgt := 149) hx hb dX6_takeNumber_144 (by decide) ?_
      exact hB149 (-3) z_at z_value z_token H locs ls hP hD hS (lv_sub hl [] rfl) hf
    · replace hf := ie hf c3
      refine lv_iload_n hx hb dX6_takeNumber_138 rfl (lv_at hl 0 rfl) ?_
      refine lv_if_eq (tgt := 147) hx hb dX6_takeNumber_139 (by decide) (fun c4 => ?_) (fun c4 => ?_)
      · replace hf := it hf c4
        refine lv_bipush (v := -2) hx hb dX6_takeNumber_147 (by decide) ?_
        exact hB149 (-2) z_at z_value z_token H locs ls hP hD hS (lv_sub hl [] rfl) hf
      · replace hf := ie hf c4
        refine lv_bipush (v := -3) hx hb dX6_takeNumber_142 (by decide) ?_
        refine lv_goto (tgt := 149) hx hb dX6_takeNumber_144 (by decide) ?_
        exact hB149 (-3) z_at z_value z_token H locs ls hP hD hS (lv_sub hl [] rfl) hf
  have hB95 : ∀ (z_at : Int32) (z_value : Int32) (z_token : Int32) (H : Heap) (locs : List Loc) (ls : Array Slot), va_P D vwCl [(a_this, .inr (6, [.ref a_letters, .ref a_draft, .int z_length, .int z_at, .int z_place, .int z_token, .int z_value])), (a_letters, .inl (cI, 120, .inl z_letters))] H → va_D A [(a_this, .inr (6, [.ref a_letters, .ref a_draft, .int z_length, .int z_at, .int z_place, .int z_token, .int z_value])), (a_letters, .inl (cI, 120, .inl z_letters))] → va_S A s.heap H locs → lv_has ls 2 [(0, .ref a_this)] → fX6_takeNumber_b95 fu z_length z_letters z_place z_at z_value z_token = some (o_z_at, o_z_value, o_z_token) → W p l e ({ frames := 0, cells := 0, slots := 0, locals := 0 } : Room) s m ([.ref a_this] : List Value).toArray below meth c H locs 0 0 (MQ below (rwQ D none [(a_this, .inr (6, [.ref a_letters, .ref a_draft, .int z_length, .int o_z_at, .int z_place, .int o_z_token, .int o_z_value])), (a_letters, .inl (cI, 120, .inl z_letters))] A) ([.ref a_this] : List Value).toArray s 0 0 A) (F0 m 95 ls []) := by
    intro z_at z_value z_token H locs ls hP hD hS hl hf
    unfold fX6_takeNumber_b95 at hf
    refine lv_aload_n hx hb dX6_takeNumber_95 rfl (lv_at hl 0 rfl) ?_
    refine va_get (D := D) (ci := 6) (v := .int z_at) (C := RX6) (T := TX6) (N := 7) hx hb hts inTX6 hown hK hP 0 rfl rfl 3 (by decide) (hts _ q130) (fun _ h9 => h9) rfl dX6_takeNumber_96 ?_
    refine lv_aload_n hx hb dX6_takeNumber_99 rfl (lv_at hl 0 rfl) ?_
    refine va_get (D := D) (ci := 6) (v := .int z_place) (C := RX6) (T := TX6) (N := 7) hx hb hts inTX6 hown hK hP 0 rfl rfl 4 (by decide) (hts _ q131) (fun _ h9 => h9) rfl dX6_takeNumber_100 ?_
    refine lv_isub hx hb dX6_takeNumber_103 ?_
    refine lv_iconst (v := 1) hx hb dX6_takeNumber_104 (by decide) ?_
    refine lv_icmp_le (tgt := 126) hx hb dX6_takeNumber_105 (by decide) (fun c2 => ?_) (fun c2 => ?_)
    · replace hf := it hf c2
      refine lv_iconst (v := 0) hx hb dX6_takeNumber_126 (by decide) ?_
      exact hB127 0 z_at z_value z_token H locs ls hP hD hS (lv_sub hl [0] rfl) hf
    · replace hf := ie hf c2
      refine lv_aload_n hx hb dX6_takeNumber_108 rfl (lv_at hl 0 rfl) ?_
      refine va_get (D := D) (ci := 6) (v := .ref a_letters) (C := RX6) (T := TX6) (N := 7) hx hb hts inTX6 hown hK hP 0 rfl rfl 0 (by decide) (hts _ q127) (fun _ h9 => h9) rfl dX6_takeNumber_109 ?_
      refine lv_aload_n hx hb dX6_takeNumber_112 rfl (lv_at hl 0 rfl) ?_
      refine va_get (D := D) (ci := 6) (v := .int z_place) (C := RX6) (T := TX6) (N := 7) hx hb hts inTX6 hown hK hP 0 rfl rfl 4 (by decide) (hts _ q131) (fun _ h9 => h9) rfl dX6_takeNumber_113 ?_
      obtain ⟨v5, hv5, hf⟩ := ob hf
      refine x_iald hx hb hK hP 1 0 rfl rfl hv5 dX6_takeNumber_116 ?_
      refine lv_bipush (v := 48) hx hb dX6_takeNumber_117 (by decide) ?_
      refine lv_icmp_ne (tgt := 126) hx hb dX6_takeNumber_119 (by decide) (fun c6 => ?_) (fun c6 => ?_)
      · replace hf := ie hf c6
        refine lv_iconst (v := 0) hx hb dX6_takeNumber_126 (by decide) ?_
        exact hB127 0 z_at z_value z_token H locs ls hP hD hS (lv_sub hl [0] rfl) hf
      · replace hf := it hf c6
        refine lv_iconst (v := 1) hx hb dX6_takeNumber_122 (by decide) ?_
        refine lv_goto (tgt := 127) hx hb dX6_takeNumber_123 (by decide) ?_
        exact hB127 1 z_at z_value z_token H locs ls hP hD hS (lv_sub hl [0] rfl) hf
  have hB5 : ∀ (n5 : Nat) (z_at : Int32) (z_value : Int32) (z_token : Int32) (H : Heap) (locs : List Loc) (ls : Array Slot), va_P D vwCl [(a_this, .inr (6, [.ref a_letters, .ref a_draft, .int z_length, .int z_at, .int z_place, .int z_token, .int z_value])), (a_letters, .inl (cI, 120, .inl z_letters))] H → va_D A [(a_this, .inr (6, [.ref a_letters, .ref a_draft, .int z_length, .int z_at, .int z_place, .int z_token, .int z_value])), (a_letters, .inl (cI, 120, .inl z_letters))] → va_S A s.heap H locs → lv_has ls 2 [(0, .ref a_this)] → fX6_takeNumber_b5 fu z_length z_letters z_place n5 z_at z_value z_token = some (o_z_at, o_z_value, o_z_token) → W p l e ({ frames := 0, cells := 0, slots := 0, locals := 0 } : Room) s m ([.ref a_this] : List Value).toArray below meth c H locs 0 0 (MQ below (rwQ D none [(a_this, .inr (6, [.ref a_letters, .ref a_draft, .int z_length, .int o_z_at, .int z_place, .int o_z_token, .int o_z_value])), (a_letters, .inl (cI, 120, .inl z_letters))] A) ([.ref a_this] : List Value).toArray s 0 0 A) (F0 m 5 ls []) := by
    intro n5
    induction n5 with
    | zero => intro z_at z_value z_token H locs ls hP hD hS hl hf; exact nn hf
    | succ n5 ih5 =>
      have hB79 : ∀ (s0 : Int32) (z_at : Int32) (z_value : Int32) (z_token : Int32) (H : Heap) (locs : List Loc) (ls : Array Slot), va_P D vwCl [(a_this, .inr (6, [.ref a_letters, .ref a_draft, .int z_length, .int z_at, .int z_place, .int z_token, .int z_value])), (a_letters, .inl (cI, 120, .inl z_letters))] H → va_D A [(a_this, .inr (6, [.ref a_letters, .ref a_draft, .int z_length, .int z_at, .int z_place, .int z_token, .int z_value])), (a_letters, .inl (cI, 120, .inl z_letters))] → va_S A s.heap H locs → lv_has ls 2 [(0, .ref a_this)] → fX6_takeNumber_b79 fu z_length z_letters z_place (fX6_takeNumber_b5 fu z_length z_letters z_place n5) s0 z_at z_value z_token = some (o_z_at, o_z_value, o_z_token) → W p l e ({ frames := 0, cells := 0, slots := 0, locals := 0 } : Room) s m ([.ref a_this] : List Value).toArray below meth c H locs 0 0 (MQ below (rwQ D none [(a_this, .inr (6, [.ref a_letters, .ref a_draft, .int z_length, .int o_z_at, .int z_place, .int o_z_token, .int o_z_value])), (a_letters, .inl (cI, 120, .inl z_letters))] A) ([.ref a_this] : List Value).toArray s 0 0 A) (F0 m 79 ls [.int s0, .ref a_this]) := by
        intro s0 z_at z_value z_token H locs ls hP hD hS hl hf
        unfold fX6_takeNumber_b79 at hf
        refine va_put (D := D) (ci := 6) (v := .int s0) (ty := .int) (C := RX6) (T := TX6) (N := 7) hx hb hts inTX6 tyX6 tyX6_ok nmX6 hown hK hP hD hS 0 rfl rfl 6 (by decide) (hts _ q133) (fun _ h9 => h9) rfl (by decide +kernel) rfl rfl (Nat.le_of_ble_eq_true rfl) dX6_takeNumber_79 (fun H locs hP hD hS => ?_)
        have hP : va_P D vwCl [(a_this, .inr (6, [.ref a_letters, .ref a_draft, .int z_length, .int z_at, .int z_place, .int z_token, .int s0])), (a_letters, .inl (cI, 120, .inl z_letters))] H := hP
        have hD : va_D A [(a_this, .inr (6, [.ref a_letters, .ref a_draft, .int z_length, .int z_at, .int z_place, .int z_token, .int s0])), (a_letters, .inl (cI, 120, .inl z_letters))] := hD
        refine lv_aload_n hx hb dX6_takeNumber_82 rfl (lv_at hl 0 rfl) ?_
        refine lv_dup hx hb dX6_takeNumber_83 rfl ?_
        refine va_get (D := D) (ci := 6) (v := .int z_at) (C := RX6) (T := TX6) (N := 7) hx hb hts inTX6 hown hK hP 0 rfl rfl 3 (by decide) (hts _ q130) (fun _ h9 => h9) rfl dX6_takeNumber_84 ?_
        refine lv_iconst (v := 1) hx hb dX6_takeNumber_87 (by decide) ?_
        refine lv_iadd hx hb dX6_takeNumber_88 ?_
        refine va_put (D := D) (ci := 6) (v := .int (z_at + 1)) (ty := .int) (C := RX6) (T := TX6) (N := 7) hx hb hts inTX6 tyX6 tyX6_ok nmX6 hown hK hP hD hS 0 rfl rfl 3 (by decide) (hts _ q130) (fun _ h9 => h9) rfl (by decide +kernel) rfl rfl (Nat.le_of_ble_eq_true rfl) dX6_takeNumber_89 (fun H locs hP hD hS => ?_)
        have hP : va_P D vwCl [(a_this, .inr (6, [.ref a_letters, .ref a_draft, .int z_length, .int (z_at + 1), .int z_place, .int z_token, .int s0])), (a_letters, .inl (cI, 120, .inl z_letters))] H := hP
        have hD : va_D A [(a_this, .inr (6, [.ref a_letters, .ref a_draft, .int z_length, .int (z_at + 1), .int z_place, .int z_token, .int s0])), (a_letters, .inl (cI, 120, .inl z_letters))] := hD
        refine lv_goto (tgt := 5) hx hb dX6_takeNumber_92 (by decide) ?_
        exact ih5 (z_at + 1) s0 z_token H locs ls hP hD hS (lv_sub hl [0] rfl) hf
      intro z_at z_value z_token H locs ls hP hD hS hl hf
      replace hf : fX6_takeNumber_b5_body fu z_length z_letters z_place (fX6_takeNumber_b5 fu z_length z_letters z_place n5) z_at z_value z_token = some (o_z_at, o_z_value, o_z_token) := hf
      unfold fX6_takeNumber_b5_body at hf
      refine lv_aload_n hx hb dX6_takeNumber_5 rfl (lv_at hl 0 rfl) ?_
      refine va_get (D := D) (ci := 6) (v := .int z_at) (C := RX6) (T := TX6) (N := 7) hx hb hts inTX6 hown hK hP 0 rfl rfl 3 (by decide) (hts _ q130) (fun _ h9 => h9) rfl dX6_takeNumber_6 ?_
      refine lv_aload_n hx hb dX6_takeNumber_9 rfl (lv_at hl 0 rfl) ?_
      refine va_get (D := D) (ci := 6) (v := .int z_length) (C := RX6) (T := TX6) (N := 7) hx hb hts inTX6 hown hK hP 0 rfl rfl 2 (by decide) (hts _ q129) (fun _ h9 => h9) rfl dX6_takeNumber_10 ?_
      refine lv_icmp_ge (tgt := 95) hx hb dX6_takeNumber_13 (by decide) (fun c1 => ?_) (fun c1 => ?_)
      · replace hf := it hf c1
        exact hB95 z_at z_value z_token H locs ls hP hD hS (lv_sub hl [0] rfl) hf
      · replace hf := ie hf c1
        refine lv_aload_n hx hb dX6_takeNumber_16 rfl (lv_at hl 0 rfl) ?_
        refine va_get (D := D) (ci := 6) (v := .ref a_letters) (C := RX6) (T := TX6) (N := 7) hx hb hts inTX6 hown hK hP 0 rfl rfl 0 (by decide) (hts _ q127) (fun _ h9 => h9) rfl dX6_takeNumber_17 ?_
        refine lv_aload_n hx hb dX6_takeNumber_20 rfl (lv_at hl 0 rfl) ?_
        refine va_get (D := D) (ci := 6) (v := .int z_at) (C := RX6) (T := TX6) (N := 7) hx hb hts inTX6 hown hK hP 0 rfl rfl 3 (by decide) (hts _ q130) (fun _ h9 => h9) rfl dX6_takeNumber_21 ?_
        obtain ⟨v7, hv7, hf⟩ := ob hf
        refine x_iald hx hb hK hP 1 0 rfl rfl hv7 dX6_takeNumber_24 ?_
        refine lv_bipush (v := 48) hx hb dX6_takeNumber_25 (by decide) ?_
        refine lv_icmp_lt (tgt := 95) hx hb dX6_takeNumber_27 (by decide) (fun c8 => ?_) (fun c8 => ?_)
        · replace hf := it hf c8
          exact hB95 z_at z_value z_token H locs ls hP hD hS (lv_sub hl [0] rfl) hf
        · replace hf := ie hf c8
          refine lv_aload_n hx hb dX6_takeNumber_30 rfl (lv_at hl 0 rfl) ?_
          refine va_get (D := D) (ci := 6) (v := .ref a_letters) (C := RX6) (T := TX6) (N := 7) hx hb hts inTX6 hown hK hP 0 rfl rfl 0 (by decide) (hts _ q127) (fun _ h9 => h9) rfl dX6_takeNumber_31 ?_
          refine lv_aload_n hx hb dX6_takeNumber_34 rfl (lv_at hl 0 rfl) ?_
          refine va_get (D := D) (ci := 6) (v := .int z_at) (C := RX6) (T := TX6) (N := 7) hx hb hts inTX6 hown hK hP 0 rfl rfl 3 (by decide) (hts _ q130) (fun _ h9 => h9) rfl dX6_takeNumber_35 ?_
          obtain ⟨v9, hv9, hf⟩ := ob hf
          refine x_iald hx hb hK hP 1 0 rfl rfl hv9 dX6_takeNumber_38 ?_
          refine lv_bipush (v := 57) hx hb dX6_takeNumber_39 (by decide) ?_
          refine lv_icmp_gt (tgt := 95) hx hb dX6_takeNumber_41 (by decide) (fun c10 => ?_) (fun c10 => ?_)
          · replace hf := it hf c10
            exact hB95 z_at z_value z_token H locs ls hP hD hS (lv_sub hl [0] rfl) hf
          · replace hf := ie hf c10
            refine lv_aload_n hx hb dX6_takeNumber_44 rfl (lv_at hl 0 rfl) ?_
            refine lv_aload_n hx hb dX6_takeNumber_45 rfl (lv_at hl 0 rfl) ?_
            refine va_get (D := D) (ci := 6) (v := .int z_value) (C := RX6) (T := TX6) (N := 7) hx hb hts inTX6 hown hK hP 0 rfl rfl 6 (by decide) (hts _ q133) (fun _ h9 => h9) rfl dX6_takeNumber_46 ?_
            refine lv_bipush (v := 10) hx hb dX6_takeNumber_49 (by decide) ?_
            refine lv_icmp_ge (tgt := 77) hx hb dX6_takeNumber_51 (by decide) (fun c11 => ?_) (fun c11 => ?_)
            · replace hf := it hf c11
              refine lv_bipush (v := 100) hx hb dX6_takeNumber_77 (by decide) ?_
              exact hB79 100 z_at z_value z_token H locs ls hP hD hS (lv_sub hl [0] rfl) hf
            · replace hf := ie hf c11
              refine lv_aload_n hx hb dX6_takeNumber_54 rfl (lv_at hl 0 rfl) ?_
              refine va_get (D := D) (ci := 6) (v := .int z_value) (C := RX6) (T := TX6) (N := 7) hx hb hts inTX6 hown hK hP 0 rfl rfl 6 (by decide) (hts _ q133) (fun _ h9 => h9) rfl dX6_takeNumber_55 ?_
              refine lv_bipush (v := 10) hx hb dX6_takeNumber_58 (by decide) ?_
              refine lv_imul hx hb dX6_takeNumber_60 ?_
              refine lv_aload_n hx hb dX6_takeNumber_61 rfl (lv_at hl 0 rfl) ?_
              refine va_get (D := D) (ci := 6) (v := .ref a_letters) (C := RX6) (T := TX6) (N := 7) hx hb hts inTX6 hown hK hP 0 rfl rfl 0 (by decide) (hts _ q127) (fun _ h9 => h9) rfl dX6_takeNumber_62 ?_
              refine lv_aload_n hx hb dX6_takeNumber_65 rfl (lv_at hl 0 rfl) ?_
              refine va_get (D := D) (ci := 6) (v := .int z_at) (C := RX6) (T := TX6) (N := 7) hx hb hts inTX6 hown hK hP 0 rfl rfl 3 (by decide) (hts _ q130) (fun _ h9 => h9) rfl dX6_takeNumber_66 ?_
              obtain ⟨v12, hv12, hf⟩ := ob hf
              refine x_iald hx hb hK hP 1 0 rfl rfl hv12 dX6_takeNumber_69 ?_
              refine lv_iadd hx hb dX6_takeNumber_70 ?_
              refine lv_bipush (v := 48) hx hb dX6_takeNumber_71 (by decide) ?_
              refine lv_isub hx hb dX6_takeNumber_73 ?_
              refine lv_goto (tgt := 79) hx hb dX6_takeNumber_74 (by decide) ?_
              exact hB79 (((z_value * 10) + v12) - 48) z_at z_value z_token H locs ls hP hD hS (lv_sub hl [0] rfl) hf
  unfold fX6_takeNumber at hf
  obtain ⟨H, hH⟩ : ∃ H, H = s.heap := ⟨_, rfl⟩
  obtain ⟨locs, hlo⟩ : ∃ q : List Loc, q = [] := ⟨_, rfl⟩
  have hS : va_S A s.heap H locs := by rw [hH, hlo]; exact hS
  rw [← hH] at hP
  suffices hgo : W p l e ({ frames := 0, cells := 0, slots := 0, locals := 0 } : Room) s m ([.ref a_this] : List Value).toArray below meth c H locs 0 0 (MQ below (rwQ D none [(a_this, .inr (6, [.ref a_letters, .ref a_draft, .int z_length, .int o_z_at, .int z_place, .int o_z_token, .int o_z_value])), (a_letters, .inl (cI, 120, .inl z_letters))] A) ([.ref a_this] : List Value).toArray s 0 0 A) (F0 m 0 ls []) by rw [hH, hlo] at hgo; exact hgo
  clear hH hlo
  refine lv_aload_n hx hb dX6_takeNumber_0 rfl (lv_at hl 0 rfl) ?_
  refine lv_iconst (v := 0) hx hb dX6_takeNumber_1 (by decide) ?_
  refine va_put (D := D) (ci := 6) (v := .int 0) (ty := .int) (C := RX6) (T := TX6) (N := 7) hx hb hts inTX6 tyX6 tyX6_ok nmX6 hown hK hP hD hS 0 rfl rfl 6 (by decide) (hts _ q133) (fun _ h9 => h9) rfl (by decide +kernel) rfl rfl (Nat.le_of_ble_eq_true rfl) dX6_takeNumber_2 (fun H locs hP hD hS => ?_)
  have hP : va_P D vwCl [(a_this, .inr (6, [.ref a_letters, .ref a_draft, .int z_length, .int z_at, .int z_place, .int z_token, .int 0])), (a_letters, .inl (cI, 120, .inl z_letters))] H := hP
  have hD : va_D A [(a_this, .inr (6, [.ref a_letters, .ref a_draft, .int z_length, .int z_at, .int z_place, .int z_token, .int 0])), (a_letters, .inl (cI, 120, .inl z_letters))] := hD
  exact hB5 fu z_at 0 z_token H locs ls hP hD hS (lv_sub hl [0] rfl) hf
theorem kX6_takeNumber {p : Program} {l : Launch} {e : Env} {R : Room} {s : State} {m : MethodId} {args : Array Value} {below : List Frame} {meth : Method} {c : Code} {H : Heap} {locs : List Loc} {cells slots : Nat} {Q : State → Prop} {cc : ByteArray} {nL pc index : Nat} {ls : Array Slot} {rest : List Value} {own : String} {D : va_G} {cI cZ cQ : ClassId} {a_this a_letters a_draft : Nat} {z_length z_at z_place z_token z_value : Int32} {z_letters : Nat → Int32} {fu : Nat} {o_z_at o_z_value o_z_token : Int32} (hx : p.tables.exec = Jvm.exec) (hb : c.code = cc) (hml : c.maxLocals = nL) (hown : s.vm.findClass own = some m.cls) (hts : ∀ w ∈ TB, w.before args s = true) (hKW : KW D (TY cI cZ cQ) s) (hlk : Cond.methodLink own index yX6_takeNumber ∈ TB) {ws : va_W} {A : Nat → Prop} {H0 : Heap} (hP : va_P D vwCl ws H) (hD : va_D A ws) (hS : va_S A H0 H locs) (is : List Nat) (hC : is.map (fun i => ws[i]?) = ([(a_this, .inr (6, [.ref a_letters, .ref a_draft, .int z_length, .int z_at, .int z_place, .int z_token, .int z_value])), (a_letters, .inl (cI, 120, .inl z_letters))] : va_W).map some) (hnd : va_nd is = true) (hf : fX6_takeNumber fu z_length z_letters z_place z_at z_value z_token = some (o_z_at, o_z_value, o_z_token)) (hn : ls.size = nL) (hW : (rest.map fun v => v.category).sum ≤ 8) (hR : 0 + 1 ≤ R.frames ∧ 8 + (2 + 11) + 0 ≤ R.locals) (hcs : cells ≤ R.cells ∧ slots ≤ R.slots) (hdg : decode cc pc = .ok (.invokevirtual index, 3)) (kk : ∀ (H1 : Heap) (locs1 : List Loc), va_P D vwCl (rpl ws is [(a_this, .inr (6, [.ref a_letters, .ref a_draft, .int z_length, .int o_z_at, .int z_place, .int o_z_token, .int o_z_value])), (a_letters, .inl (cI, 120, .inl z_letters))]) H1 → va_D A (rpl ws is [(a_this, .inr (6, [.ref a_letters, .ref a_draft, .int z_length, .int o_z_at, .int z_place, .int o_z_token, .int o_z_value])), (a_letters, .inl (cI, 120, .inl z_letters))]) → va_S A H0 H1 locs1 → W p l e R s m args below meth c H1 locs1 cells slots Q (F0 m (pc + 3) ls (rest))) : W p l e R s m args below meth c H locs cells slots Q (F0 m pc ls (.ref a_this :: rest)) :=
  x_rw (va_runV (As := []) (rest := rest) ⟨hx, hb, hml, hown, hts⟩ (tX6_takeNumber hf) (cwV 0 hts (tb_V hlk q361 q362 q41 q363) rfl rfl rfl (by decide +kernel) hR) ⟨rwB, va_recv hKW.1 (subP hP hC) (ci := 6) (q0 := 0) rfl rfl, fun U hU hW => ⟨rfl, by rw [hU]; exact subP hP hC, hKW.warm hW, subD hD hC hnd⟩⟩ rfl rfl hn rfl (lv_room hW) hdg hcs) hP hD hS is hC rfl kk

-- HalfPlanks$Reader.advance()V
set_option maxHeartbeats 4000000 in
set_option maxRecDepth 100000 in
theorem tX6_advance {l : Launch} {D : va_G} {cI cZ cQ : ClassId} {adK adV : Nat → Nat} {a_this a_letters a_draft : Nat} {z_length z_at z_place z_token z_value : Int32} {z_letters : Nat → Int32} {fu : Nat} {o_z_at o_z_value o_z_place o_z_token : Int32} (hf : fX6_advance fu z_length z_letters z_at z_value z_place z_token = some (o_z_at, o_z_value, o_z_place, o_z_token)) : Met l yX6_advance (.code yX6_advance cX6_advance 2 none :: TB) ({ frames := 4, cells := 0, slots := 0, locals := 111 } : Room) (rsP D (TY cI cZ cQ) adK adV [(a_this, .inr (6, [.ref a_letters, .ref a_draft, .int z_length, .int z_at, .int z_place, .int z_token, .int z_value])), (a_letters, .inl (cI, 120, .inl z_letters))] [.ref a_this]) (rwQ D none [(a_this, .inr (6, [.ref a_letters, .ref a_draft, .int z_length, .int o_z_at, .int o_z_place, .int o_z_token, .int o_z_value])), (a_letters, .inl (cI, 120, .inl z_letters))] (inW [(a_this, .inr (6, [.ref a_letters, .ref a_draft, .int z_length, .int z_at, .int z_place, .int z_token, .int z_value])), (a_letters, .inl (cI, 120, .inl z_letters))])) 0 0 (inW [(a_this, .inr (6, [.ref a_letters, .ref a_draft, .int z_length, .int z_at, .int z_place, .int z_token, .int z_value])), (a_letters, .inl (cI, 120, .inl z_letters))]) := by
  refine Met.ofW (cc := cX6_advance) (maxL := 2) (ret := none) (by decide) rfl ?_
  intro p e s m args below meth c s₁ B hml hv
  obtain ⟨rfl, hP, hKW, hD0, hSK⟩ := hv
  have hx := B.exec
  have hb := B.bytes
  have hr := B.returns
  have hts : ∀ w ∈ TB, w.before ([.ref a_this] : List Value).toArray s = true := fun w h => atoms_spec (ws := .code yX6_advance cX6_advance 2 none :: TB) B.pre w (List.mem_cons_of_mem _ h)
  have hown : s.vm.findClass RX6 = some m.cls := findClass_of_methodNamed B.named
  have hlocks := B.notSynchronized
  have hK := hKW.1
  have hD := inW_D hD0
  generalize hAe : inW [(a_this, .inr (6, [.ref a_letters, .ref a_draft, .int z_length, .int z_at, .int z_place, .int z_token, .int z_value])), (a_letters, .inl (cI, 120, .inl z_letters))] = A at hD hSK ⊢
  have hS : va_S A s.heap s.heap [] := va_S.rf
  have hl := lv_entry [.ref a_this] (n := 2) (Nat.le_of_ble_eq_true rfl)
  rw [lg_entry_eq]
  generalize (lg_sl [.ref a_this] ++ List.replicate (2 - (lg_sl [.ref a_this]).length) Slot.unset).toArray = ls at hl ⊢
  have hl : lv_has ls 2 [(0, .ref a_this)] := hl
  show W p l e ({ frames := 4, cells := 0, slots := 0, locals := 111 } : Room) s m ([.ref a_this] : List Value).toArray below meth c s.heap [] 0 0 (MQ below (rwQ D none [(a_this, .inr (6, [.ref a_letters, .ref a_draft, .int z_length, .int o_z_at, .int o_z_place, .int o_z_token, .int o_z_value])), (a_letters, .inl (cI, 120, .inl z_letters))] A) ([.ref a_this] : List Value).toArray s 0 0 A) (F0 m 0 ls [])
  have hP : va_P D vwCl [(a_this, .inr (6, [.ref a_letters, .ref a_draft, .int z_length, .int z_at, .int z_place, .int z_token, .int z_value])), (a_letters, .inl (cI, 120, .inl z_letters))] s.heap := hP
  have hD : va_D A [(a_this, .inr (6, [.ref a_letters, .ref a_draft, .int z_length, .int z_at, .int z_place, .int z_token, .int z_value])), (a_letters, .inl (cI, 120, .inl z_letters))] := hD
  have hB117 : ∀ (s0 : Int32) (z_at : Int32) (z_value : Int32) (z_place : Int32) (z_token : Int32) (H : Heap) (locs : List Loc) (ls : Array Slot), va_P D vwCl [(a_this, .inr (6, [.ref a_letters, .ref a_draft, .int z_length, .int z_at, .int z_place, .int z_token, .int z_value])), (a_letters, .inl (cI, 120, .inl z_letters))] H → va_D A [(a_this, .inr (6, [.ref a_letters, .ref a_draft, .int z_length, .int z_at, .int z_place, .int z_token, .int z_value])), (a_letters, .inl (cI, 120, .inl z_letters))] → va_S A s.heap H locs → lv_has ls 2 [] → fX6_advance_b117 fu z_length z_letters s0 z_at z_value z_place z_token = some (o_z_at, o_z_value, o_z_place, o_z_token) → W p l e ({ frames := 4, cells := 0, slots := 0, locals := 111 } : Room) s m ([.ref a_this] : List Value).toArray below meth c H locs 0 0 (MQ below (rwQ D none [(a_this, .inr (6, [.ref a_letters, .ref a_draft, .int z_length, .int o_z_at, .int o_z_place, .int o_z_token, .int o_z_value])), (a_letters, .inl (cI, 120, .inl z_letters))] A) ([.ref a_this] : List Value).toArray s 0 0 A) (F0 m 117 ls [.int s0, .ref a_this]) := by
    intro s0 z_at z_value z_place z_token H locs ls hP hD hS hl hf
    unfold fX6_advance_b117 at hf
    refine va_put (D := D) (ci := 6) (v := .int s0) (ty := .int) (C := RX6) (T := TX6) (N := 7) hx hb hts inTX6 tyX6 tyX6_ok nmX6 hown hK hP hD hS 0 rfl rfl 5 (by decide) (hts _ q132) (fun _ h9 => h9) rfl (by decide +kernel) rfl rfl (Nat.le_of_ble_eq_true rfl) dX6_advance_117 (fun H locs hP hD hS => ?_)
    have hP : va_P D vwCl [(a_this, .inr (6, [.ref a_letters, .ref a_draft, .int z_length, .int z_at, .int z_place, .int s0, .int z_value])), (a_letters, .inl (cI, 120, .inl z_letters))] H := hP
    have hD : va_D A [(a_this, .inr (6, [.ref a_letters, .ref a_draft, .int z_length, .int z_at, .int z_place, .int s0, .int z_value])), (a_letters, .inl (cI, 120, .inl z_letters))] := hD
    cases hf
    exact W.vret hx hb hr (fun t ht _ => ⟨rfl, by rw [ht]; exact hP, hS.F ht⟩) hS.2.2 dX6_advance_120
  have hB90 : ∀ (l1 : Int32) (z_at : Int32) (z_value : Int32) (z_place : Int32) (z_token : Int32) (H : Heap) (locs : List Loc) (ls : Array Slot), va_P D vwCl [(a_this, .inr (6, [.ref a_letters, .ref a_draft, .int z_length, .int z_at, .int z_place, .int z_token, .int z_value])), (a_letters, .inl (cI, 120, .inl z_letters))] H → va_D A [(a_this, .inr (6, [.ref a_letters, .ref a_draft, .int z_length, .int z_at, .int z_place, .int z_token, .int z_value])), (a_letters, .inl (cI, 120, .inl z_letters))] → va_S A s.heap H locs → lv_has ls 2 [(0, .ref a_this), (1, .int l1)] → fX6_advance_b90 fu z_length z_letters l1 z_at z_value z_place z_token = some (o_z_at, o_z_value, o_z_place, o_z_token) → W p l e ({ frames := 4, cells := 0, slots := 0, locals := 111 } : Room) s m ([.ref a_this] : List Value).toArray below meth c H locs 0 0 (MQ below (rwQ D none [(a_this, .inr (6, [.ref a_letters, .ref a_draft, .int z_length, .int o_z_at, .int o_z_place, .int o_z_token, .int o_z_value])), (a_letters, .inl (cI, 120, .inl z_letters))] A) ([.ref a_this] : List Value).toArray s 0 0 A) (F0 m 90 ls []) := by
    intro l1 z_at z_value z_place z_token H locs ls hP hD hS hl hf
    unfold fX6_advance_b90 at hf
    refine lv_aload_n hx hb dX6_advance_90 rfl (lv_at hl 0 rfl) ?_
    refine lv_dup hx hb dX6_advance_91 rfl ?_
    refine va_get (D := D) (ci := 6) (v := .int z_at) (C := RX6) (T := TX6) (N := 7) hx hb hts inTX6 hown hK hP 0 rfl rfl 3 (by decide) (hts _ q130) (fun _ h9 => h9) rfl dX6_advance_92 ?_
    refine lv_iconst (v := 1) hx hb dX6_advance_95 (by decide) ?_
    refine lv_iadd hx hb dX6_advance_96 ?_
    refine va_put (D := D) (ci := 6) (v := .int (z_at + 1)) (ty := .int) (C := RX6) (T := TX6) (N := 7) hx hb hts inTX6 tyX6 tyX6_ok nmX6 hown hK hP hD hS 0 rfl rfl 3 (by decide) (hts _ q130) (fun _ h9 => h9) rfl (by decide +kernel) rfl rfl (Nat.le_of_ble_eq_true rfl) dX6_advance_97 (fun H locs hP hD hS => ?_)
    have hP : va_P D vwCl [(a_this, .inr (6, [.ref a_letters, .ref a_draft, .int z_length, .int (z_at + 1), .int z_place, .int z_token, .int z_value])), (a_letters, .inl (cI, 120, .inl z_letters))] H := hP
    have hD : va_D A [(a_this, .inr (6, [.ref a_letters, .ref a_draft, .int z_length, .int (z_at + 1), .int z_place, .int z_token, .int z_value])), (a_letters, .inl (cI, 120, .inl z_letters))] := hD
    refine lv_aload_n hx hb dX6_advance_100 rfl (lv_at hl 0 rfl) ?_
    refine va_ldcS hx hb hown hSK.2.1 dX6_advance_101 ?_
    refine lv_iload_n hx hb dX6_advance_103 rfl (lv_at hl 1 rfl) ?_
    refine lv_i2c hx hb dX6_advance_104 rfl ?_
    refine kIx 0 (by decide) hx hb hml hown hts q365 hSK hS hl.1 (Nat.le_of_ble_eq_true rfl) ⟨Nat.le_of_ble_eq_true rfl, Nat.le_of_ble_eq_true rfl⟩ ⟨Nat.zero_le _, Nat.zero_le _⟩ dX6_advance_105 ?_
    refine lv_if_lt (tgt := 115) hx hb dX6_advance_108 (by decide) (fun c5 => ?_) (fun c5 => ?_)
    · replace hf := it hf c5
      refine lv_bipush (v := -3) hx hb dX6_advance_115 (by decide) ?_
      exact hB117 (-3) (z_at + 1) z_value z_place z_token H locs ls hP hD hS (lv_sub hl [] rfl) hf
    · replace hf := ie hf c5
      refine lv_iload_n hx hb dX6_advance_111 rfl (lv_at hl 1 rfl) ?_
      refine lv_goto (tgt := 117) hx hb dX6_advance_112 (by decide) ?_
      exact hB117 l1 (z_at + 1) z_value z_place z_token H locs ls hP hD hS (lv_sub hl [] rfl) hf
  have hB38 : ∀ (z_at : Int32) (z_value : Int32) (z_place : Int32) (z_token : Int32) (H : Heap) (locs : List Loc) (ls : Array Slot), va_P D vwCl [(a_this, .inr (6, [.ref a_letters, .ref a_draft, .int z_length, .int z_at, .int z_place, .int z_token, .int z_value])), (a_letters, .inl (cI, 120, .inl z_letters))] H → va_D A [(a_this, .inr (6, [.ref a_letters, .ref a_draft, .int z_length, .int z_at, .int z_place, .int z_token, .int z_value])), (a_letters, .inl (cI, 120, .inl z_letters))] → va_S A s.heap H locs → lv_has ls 2 [(0, .ref a_this)] → fX6_advance_b38 fu z_length z_letters z_at z_value z_place z_token = some (o_z_at, o_z_value, o_z_place, o_z_token) → W p l e ({ frames := 4, cells := 0, slots := 0, locals := 111 } : Room) s m ([.ref a_this] : List Value).toArray below meth c H locs 0 0 (MQ below (rwQ D none [(a_this, .inr (6, [.ref a_letters, .ref a_draft, .int z_length, .int o_z_at, .int o_z_place, .int o_z_token, .int o_z_value])), (a_letters, .inl (cI, 120, .inl z_letters))] A) ([.ref a_this] : List Value).toArray s 0 0 A) (F0 m 38 ls []) := by
    intro z_at z_value z_place z_token H locs ls hP hD hS hl hf
    unfold fX6_advance_b38 at hf
    refine lv_aload_n hx hb dX6_advance_38 rfl (lv_at hl 0 rfl) ?_
    refine lv_aload_n hx hb dX6_advance_39 rfl (lv_at hl 0 rfl) ?_
    refine va_get (D := D) (ci := 6) (v := .int z_at) (C := RX6) (T := TX6) (N := 7) hx hb hts inTX6 hown hK hP 0 rfl rfl 3 (by decide) (hts _ q130) (fun _ h9 => h9) rfl dX6_advance_40 ?_
    refine va_put (D := D) (ci := 6) (v := .int z_at) (ty := .int) (C := RX6) (T := TX6) (N := 7) hx hb hts inTX6 tyX6 tyX6_ok nmX6 hown hK hP hD hS 0 rfl rfl 4 (by decide) (hts _ q131) (fun _ h9 => h9) rfl (by decide +kernel) rfl rfl (Nat.le_of_ble_eq_true rfl) dX6_advance_43 (fun H locs hP hD hS => ?_)
    have hP : va_P D vwCl [(a_this, .inr (6, [.ref a_letters, .ref a_draft, .int z_length, .int z_at, .int z_at, .int z_token, .int z_value])), (a_letters, .inl (cI, 120, .inl z_letters))] H := hP
    have hD : va_D A [(a_this, .inr (6, [.ref a_letters, .ref a_draft, .int z_length, .int z_at, .int z_at, .int z_token, .int z_value])), (a_letters, .inl (cI, 120, .inl z_letters))] := hD
    refine lv_aload_n hx hb dX6_advance_46 rfl (lv_at hl 0 rfl) ?_
    refine va_get (D := D) (ci := 6) (v := .int z_at) (C := RX6) (T := TX6) (N := 7) hx hb hts inTX6 hown hK hP 0 rfl rfl 3 (by decide) (hts _ q130) (fun _ h9 => h9) rfl dX6_advance_47 ?_
    refine lv_aload_n hx hb dX6_advance_50 rfl (lv_at hl 0 rfl) ?_
    refine va_get (D := D) (ci := 6) (v := .int z_length) (C := RX6) (T := TX6) (N := 7) hx hb hts inTX6 hown hK hP 0 rfl rfl 2 (by decide) (hts _ q129) (fun _ h9 => h9) rfl dX6_advance_51 ?_
    refine lv_icmp_lt (tgt := 63) hx hb dX6_advance_54 (by decide) (fun c2 => ?_) (fun c2 => ?_)
    · replace hf := it hf c2
      refine lv_aload_n hx hb dX6_advance_63 rfl (lv_at hl 0 rfl) ?_
      refine va_get (D := D) (ci := 6) (v := .ref a_letters) (C := RX6) (T := TX6) (N := 7) hx hb hts inTX6 hown hK hP 0 rfl rfl 0 (by decide) (hts _ q127) (fun _ h9 => h9) rfl dX6_advance_64 ?_
      refine lv_aload_n hx hb dX6_advance_67 rfl (lv_at hl 0 rfl) ?_
      refine va_get (D := D) (ci := 6) (v := .int z_at) (C := RX6) (T := TX6) (N := 7) hx hb hts inTX6 hown hK hP 0 rfl rfl 3 (by decide) (hts _ q130) (fun _ h9 => h9) rfl dX6_advance_68 ?_
      obtain ⟨v3, hv3, hf⟩ := ob hf
      refine x_iald hx hb hK hP 1 0 rfl rfl hv3 dX6_advance_71 ?_
      refine lv_istore_n (lv' := [(1, .int v3), (0, .ref a_this)]) hx hb dX6_advance_72 rfl hl (by decide) rfl (fun ls hl => ?_)
      refine lv_iload_n hx hb dX6_advance_73 rfl (lv_at hl 0 rfl) ?_
      refine lv_bipush (v := 48) hx hb dX6_advance_74 (by decide) ?_
      refine lv_icmp_lt (tgt := 90) hx hb dX6_advance_76 (by decide) (fun c4 => ?_) (fun c4 => ?_)
      · replace hf := it hf c4
        exact hB90 v3 z_at z_value z_at z_token H locs ls hP hD hS (lv_sub hl [1, 0] rfl) hf
      · replace hf := ie hf c4
        refine lv_iload_n hx hb dX6_advance_79 rfl (lv_at hl 0 rfl) ?_
        refine lv_bipush (v := 57) hx hb dX6_advance_80 (by decide) ?_
        refine lv_icmp_gt (tgt := 90) hx hb dX6_advance_82 (by decide) (fun c6 => ?_) (fun c6 => ?_)
        · replace hf := it hf c6
          exact hB90 v3 z_at z_value z_at z_token H locs ls hP hD hS (lv_sub hl [1, 0] rfl) hf
        · replace hf := ie hf c6
          refine lv_aload_n hx hb dX6_advance_85 rfl (lv_at hl 1 rfl) ?_
          obtain ⟨⟨g8, g9, g10⟩, hv7, hf⟩ := ob hf
          dsimp only at hf
          refine kX6_takeNumber hx hb hml hown hts hKW q360 hP hD hS [0, 1] rfl (by decide) hv7 hl.1 (Nat.le_of_ble_eq_true rfl) ⟨Nat.le_of_ble_eq_true rfl, Nat.le_of_ble_eq_true rfl⟩ ⟨Nat.zero_le _, Nat.zero_le _⟩ dX6_advance_86 (fun H locs hP hD hS => ?_)
          have hP : va_P D vwCl [(a_this, .inr (6, [.ref a_letters, .ref a_draft, .int z_length, .int g8, .int z_at, .int g10, .int g9])), (a_letters, .inl (cI, 120, .inl z_letters))] H := hP
          have hD : va_D A [(a_this, .inr (6, [.ref a_letters, .ref a_draft, .int z_length, .int g8, .int z_at, .int g10, .int g9])), (a_letters, .inl (cI, 120, .inl z_letters))] := hD
          cases hf
          exact W.vret hx hb hr (fun t ht _ => ⟨rfl, by rw [ht]; exact hP, hS.F ht⟩) hS.2.2 dX6_advance_89
    · replace hf := ie hf c2
      refine lv_aload_n hx hb dX6_advance_57 rfl (lv_at hl 0 rfl) ?_
      refine lv_iconst (v := -1) hx hb dX6_advance_58 (by decide) ?_
      refine va_put (D := D) (ci := 6) (v := .int (-1)) (ty := .int) (C := RX6) (T := TX6) (N := 7) hx hb hts inTX6 tyX6 tyX6_ok nmX6 hown hK hP hD hS 0 rfl rfl 5 (by decide) (hts _ q132) (fun _ h9 => h9) rfl (by decide +kernel) rfl rfl (Nat.le_of_ble_eq_true rfl) dX6_advance_59 (fun H locs hP hD hS => ?_)
      have hP : va_P D vwCl [(a_this, .inr (6, [.ref a_letters, .ref a_draft, .int z_length, .int z_at, .int z_at, .int (-1), .int z_value])), (a_letters, .inl (cI, 120, .inl z_letters))] H := hP
      have hD : va_D A [(a_this, .inr (6, [.ref a_letters, .ref a_draft, .int z_length, .int z_at, .int z_at, .int (-1), .int z_value])), (a_letters, .inl (cI, 120, .inl z_letters))] := hD
      cases hf
      exact W.vret hx hb hr (fun t ht _ => ⟨rfl, by rw [ht]; exact hP, hS.F ht⟩) hS.2.2 dX6_advance_62
  have hB0 : ∀ (n0 : Nat) (z_at : Int32) (z_value : Int32) (z_place : Int32) (z_token : Int32) (H : Heap) (locs : List Loc) (ls : Array Slot), va_P D vwCl [(a_this, .inr (6, [.ref a_letters, .ref a_draft, .int z_length, .int z_at, .int z_place, .int z_token, .int z_value])), (a_letters, .inl (cI, 120, .inl z_letters))] H → va_D A [(a_this, .inr (6, [.ref a_letters, .ref a_draft, .int z_length, .int z_at, .int z_place, .int z_token, .int z_value])), (a_letters, .inl (cI, 120, .inl z_letters))] → va_S A s.heap H locs → lv_has ls 2 [(0, .ref a_this)] → fX6_advance_b0 fu z_length z_letters n0 z_at z_value z_place z_token = some (o_z_at, o_z_value, o_z_place, o_z_token) → W p l e ({ frames := 4, cells := 0, slots := 0, locals := 111 } : Room) s m ([.ref a_this] : List Value).toArray below meth c H locs 0 0 (MQ below (rwQ D none [(a_this, .inr (6, [.ref a_letters, .ref a_draft, .int z_length, .int o_z_at, .int o_z_place, .int o_z_token, .int o_z_value])), (a_letters, .inl (cI, 120, .inl z_letters))] A) ([.ref a_this] : List Value).toArray s 0 0 A) (F0 m 0 ls []) := by
    intro n0
    induction n0 with
    | zero => intro z_at z_value z_place z_token H locs ls hP hD hS hl hf; exact nn hf
    | succ n0 ih0 =>
      intro z_at z_value z_place z_token H locs ls hP hD hS hl hf
      replace hf : fX6_advance_b0_body fu z_length z_letters (fX6_advance_b0 fu z_length z_letters n0) z_at z_value z_place z_token = some (o_z_at, o_z_value, o_z_place, o_z_token) := hf
      unfold fX6_advance_b0_body at hf
      refine lv_aload_n hx hb dX6_advance_0 rfl (lv_at hl 0 rfl) ?_
      refine va_get (D := D) (ci := 6) (v := .int z_at) (C := RX6) (T := TX6) (N := 7) hx hb hts inTX6 hown hK hP 0 rfl rfl 3 (by decide) (hts _ q130) (fun _ h9 => h9) rfl dX6_advance_1 ?_
      refine lv_aload_n hx hb dX6_advance_4 rfl (lv_at hl 0 rfl) ?_
      refine va_get (D := D) (ci := 6) (v := .int z_length) (C := RX6) (T := TX6) (N := 7) hx hb hts inTX6 hown hK hP 0 rfl rfl 2 (by decide) (hts _ q129) (fun _ h9 => h9) rfl dX6_advance_5 ?_
      refine lv_icmp_ge (tgt := 38) hx hb dX6_advance_8 (by decide) (fun c1 => ?_) (fun c1 => ?_)
      · replace hf := it hf c1
        exact hB38 z_at z_value z_place z_token H locs ls hP hD hS (lv_sub hl [0] rfl) hf
      · replace hf := ie hf c1
        refine lv_aload_n hx hb dX6_advance_11 rfl (lv_at hl 0 rfl) ?_
        refine va_get (D := D) (ci := 6) (v := .ref a_letters) (C := RX6) (T := TX6) (N := 7) hx hb hts inTX6 hown hK hP 0 rfl rfl 0 (by decide) (hts _ q127) (fun _ h9 => h9) rfl dX6_advance_12 ?_
        refine lv_aload_n hx hb dX6_advance_15 rfl (lv_at hl 0 rfl) ?_
        refine va_get (D := D) (ci := 6) (v := .int z_at) (C := RX6) (T := TX6) (N := 7) hx hb hts inTX6 hown hK hP 0 rfl rfl 3 (by decide) (hts _ q130) (fun _ h9 => h9) rfl dX6_advance_16 ?_
        obtain ⟨v11, hv11, hf⟩ := ob hf
        refine x_iald hx hb hK hP 1 0 rfl rfl hv11 dX6_advance_19 ?_
        refine lv_bipush (v := 32) hx hb dX6_advance_20 (by decide) ?_
        refine lv_icmp_ne (tgt := 38) hx hb dX6_advance_22 (by decide) (fun c12 => ?_) (fun c12 => ?_)
        · replace hf := ie hf c12
          exact hB38 z_at z_value z_place z_token H locs ls hP hD hS (lv_sub hl [0] rfl) hf
        · replace hf := it hf c12
          refine lv_aload_n hx hb dX6_advance_25 rfl (lv_at hl 0 rfl) ?_
          refine lv_dup hx hb dX6_advance_26 rfl ?_
          refine va_get (D := D) (ci := 6) (v := .int z_at) (C := RX6) (T := TX6) (N := 7) hx hb hts inTX6 hown hK hP 0 rfl rfl 3 (by decide) (hts _ q130) (fun _ h9 => h9) rfl dX6_advance_27 ?_
          refine lv_iconst (v := 1) hx hb dX6_advance_30 (by decide) ?_
          refine lv_iadd hx hb dX6_advance_31 ?_
          refine va_put (D := D) (ci := 6) (v := .int (z_at + 1)) (ty := .int) (C := RX6) (T := TX6) (N := 7) hx hb hts inTX6 tyX6 tyX6_ok nmX6 hown hK hP hD hS 0 rfl rfl 3 (by decide) (hts _ q130) (fun _ h9 => h9) rfl (by decide +kernel) rfl rfl (Nat.le_of_ble_eq_true rfl) dX6_advance_32 (fun H locs hP hD hS => ?_)
          have hP : va_P D vwCl [(a_this, .inr (6, [.ref a_letters, .ref a_draft, .int z_length, .int (z_at + 1), .int z_place, .int z_token, .int z_value])), (a_letters, .inl (cI, 120, .inl z_letters))] H := hP
          have hD : va_D A [(a_this, .inr (6, [.ref a_letters, .ref a_draft, .int z_length, .int (z_at + 1), .int z_place, .int z_token, .int z_value])), (a_letters, .inl (cI, 120, .inl z_letters))] := hD
          refine lv_goto (tgt := 0) hx hb dX6_advance_35 (by decide) ?_
          exact ih0 (z_at + 1) z_value z_place z_token H locs ls hP hD hS (lv_sub hl [0] rfl) hf
  unfold fX6_advance at hf
  obtain ⟨H, hH⟩ : ∃ H, H = s.heap := ⟨_, rfl⟩
  obtain ⟨locs, hlo⟩ : ∃ q : List Loc, q = [] := ⟨_, rfl⟩
  have hS : va_S A s.heap H locs := by rw [hH, hlo]; exact hS
  rw [← hH] at hP
  suffices hgo : W p l e ({ frames := 4, cells := 0, slots := 0, locals := 111 } : Room) s m ([.ref a_this] : List Value).toArray below meth c H locs 0 0 (MQ below (rwQ D none [(a_this, .inr (6, [.ref a_letters, .ref a_draft, .int z_length, .int o_z_at, .int o_z_place, .int o_z_token, .int o_z_value])), (a_letters, .inl (cI, 120, .inl z_letters))] A) ([.ref a_this] : List Value).toArray s 0 0 A) (F0 m 0 ls []) by rw [hH, hlo] at hgo; exact hgo
  clear hH hlo
  exact hB0 fu z_at z_value z_place z_token H locs ls hP hD hS (lv_sub hl [0] rfl) hf
theorem kX6_advance {p : Program} {l : Launch} {e : Env} {R : Room} {s : State} {m : MethodId} {args : Array Value} {below : List Frame} {meth : Method} {c : Code} {H : Heap} {locs : List Loc} {cells slots : Nat} {Q : State → Prop} {cc : ByteArray} {nL pc index : Nat} {ls : Array Slot} {rest : List Value} {own : String} {D : va_G} {cI cZ cQ : ClassId} {adK adV : Nat → Nat} {a_this a_letters a_draft : Nat} {z_length z_at z_place z_token z_value : Int32} {z_letters : Nat → Int32} {fu : Nat} {o_z_at o_z_value o_z_place o_z_token : Int32} (hx : p.tables.exec = Jvm.exec) (hb : c.code = cc) (hml : c.maxLocals = nL) (hown : s.vm.findClass own = some m.cls) (hts : ∀ w ∈ TB, w.before args s = true) (hKW : KW D (TY cI cZ cQ) s) (hlk : Cond.methodLink own index yX6_advance ∈ TB) {ws : va_W} {A : Nat → Prop} (hP : va_P D vwCl ws H) (hD : va_D A ws) (hS : va_S A s.heap H locs) (hSK : SK adK adV A s s.heap) (is : List Nat) (hC : is.map (fun i => ws[i]?) = ([(a_this, .inr (6, [.ref a_letters, .ref a_draft, .int z_length, .int z_at, .int z_place, .int z_token, .int z_value])), (a_letters, .inl (cI, 120, .inl z_letters))] : va_W).map some) (hnd : va_nd is = true) (hf : fX6_advance fu z_length z_letters z_at z_value z_place z_token = some (o_z_at, o_z_value, o_z_place, o_z_token)) (hn : ls.size = nL) (hW : (rest.map fun v => v.category).sum ≤ 8) (hR : 4 + 1 ≤ R.frames ∧ 8 + (2 + 11) + 111 ≤ R.locals) (hcs : cells ≤ R.cells ∧ slots ≤ R.slots) (hdg : decode cc pc = .ok (.invokevirtual index, 3)) (kk : ∀ (H1 : Heap) (locs1 : List Loc), va_P D vwCl (rpl ws is [(a_this, .inr (6, [.ref a_letters, .ref a_draft, .int z_length, .int o_z_at, .int o_z_place, .int o_z_token, .int o_z_value])), (a_letters, .inl (cI, 120, .inl z_letters))]) H1 → va_D A (rpl ws is [(a_this, .inr (6, [.ref a_letters, .ref a_draft, .int z_length, .int o_z_at, .int o_z_place, .int o_z_token, .int o_z_value])), (a_letters, .inl (cI, 120, .inl z_letters))]) → va_S A s.heap H1 locs1 → W p l e R s m args below meth c H1 locs1 cells slots Q (F0 m (pc + 3) ls (rest))) : W p l e R s m args below meth c H locs cells slots Q (F0 m pc ls (.ref a_this :: rest)) :=
  x_rw (va_runV (As := []) (rest := rest) ⟨hx, hb, hml, hown, hts⟩ (tX6_advance hf) (cwV 0 hts (tb_V hlk q357 q358 q41 q359) rfl rfl rfl (by decide +kernel) hR) ⟨rsB, va_recv hKW.1 (subP hP hC) (ci := 6) (q0 := 0) rfl rfl, fun U hU hW => ⟨rfl, by rw [hU]; exact subP hP hC, hKW.warm hW, subD hD hC hnd, hSK.at hS hW hU (subIn hD hC)⟩⟩ rfl rfl hn rfl (lv_room hW) hdg hcs) hP hD hS is hC rfl kk

-- HalfPlanks$Reader.readNumber(II)Z
set_option maxHeartbeats 4000000 in
set_option maxRecDepth 100000 in
theorem tX6_readNumber {l : Launch} {D : va_G} {cI cZ cQ : ClassId} {adK adV : Nat → Nat} {a_this a_letters a_draft : Nat} {z_length z_at z_place z_token z_value p1 p2 : Int32} {z_letters : Nat → Int32} {fu : Nat} {r : Int32} {o_z_at o_z_value o_z_place o_z_token : Int32} (hf : fX6_readNumber fu z_length z_letters z_at z_value z_place z_token p1 p2 = some (r, o_z_at, o_z_value, o_z_place, o_z_token)) : Met l yX6_readNumber (.code yX6_readNumber cX6_readNumber 3 (some .boolean) :: TB) ({ frames := 5, cells := 0, slots := 0, locals := 132 } : Room) (rsP D (TY cI cZ cQ) adK adV [(a_this, .inr (6, [.ref a_letters, .ref a_draft, .int z_length, .int z_at, .int z_place, .int z_token, .int z_value])), (a_letters, .inl (cI, 120, .inl z_letters))] [.ref a_this, .int p1, .int p2]) (rwQ D (some (.int r)) [(a_this, .inr (6, [.ref a_letters, .ref a_draft, .int z_length, .int o_z_at, .int o_z_place, .int o_z_token, .int o_z_value])), (a_letters, .inl (cI, 120, .inl z_letters))] (inW [(a_this, .inr (6, [.ref a_letters, .ref a_draft, .int z_length, .int z_at, .int z_place, .int z_token, .int z_value])), (a_letters, .inl (cI, 120, .inl z_letters))])) 0 0 (inW [(a_this, .inr (6, [.ref a_letters, .ref a_draft, .int z_length, .int z_at, .int z_place, .int z_token, .int z_value])), (a_letters, .inl (cI, 120, .inl z_letters))]) := by
  refine Met.ofW (cc := cX6_readNumber) (maxL := 3) (ret := (some .boolean)) (by decide) rfl ?_
  intro p e s m args below meth c s₁ B hml hv
  obtain ⟨rfl, hP, hKW, hD0, hSK⟩ := hv
  have hx := B.exec
  have hb := B.bytes
  have hr := B.returns
  have hts : ∀ w ∈ TB, w.before ([.ref a_this, .int p1, .int p2] : List Value).toArray s = true := fun w h => atoms_spec (ws := .code yX6_readNumber cX6_readNumber 3 (some .boolean) :: TB) B.pre w (List.mem_cons_of_mem _ h)
  have hown : s.vm.findClass RX6 = some m.cls := findClass_of_methodNamed B.named
  have hlocks := B.notSynchronized
  have hK := hKW.1
  have hD := inW_D hD0
  generalize hAe : inW [(a_this, .inr (6, [.ref a_letters, .ref a_draft, .int z_length, .int z_at, .int z_place, .int z_token, .int z_value])), (a_letters, .inl (cI, 120, .inl z_letters))] = A at hD hSK ⊢
  have hS : va_S A s.heap s.heap [] := va_S.rf
  have hl := lv_entry [.ref a_this, .int p1, .int p2] (n := 3) (Nat.le_of_ble_eq_true rfl)
  rw [lg_entry_eq]
  generalize (lg_sl [.ref a_this, .int p1, .int p2] ++ List.replicate (3 - (lg_sl [.ref a_this, .int p1, .int p2]).length) Slot.unset).toArray = ls at hl ⊢
  have hl : lv_has ls 3 [(0, .ref a_this), (1, .int p1), (2, .int p2)] := hl
  show W p l e ({ frames := 5, cells := 0, slots := 0, locals := 132 } : Room) s m ([.ref a_this, .int p1, .int p2] : List Value).toArray below meth c s.heap [] 0 0 (MQ below (rwQ D (some (.int r)) [(a_this, .inr (6, [.ref a_letters, .ref a_draft, .int z_length, .int o_z_at, .int o_z_place, .int o_z_token, .int o_z_value])), (a_letters, .inl (cI, 120, .inl z_letters))] A) ([.ref a_this, .int p1, .int p2] : List Value).toArray s 0 0 A) (F0 m 0 ls [])
  have hP : va_P D vwCl [(a_this, .inr (6, [.ref a_letters, .ref a_draft, .int z_length, .int z_at, .int z_place, .int z_token, .int z_value])), (a_letters, .inl (cI, 120, .inl z_letters))] s.heap := hP
  have hD : va_D A [(a_this, .inr (6, [.ref a_letters, .ref a_draft, .int z_length, .int z_at, .int z_place, .int z_token, .int z_value])), (a_letters, .inl (cI, 120, .inl z_letters))] := hD
  unfold fX6_readNumber at hf
  obtain ⟨H, hH⟩ : ∃ H, H = s.heap := ⟨_, rfl⟩
  obtain ⟨locs, hlo⟩ : ∃ q : List Loc, q = [] := ⟨_, rfl⟩
  have hS : va_S A s.heap H locs := by rw [hH, hlo]; exact hS
  rw [← hH] at hP
  suffices hgo : W p l e ({ frames := 5, cells := 0, slots := 0, locals := 132 } : Room) s m ([.ref a_this, .int p1, .int p2] : List Value).toArray below meth c H locs 0 0 (MQ below (rwQ D (some (.int r)) [(a_this, .inr (6, [.ref a_letters, .ref a_draft, .int z_length, .int o_z_at, .int o_z_place, .int o_z_token, .int o_z_value])), (a_letters, .inl (cI, 120, .inl z_letters))] A) ([.ref a_this, .int p1, .int p2] : List Value).toArray s 0 0 A) (F0 m 0 ls []) by rw [hH, hlo] at hgo; exact hgo
  clear hH hlo
  refine lv_aload_n hx hb dX6_readNumber_0 rfl (lv_at hl 0 rfl) ?_
  obtain ⟨⟨g2, g3, g4, g5⟩, hv1, hf⟩ := ob hf
  dsimp only at hf
  refine kX6_advance hx hb hml hown hts hKW q356 hP hD hS hSK [0, 1] rfl (by decide) hv1 hl.1 (Nat.le_of_ble_eq_true rfl) ⟨Nat.le_of_ble_eq_true rfl, Nat.le_of_ble_eq_true rfl⟩ ⟨Nat.zero_le _, Nat.zero_le _⟩ dX6_readNumber_1 (fun H locs hP hD hS => ?_)
  have hP : va_P D vwCl [(a_this, .inr (6, [.ref a_letters, .ref a_draft, .int z_length, .int g2, .int g4, .int g5, .int g3])), (a_letters, .inl (cI, 120, .inl z_letters))] H := hP
  have hD : va_D A [(a_this, .inr (6, [.ref a_letters, .ref a_draft, .int z_length, .int g2, .int g4, .int g5, .int g3])), (a_letters, .inl (cI, 120, .inl z_letters))] := hD
  refine lv_aload_n hx hb dX6_readNumber_4 rfl (lv_at hl 0 rfl) ?_
  refine va_get (D := D) (ci := 6) (v := .int g5) (C := RX6) (T := TX6) (N := 7) hx hb hts inTX6 hown hK hP 0 rfl rfl 5 (by decide) (hts _ q132) (fun _ h9 => h9) rfl dX6_readNumber_5 ?_
  refine lv_bipush (v := -2) hx hb dX6_readNumber_8 (by decide) ?_
  refine lv_icmp_ne (tgt := 29) hx hb dX6_readNumber_10 (by decide) (fun c6 => ?_) (fun c6 => ?_)
  · replace hf := ie hf c6
    refine lv_iconst (v := 0) hx hb dX6_readNumber_29 (by decide) ?_
    cases hf
    exact W.zret hx hb hr rfl (fun t ht _ => ⟨rfl, by rw [ht]; exact hP, hS.F ht⟩) hS.2.2 dX6_readNumber_30
  · replace hf := it hf c6
    refine lv_aload_n hx hb dX6_readNumber_13 rfl (lv_at hl 0 rfl) ?_
    refine va_get (D := D) (ci := 6) (v := .int g3) (C := RX6) (T := TX6) (N := 7) hx hb hts inTX6 hown hK hP 0 rfl rfl 6 (by decide) (hts _ q133) (fun _ h9 => h9) rfl dX6_readNumber_14 ?_
    refine lv_iload_n hx hb dX6_readNumber_17 rfl (lv_at hl 1 rfl) ?_
    refine lv_iload_n hx hb dX6_readNumber_18 rfl (lv_at hl 2 rfl) ?_
    obtain ⟨v7, hv7, hf⟩ := ob hf
    refine knX8_within hx hb hml hown hts hKW (hKW.2 ("HalfPlanks$Reader", 94, yX8_within, "HalfPlanks") (by decide +kernel))  hv7 hl.1 (Nat.le_of_ble_eq_true rfl) ⟨Nat.le_of_ble_eq_true rfl, Nat.le_of_ble_eq_true rfl⟩ ⟨Nat.zero_le _, Nat.zero_le _⟩ dX6_readNumber_19 ?_
    refine lv_if_eq (tgt := 29) hx hb dX6_readNumber_22 (by decide) (fun c8 => ?_) (fun c8 => ?_)
    · replace hf := it hf c8
      refine lv_iconst (v := 0) hx hb dX6_readNumber_29 (by decide) ?_
      cases hf
      exact W.zret hx hb hr rfl (fun t ht _ => ⟨rfl, by rw [ht]; exact hP, hS.F ht⟩) hS.2.2 dX6_readNumber_30
    · replace hf := ie hf c8
      refine lv_iconst (v := 1) hx hb dX6_readNumber_25 (by decide) ?_
      refine lv_goto (tgt := 30) hx hb dX6_readNumber_26 (by decide) ?_
      cases hf
      exact W.zret hx hb hr rfl (fun t ht _ => ⟨rfl, by rw [ht]; exact hP, hS.F ht⟩) hS.2.2 dX6_readNumber_30
theorem kX6_readNumber {p : Program} {l : Launch} {e : Env} {R : Room} {s : State} {m : MethodId} {args : Array Value} {below : List Frame} {meth : Method} {c : Code} {H : Heap} {locs : List Loc} {cells slots : Nat} {Q : State → Prop} {cc : ByteArray} {nL pc index : Nat} {ls : Array Slot} {rest : List Value} {own : String} {D : va_G} {cI cZ cQ : ClassId} {adK adV : Nat → Nat} {a_this a_letters a_draft : Nat} {z_length z_at z_place z_token z_value p1 p2 : Int32} {z_letters : Nat → Int32} {fu : Nat} {r : Int32} {o_z_at o_z_value o_z_place o_z_token : Int32} (hx : p.tables.exec = Jvm.exec) (hb : c.code = cc) (hml : c.maxLocals = nL) (hown : s.vm.findClass own = some m.cls) (hts : ∀ w ∈ TB, w.before args s = true) (hKW : KW D (TY cI cZ cQ) s) (hlk : Cond.methodLink own index yX6_readNumber ∈ TB) {ws : va_W} {A : Nat → Prop} (hP : va_P D vwCl ws H) (hD : va_D A ws) (hS : va_S A s.heap H locs) (hSK : SK adK adV A s s.heap) (is : List Nat) (hC : is.map (fun i => ws[i]?) = ([(a_this, .inr (6, [.ref a_letters, .ref a_draft, .int z_length, .int z_at, .int z_place, .int z_token, .int z_value])), (a_letters, .inl (cI, 120, .inl z_letters))] : va_W).map some) (hnd : va_nd is = true) (hf : fX6_readNumber fu z_length z_letters z_at z_value z_place z_token p1 p2 = some (r, o_z_at, o_z_value, o_z_place, o_z_token)) (hn : ls.size = nL) (hW : (rest.map fun v => v.category).sum ≤ 8) (hR : 5 + 1 ≤ R.frames ∧ 8 + (3 + 11) + 132 ≤ R.locals) (hcs : cells ≤ R.cells ∧ slots ≤ R.slots) (hdg : decode cc pc = .ok (.invokevirtual index, 3)) (kk : ∀ (H1 : Heap) (locs1 : List Loc), va_P D vwCl (rpl ws is [(a_this, .inr (6, [.ref a_letters, .ref a_draft, .int z_length, .int o_z_at, .int o_z_place, .int o_z_token, .int o_z_value])), (a_letters, .inl (cI, 120, .inl z_letters))]) H1 → va_D A (rpl ws is [(a_this, .inr (6, [.ref a_letters, .ref a_draft, .int z_length, .int o_z_at, .int o_z_place, .int o_z_token, .int o_z_value])), (a_letters, .inl (cI, 120, .inl z_letters))]) → va_S A s.heap H1 locs1 → W p l e R s m args below meth c H1 locs1 cells slots Q (F0 m (pc + 3) ls (.int r :: rest))) : W p l e R s m args below meth c H locs cells slots Q (F0 m pc ls (.int p2 :: .int p1 :: .ref a_this :: rest)) :=
  x_rw (va_runV (As := [.int p1, .int p2]) (rest := rest) ⟨hx, hb, hml, hown, hts⟩ (tX6_readNumber hf) (cwV 2 hts (tb_V hlk q458 q459 q41 q460) rfl rfl rfl (by decide +kernel) hR) ⟨rsB, va_recv hKW.1 (subP hP hC) (ci := 6) (q0 := 0) rfl rfl, fun U hU hW => ⟨rfl, by rw [hU]; exact subP hP hC, hKW.warm hW, subD hD hC hnd, hSK.at hS hW hU (subIn hD hC)⟩⟩ rfl rfl hn rfl (lv_room hW) hdg hcs) hP hD hS is hC rfl kk

-- HalfPlanks$Reader.readPlanks()Z
set_option maxHeartbeats 4000000 in
set_option maxRecDepth 100000 in
theorem tX6_readPlanks {l : Launch} {D : va_G} {cI cZ cQ : ClassId} {adK adV : Nat → Nat} {a_this a_letters a_draft a_draft_bank a_draft_kind a_draft_word a_draft_slow a_draft_told : Nat} {z_length z_at z_place z_token z_value z_draft_planks z_draft_size z_draft_sworn : Int32} {z_letters : Nat → Int32} {fu : Nat} {r : Int32} {o_z_at o_z_value o_z_place o_z_token o_z_draft_planks : Int32} (hf : fX6_readPlanks fu z_length z_letters z_at z_value z_place z_token z_draft_planks = some (r, o_z_at, o_z_value, o_z_place, o_z_token, o_z_draft_planks)) : Met l yX6_readPlanks (.code yX6_readPlanks cX6_readPlanks 1 (some .boolean) :: TB) ({ frames := 6, cells := 0, slots := 0, locals := 154 } : Room) (rsP D (TY cI cZ cQ) adK adV [(a_this, .inr (6, [.ref a_letters, .ref a_draft, .int z_length, .int z_at, .int z_place, .int z_token, .int z_value])), (a_letters, .inl (cI, 120, .inl z_letters)), (a_draft, .inr (0, [.int z_draft_planks, .int z_draft_size, .int z_draft_sworn, .ref a_draft_bank, .ref a_draft_kind, .ref a_draft_word, .ref a_draft_slow, .ref a_draft_told]))] [.ref a_this]) (rwQ D (some (.int r)) [(a_this, .inr (6, [.ref a_letters, .ref a_draft, .int z_length, .int o_z_at, .int o_z_place, .int o_z_token, .int o_z_value])), (a_letters, .inl (cI, 120, .inl z_letters)), (a_draft, .inr (0, [.int o_z_draft_planks, .int z_draft_size, .int z_draft_sworn, .ref a_draft_bank, .ref a_draft_kind, .ref a_draft_word, .ref a_draft_slow, .ref a_draft_told]))] (inW [(a_this, .inr (6, [.ref a_letters, .ref a_draft, .int z_length, .int z_at, .int z_place, .int z_token, .int z_value])), (a_letters, .inl (cI, 120, .inl z_letters)), (a_draft, .inr (0, [.int z_draft_planks, .int z_draft_size, .int z_draft_sworn, .ref a_draft_bank, .ref a_draft_kind, .ref a_draft_word, .ref a_draft_slow, .ref a_draft_told]))])) 0 0 (inW [(a_this, .inr (6, [.ref a_letters, .ref a_draft, .int z_length, .int z_at, .int z_place, .int z_token, .int z_value])), (a_letters, .inl (cI, 120, .inl z_letters)), (a_draft, .inr (0, [.int z_draft_planks, .int z_draft_size, .int z_draft_sworn, .ref a_draft_bank, .ref a_draft_kind, .ref a_draft_word, .ref a_draft_slow, .ref a_draft_told]))]) := by
  refine Met.ofW (cc := cX6_readPlanks) (maxL := 1) (ret := (some .boolean)) (by decide) rfl ?_
  intro p e s m args below meth c s₁ B hml hv
  obtain ⟨rfl, hP, hKW, hD0, hSK⟩ := hv
  have hx := B.exec
  have hb := B.bytes
  have hr := B.returns
  have hts : ∀ w ∈ TB, w.before ([.ref a_this] : List Value).toArray s = true := fun w h => atoms_spec (ws := .code yX6_readPlanks cX6_readPlanks 1 (some .boolean) :: TB) B.pre w (List.mem_cons_of_mem _ h)
  have hown : s.vm.findClass RX6 = some m.cls := findClass_of_methodNamed B.named
  have hlocks := B.notSynchronized
  have hK := hKW.1
  have hD := inW_D hD0
  generalize hAe : inW [(a_this, .inr (6, [.ref a_letters, .ref a_draft, .int z_length, .int z_at, .int z_place, .int z_token, .int z_value])), (a_letters, .inl (cI, 120, .inl z_letters)), (a_draft, .inr (0, [.int z_draft_planks, .int z_draft_size, .int z_draft_sworn, .ref a_draft_bank, .ref a_draft_kind, .ref a_draft_word, .ref a_draft_slow, .ref a_draft_told]))] = A at hD hSK ⊢
  have hS : va_S A s.heap s.heap [] := va_S.rf
  have hl := lv_entry [.ref a_this] (n := 1) (Nat.le_of_ble_eq_true rfl)
  rw [lg_entry_eq]
  generalize (lg_sl [.ref a_this] ++ List.replicate (1 - (lg_sl [.ref a_this]).length) Slot.unset).toArray = ls at hl ⊢
  have hl : lv_has ls 1 [(0, .ref a_this)] := hl
  show W p l e ({ frames := 6, cells := 0, slots := 0, locals := 154 } : Room) s m ([.ref a_this] : List Value).toArray below meth c s.heap [] 0 0 (MQ below (rwQ D (some (.int r)) [(a_this, .inr (6, [.ref a_letters, .ref a_draft, .int z_length, .int o_z_at, .int o_z_place, .int o_z_token, .int o_z_value])), (a_letters, .inl (cI, 120, .inl z_letters)), (a_draft, .inr (0, [.int o_z_draft_planks, .int z_draft_size, .int z_draft_sworn, .ref a_draft_bank, .ref a_draft_kind, .ref a_draft_word, .ref a_draft_slow, .ref a_draft_told]))] A) ([.ref a_this] : List Value).toArray s 0 0 A) (F0 m 0 ls [])
  have hP : va_P D vwCl [(a_this, .inr (6, [.ref a_letters, .ref a_draft, .int z_length, .int z_at, .int z_place, .int z_token, .int z_value])), (a_letters, .inl (cI, 120, .inl z_letters)), (a_draft, .inr (0, [.int z_draft_planks, .int z_draft_size, .int z_draft_sworn, .ref a_draft_bank, .ref a_draft_kind, .ref a_draft_word, .ref a_draft_slow, .ref a_draft_told]))] s.heap := hP
  have hD : va_D A [(a_this, .inr (6, [.ref a_letters, .ref a_draft, .int z_length, .int z_at, .int z_place, .int z_token, .int z_value])), (a_letters, .inl (cI, 120, .inl z_letters)), (a_draft, .inr (0, [.int z_draft_planks, .int z_draft_size, .int z_draft_sworn, .ref a_draft_bank, .ref a_draft_kind, .ref a_draft_word, .ref a_draft_slow, .ref a_draft_told]))] := hD
  unfold fX6_readPlanks at hf
  obtain ⟨H, hH⟩ : ∃ H, H = s.heap := ⟨_, rfl⟩
  obtain ⟨locs, hlo⟩ : ∃ q : List Loc, q = [] := ⟨_, rfl⟩
  have hS : va_S A s.heap H locs := by rw [hH, hlo]; exact hS
  rw [← hH] at hP
  suffices hgo : W p l e ({ frames := 6, cells := 0, slots := 0, locals := 154 } : Room) s m ([.ref a_this] : List Value).toArray below meth c H locs 0 0 (MQ below (rwQ D (some (.int r)) [(a_this, .inr (6, [.ref a_letters, .ref a_draft, .int z_length, .int o_z_at, .int o_z_place, .int o_z_token, .int o_z_value])), (a_letters, .inl (cI, 120, .inl z_letters)), (a_draft, .inr (0, [.int o_z_draft_planks, .int z_draft_size, .int z_draft_sworn, .ref a_draft_bank, .ref a_draft_kind, .ref a_draft_word, .ref a_draft_slow, .ref a_draft_told]))] A) ([.ref a_this] : List Value).toArray s 0 0 A) (F0 m 0 ls []) by rw [hH, hlo] at hgo; exact hgo
  clear hH hlo
  refine lv_aload_n hx hb dX6_readPlanks_0 rfl (lv_at hl 0 rfl) ?_
  refine lv_iconst (v := 1) hx hb dX6_readPlanks_1 (by decide) ?_
  refine lv_bipush (v := 8) hx hb dX6_readPlanks_2 (by decide) ?_
  obtain ⟨⟨v1, g2, g3, g4, g5⟩, hv1, hf⟩ := ob hf
  dsimp only at hf
  refine kX6_readNumber hx hb hml hown hts hKW q457 hP hD hS hSK [0, 1] rfl (by decide) hv1 hl.1 (Nat.le_of_ble_eq_true rfl) ⟨Nat.le_of_ble_eq_true rfl, Nat.le_of_ble_eq_true rfl⟩ ⟨Nat.zero_le _, Nat.zero_le _⟩ dX6_readPlanks_4 (fun H locs hP hD hS => ?_)
  have hP : va_P D vwCl [(a_this, .inr (6, [.ref a_letters, .ref a_draft, .int z_length, .int g2, .int g4, .int g5, .int g3])), (a_letters, .inl (cI, 120, .inl z_letters)), (a_draft, .inr (0, [.int z_draft_planks, .int z_draft_size, .int z_draft_sworn, .ref a_draft_bank, .ref a_draft_kind, .ref a_draft_word, .ref a_draft_slow, .ref a_draft_told]))] H := hP
  have hD : va_D A [(a_this, .inr (6, [.ref a_letters, .ref a_draft, .int z_length, .int g2, .int g4, .int g5, .int g3])), (a_letters, .inl (cI, 120, .inl z_letters)), (a_draft, .inr (0, [.int z_draft_planks, .int z_draft_size, .int z_draft_sworn, .ref a_draft_bank, .ref a_draft_kind, .ref a_draft_word, .ref a_draft_slow, .ref a_draft_told]))] := hD
  refine lv_if_ne (tgt := 12) hx hb dX6_readPlanks_7 (by decide) (fun c6 => ?_) (fun c6 => ?_)
  · replace hf := ie hf c6
    refine lv_aload_n hx hb dX6_readPlanks_12 rfl (lv_at hl 0 rfl) ?_
    refine va_get (D := D) (ci := 6) (v := .ref a_draft) (C := RX6) (T := TX6) (N := 7) hx hb hts inTX6 hown hK hP 0 rfl rfl 1 (by decide) (hts _ q128) (fun _ h9 => h9) rfl dX6_readPlanks_13 ?_
    refine lv_aload_n hx hb dX6_readPlanks_16 rfl (lv_at hl 0 rfl) ?_
    refine va_get (D := D) (ci := 6) (v := .int g3) (C := RX6) (T := TX6) (N := 7) hx hb hts inTX6 hown hK hP 0 rfl rfl 6 (by decide) (hts _ q133) (fun _ h9 => h9) rfl dX6_readPlanks_17 ?_
    refine va_put (D := D) (ci := 0) (v := .int g3) (ty := .int) (C := RX0) (T := TX0) (N := 8) hx hb hts inTX0 tyX0 tyX0_ok nmX0 hown hK hP hD hS 2 rfl rfl 0 (by decide) (hts _ q74) (fun _ h9 => h9) rfl (by decide +kernel) rfl rfl (Nat.le_of_ble_eq_true rfl) dX6_readPlanks_20 (fun H locs hP hD hS => ?_)
    have hP : va_P D vwCl [(a_this, .inr (6, [.ref a_letters, .ref a_draft, .int z_length, .int g2, .int g4, .int g5, .int g3])), (a_letters, .inl (cI, 120, .inl z_letters)), (a_draft, .inr (0, [.int g3, .int z_draft_size, .int z_draft_sworn, .ref a_draft_bank, .ref a_draft_kind, .ref a_draft_word, .ref a_draft_slow, .ref a_draft_told]))] H := hP
    have hD : va_D A [(a_this, .inr (6, [.ref a_letters, .ref a_draft, .int z_length, .int g2, .int g4, .int g5, .int g3])), (a_letters, .inl (cI, 120, .inl z_letters)), (a_draft, .inr (0, [.int g3, .int z_draft_size, .int z_draft_sworn, .ref a_draft_bank, .ref a_draft_kind, .ref a_draft_word, .ref a_draft_slow, .ref a_draft_told]))] := hD
    refine lv_iconst (v := 1) hx hb dX6_readPlanks_23 (by decide) ?_
    cases hf
    exact W.zret hx hb hr rfl (fun t ht _ => ⟨rfl, by rw [ht]; exact hP, hS.F ht⟩) hS.2.2 dX6_readPlanks_24
  · replace hf := it hf c6
    refine lv_iconst (v := 0) hx hb dX6_readPlanks_10 (by decide) ?_
    cases hf
    exact W.zret hx hb hr rfl (fun t ht _ => ⟨rfl, by rw [ht]; exact hP, hS.F ht⟩) hS.2.2 dX6_readPlanks_11
theorem kX6_readPlanks {p : Program} {l : Launch} {e : Env} {R : Room} {s : State} {m : MethodId} {args : Array Value} {below : List Frame} {meth : Method} {c : Code} {H : Heap} {locs : List Loc} {cells slots : Nat} {Q : State → Prop} {cc : ByteArray} {nL pc index : Nat} {ls : Array Slot} {rest : List Value} {own : String} {D : va_G} {cI cZ cQ : ClassId} {adK adV : Nat → Nat} {a_this a_letters a_draft a_draft_bank a_draft_kind a_draft_word a_draft_slow a_draft_told : Nat} {z_length z_at z_place z_token z_value z_draft_planks z_draft_size z_draft_sworn : Int32} {z_letters : Nat → Int32} {fu : Nat} {r : Int32} {o_z_at o_z_value o_z_place o_z_token o_z_draft_planks : Int32} (hx : p.tables.exec = Jvm.exec) (hb : c.code = cc) (hml : c.maxLocals = nL) (hown : s.vm.findClass own = some m.cls) (hts : ∀ w ∈ TB, w.before args s = true) (hKW : KW D (TY cI cZ cQ) s) (hlk : Cond.methodLink own index yX6_readPlanks ∈ TB) {ws : va_W} {A : Nat → Prop} (hP : va_P D vwCl ws H) (hD : va_D A ws) (hS : va_S A s.heap H locs) (hSK : SK adK adV A s s.heap) (is : List Nat) (hC : is.map (fun i => ws[i]?) = ([(a_this, .inr (6, [.ref a_letters, .ref a_draft, .int z_length, .int z_at, .int z_place, .int z_token, .int z_value])), (a_letters, .inl (cI, 120, .inl z_letters)), (a_draft, .inr (0, [.int z_draft_planks, .int z_draft_size, .int z_draft_sworn, .ref a_draft_bank, .ref a_draft_kind, .ref a_draft_word, .ref a_draft_slow, .ref a_draft_told]))] : va_W).map some) (hnd : va_nd is = true) (hf : fX6_readPlanks fu z_length z_letters z_at z_value z_place z_token z_draft_planks = some (r, o_z_at, o_z_value, o_z_place, o_z_token, o_z_draft_planks)) (hn : ls.size = nL) (hW : (rest.map fun v => v.category).sum ≤ 8) (hR : 6 + 1 ≤ R.frames ∧ 8 + (1 + 11) + 154 ≤ R.locals) (hcs : cells ≤ R.cells ∧ slots ≤ R.slots) (hdg : decode cc pc = .ok (.invokevirtual index, 3)) (kk : ∀ (H1 : Heap) (locs1 : List Loc), va_P D vwCl (rpl ws is [(a_this, .inr (6, [.ref a_letters, .ref a_draft, .int z_length, .int o_z_at, .int o_z_place, .int o_z_token, .int o_z_value])), (a_letters, .inl (cI, 120, .inl z_letters)), (a_draft, .inr (0, [.int o_z_draft_planks, .int z_draft_size, .int z_draft_sworn, .ref a_draft_bank, .ref a_draft_kind, .ref a_draft_word, .ref a_draft_slow, .ref a_draft_told]))]) H1 → va_D A (rpl ws is [(a_this, .inr (6, [.ref a_letters, .ref a_draft, .int z_length, .int o_z_at, .int o_z_place, .int o_z_token, .int o_z_value])), (a_letters, .inl (cI, 120, .inl z_letters)), (a_draft, .inr (0, [.int o_z_draft_planks, .int z_draft_size, .int z_draft_sworn, .ref a_draft_bank, .ref a_draft_kind, .ref a_draft_word, .ref a_draft_slow, .ref a_draft_told]))]) → va_S A s.heap H1 locs1 → W p l e R s m args below meth c H1 locs1 cells slots Q (F0 m (pc + 3) ls (.int r :: rest))) : W p l e R s m args below meth c H locs cells slots Q (F0 m pc ls (.ref a_this :: rest)) :=
  x_rw (va_runV (As := []) (rest := rest) ⟨hx, hb, hml, hown, hts⟩ (tX6_readPlanks hf) (cwV 0 hts (tb_V hlk q454 q455 q41 q456) rfl rfl rfl (by decide +kernel) hR) ⟨rsB, va_recv hKW.1 (subP hP hC) (ci := 6) (q0 := 0) rfl rfl, fun U hU hW => ⟨rfl, by rw [hU]; exact subP hP hC, hKW.warm hW, subD hD hC hnd, hSK.at hS hW hU (subIn hD hC)⟩⟩ rfl rfl hn rfl (lv_room hW) hdg hcs) hP hD hS is hC rfl kk

-- HalfPlanks$Reader.readEnd()Z
set_option maxHeartbeats 4000000 in
set_option maxRecDepth 100000 in
theorem tX6_readEnd {l : Launch} {D : va_G} {cI cZ cQ : ClassId} {adK adV : Nat → Nat} {a_this a_letters a_draft : Nat} {z_length z_at z_place z_token z_value : Int32} {z_letters : Nat → Int32} {fu : Nat} {r : Int32} {o_z_at o_z_value o_z_place o_z_token : Int32} (hf : fX6_readEnd fu z_length z_letters z_at z_value z_place z_token = some (r, o_z_at, o_z_value, o_z_place, o_z_token)) : Met l yX6_readEnd (.code yX6_readEnd cX6_readEnd 1 (some .boolean) :: TB) ({ frames := 5, cells := 0, slots := 0, locals := 132 } : Room) (rsP D (TY cI cZ cQ) adK adV [(a_this, .inr (6, [.ref a_letters, .ref a_draft, .int z_length, .int z_at, .int z_place, .int z_token, .int z_value])), (a_letters, .inl (cI, 120, .inl z_letters))] [.ref a_this]) (rwQ D (some (.int r)) [(a_this, .inr (6, [.ref a_letters, .ref a_draft, .int z_length, .int o_z_at, .int o_z_place, .int o_z_token, .int o_z_value])), (a_letters, .inl (cI, 120, .inl z_letters))] (inW [(a_this, .inr (6, [.ref a_letters, .ref a_draft, .int z_length, .int z_at, .int z_place, .int z_token, .int z_value])), (a_letters, .inl (cI, 120, .inl z_letters))])) 0 0 (inW [(a_this, .inr (6, [.ref a_letters, .ref a_draft, .int z_length, .int z_at, .int z_place, .int z_token, .int z_value])), (a_letters, .inl (cI, 120, .inl z_letters))]) := by
  refine Met.ofW (cc := cX6_readEnd) (maxL := 1) (ret := (some .boolean)) (by decide) rfl ?_
  intro p e s m args below meth c s₁ B hml hv
  obtain ⟨rfl, hP, hKW, hD0, hSK⟩ := hv
  have hx := B.exec
  have hb := B.bytes
  have hr := B.returns
  have hts : ∀ w ∈ TB, w.before ([.ref a_this] : List Value).toArray s = true := fun w h => atoms_spec (ws := .code yX6_readEnd cX6_readEnd 1 (some .boolean) :: TB) B.pre w (List.mem_cons_of_mem _ h)
  have hown : s.vm.findClass RX6 = some m.cls := findClass_of_methodNamed B.named
  have hlocks := B.notSynchronized
  have hK := hKW.1
  have hD := inW_D hD0
  generalize hAe : inW [(a_this, .inr (6, [.ref a_letters, .ref a_draft, .int z_length, .int z_at, .int z_place, .int z_token, .int z_value])), (a_letters, .inl (cI, 120, .inl z_letters))] = A at hD hSK ⊢
  have hS : va_S A s.heap s.heap [] := va_S.rf
  have hl := lv_entry [.ref a_this] (n := 1) (Nat.le_of_ble_eq_true rfl)
  rw [lg_entry_eq]
  generalize (lg_sl [.ref a_this] ++ List.replicate (1 - (lg_sl [.ref a_this]).length) Slot.unset).toArray = ls at hl ⊢
  have hl : lv_has ls 1 [(0, .ref a_this)] := hl
  show W p l e ({ frames := 5, cells := 0, slots := 0, locals := 132 } : Room) s m ([.ref a_this] : List Value).toArray below meth c s.heap [] 0 0 (MQ below (rwQ D (some (.int r)) [(a_this, .inr (6, [.ref a_letters, .ref a_draft, .int z_length, .int o_z_at, .int o_z_place, .int o_z_token, .int o_z_value])), (a_letters, .inl (cI, 120, .inl z_letters))] A) ([.ref a_this] : List Value).toArray s 0 0 A) (F0 m 0 ls [])
  have hP : va_P D vwCl [(a_this, .inr (6, [.ref a_letters, .ref a_draft, .int z_length, .int z_at, .int z_place, .int z_token, .int z_value])), (a_letters, .inl (cI, 120, .inl z_letters))] s.heap := hP
  have hD : va_D A [(a_this, .inr (6, [.ref a_letters, .ref a_draft, .int z_length, .int z_at, .int z_place, .int z_token, .int z_value])), (a_letters, .inl (cI, 120, .inl z_letters))] := hD
  unfold fX6_readEnd at hf
  obtain ⟨H, hH⟩ : ∃ H, H = s.heap := ⟨_, rfl⟩
  obtain ⟨locs, hlo⟩ : ∃ q : List Loc, q = [] := ⟨_, rfl⟩
  have hS : va_S A s.heap H locs := by rw [hH, hlo]; exact hS
  rw [← hH] at hP
  suffices hgo : W p l e ({ frames := 5, cells := 0, slots := 0, locals := 132 } : Room) s m ([.ref a_this] : List Value).toArray below meth c H locs 0 0 (MQ below (rwQ D (some (.int r)) [(a_this, .inr (6, [.ref a_letters, .ref a_draft, .int z_length, .int o_z_at, .int o_z_place, .int o_z_token, .int o_z_value])), (a_letters, .inl (cI, 120, .inl z_letters))] A) ([.ref a_this] : List Value).toArray s 0 0 A) (F0 m 0 ls []) by rw [hH, hlo] at hgo; exact hgo
  clear hH hlo
  refine lv_aload_n hx hb dX6_readEnd_0 rfl (lv_at hl 0 rfl) ?_
  obtain ⟨⟨g2, g3, g4, g5⟩, hv1, hf⟩ := ob hf
  dsimp only at hf
  refine kX6_advance hx hb hml hown hts hKW q356 hP hD hS hSK [0, 1] rfl (by decide) hv1 hl.1 (Nat.le_of_ble_eq_true rfl) ⟨Nat.le_of_ble_eq_true rfl, Nat.le_of_ble_eq_true rfl⟩ ⟨Nat.zero_le _, Nat.zero_le _⟩ dX6_readEnd_1 (fun H locs hP hD hS => ?_)
  have hP : va_P D vwCl [(a_this, .inr (6, [.ref a_letters, .ref a_draft, .int z_length, .int g2, .int g4, .int g5, .int g3])), (a_letters, .inl (cI, 120, .inl z_letters))] H := hP
  have hD : va_D A [(a_this, .inr (6, [.ref a_letters, .ref a_draft, .int z_length, .int g2, .int g4, .int g5, .int g3])), (a_letters, .inl (cI, 120, .inl z_letters))] := hD
  refine lv_aload_n hx hb dX6_readEnd_4 rfl (lv_at hl 0 rfl) ?_
  refine va_get (D := D) (ci := 6) (v := .int g5) (C := RX6) (T := TX6) (N := 7) hx hb hts inTX6 hown hK hP 0 rfl rfl 5 (by decide) (hts _ q132) (fun _ h9 => h9) rfl dX6_readEnd_5 ?_
  refine lv_bipush (v := 59) hx hb dX6_readEnd_8 (by decide) ?_
  refine lv_icmp_ne (tgt := 17) hx hb dX6_readEnd_10 (by decide) (fun c6 => ?_) (fun c6 => ?_)
  · replace hf := ie hf c6
    refine lv_iconst (v := 0) hx hb dX6_readEnd_17 (by decide) ?_
    cases hf
    exact W.zret hx hb hr rfl (fun t ht _ => ⟨rfl, by rw [ht]; exact hP, hS.F ht⟩) hS.2.2 dX6_readEnd_18
  · replace hf := it hf c6
    refine lv_iconst (v := 1) hx hb dX6_readEnd_13 (by decide) ?_
    refine lv_goto (tgt := 18) hx hb dX6_readEnd_14 (by decide) ?_
    cases hf
    exact W.zret hx hb hr rfl (fun t ht _ => ⟨rfl, by rw [ht]; exact hP, hS.F ht⟩) hS.2.2 dX6_readEnd_18
theorem kX6_readEnd {p : Program} {l : Launch} {e : Env} {R : Room} {s : State} {m : MethodId} {args : Array Value} {below : List Frame} {meth : Method} {c : Code} {H : Heap} {locs : List Loc} {cells slots : Nat} {Q : State → Prop} {cc : ByteArray} {nL pc index : Nat} {ls : Array Slot} {rest : List Value} {own : String} {D : va_G} {cI cZ cQ : ClassId} {adK adV : Nat → Nat} {a_this a_letters a_draft : Nat} {z_length z_at z_place z_token z_value : Int32} {z_letters : Nat → Int32} {fu : Nat} {r : Int32} {o_z_at o_z_value o_z_place o_z_token : Int32} (hx : p.tables.exec = Jvm.exec) (hb : c.code = cc) (hml : c.maxLocals = nL) (hown : s.vm.findClass own = some m.cls) (hts : ∀ w ∈ TB, w.before args s = true) (hKW : KW D (TY cI cZ cQ) s) (hlk : Cond.methodLink own index yX6_readEnd ∈ TB) {ws : va_W} {A : Nat → Prop} (hP : va_P D vwCl ws H) (hD : va_D A ws) (hS : va_S A s.heap H locs) (hSK : SK adK adV A s s.heap) (is : List Nat) (hC : is.map (fun i => ws[i]?) = ([(a_this, .inr (6, [.ref a_letters, .ref a_draft, .int z_length, .int z_at, .int z_place, .int z_token, .int z_value])), (a_letters, .inl (cI, 120, .inl z_letters))] : va_W).map some) (hnd : va_nd is = true) (hf : fX6_readEnd fu z_length z_letters z_at z_value z_place z_token = some (r, o_z_at, o_z_value, o_z_place, o_z_token)) (hn : ls.size = nL) (hW : (rest.map fun v => v.category).sum ≤ 8) (hR : 5 + 1 ≤ R.frames ∧ 8 + (1 + 11) + 132 ≤ R.locals) (hcs : cells ≤ R.cells ∧ slots ≤ R.slots) (hdg : decode cc pc = .ok (.invokevirtual index, 3)) (kk : ∀ (H1 : Heap) (locs1 : List Loc), va_P D vwCl (rpl ws is [(a_this, .inr (6, [.ref a_letters, .ref a_draft, .int z_length, .int o_z_at, .int o_z_place, .int o_z_token, .int o_z_value])), (a_letters, .inl (cI, 120, .inl z_letters))]) H1 → va_D A (rpl ws is [(a_this, .inr (6, [.ref a_letters, .ref a_draft, .int z_length, .int o_z_at, .int o_z_place, .int o_z_token, .int o_z_value])), (a_letters, .inl (cI, 120, .inl z_letters))]) → va_S A s.heap H1 locs1 → W p l e R s m args below meth c H1 locs1 cells slots Q (F0 m (pc + 3) ls (.int r :: rest))) : W p l e R s m args below meth c H locs cells slots Q (F0 m pc ls (.ref a_this :: rest)) :=
  x_rw (va_runV (As := []) (rest := rest) ⟨hx, hb, hml, hown, hts⟩ (tX6_readEnd hf) (cwV 0 hts (tb_V hlk q463 q464 q41 q465) rfl rfl rfl (by decide +kernel) hR) ⟨rsB, va_recv hKW.1 (subP hP hC) (ci := 6) (q0 := 0) rfl rfl, fun U hU hW => ⟨rfl, by rw [hU]; exact subP hP hC, hKW.warm hW, subD hD hC hnd, hSK.at hS hW hU (subIn hD hC)⟩⟩ rfl rfl hn rfl (lv_room hW) hdg hcs) hP hD hS is hC rfl kk

-- HalfPlanks$Reader.readPerson(I)Z
set_option maxHeartbeats 4000000 in
set_option maxRecDepth 100000 in
theorem tX6_readPerson {l : Launch} {D : va_G} {cI cZ cQ : ClassId} {adK adV : Nat → Nat} {a_this a_letters a_draft a_draft_bank a_draft_kind a_draft_word a_draft_slow a_draft_told : Nat} {z_length z_at z_place z_token z_value z_draft_planks z_draft_size z_draft_sworn p1 : Int32} {z_letters z_draft_bank z_draft_kind z_draft_word z_draft_slow : Nat → Int32} {fu : Nat} {r : Int32} {o_z_draft_size o_z_at o_z_value o_z_place o_z_token o_z_draft_sworn : Int32} {o_z_draft_bank o_z_draft_kind o_z_draft_word o_z_draft_slow : Nat → Int32} (hf : fX6_readPerson fu z_length z_letters z_draft_size z_at z_value z_place z_token z_draft_bank z_draft_kind z_draft_word z_draft_slow z_draft_sworn p1 = some (r, o_z_draft_size, o_z_at, o_z_value, o_z_place, o_z_token, o_z_draft_bank, o_z_draft_kind, o_z_draft_word, o_z_draft_slow, o_z_draft_sworn)) : Met l yX6_readPerson (.code yX6_readPerson cX6_readPerson 4 (some .boolean) :: TB) ({ frames := 6, cells := 0, slots := 0, locals := 154 } : Room) (rsP D (TY cI cZ cQ) adK adV [(a_this, .inr (6, [.ref a_letters, .ref a_draft, .int z_length, .int z_at, .int z_place, .int z_token, .int z_value])), (a_draft, .inr (0, [.int z_draft_planks, .int z_draft_size, .int z_draft_sworn, .ref a_draft_bank, .ref a_draft_kind, .ref a_draft_word, .ref a_draft_slow, .ref a_draft_told])), (a_letters, .inl (cI, 120, .inl z_letters)), (a_draft_bank, .inl (cI, 8, .inl z_draft_bank)), (a_draft_kind, .inl (cI, 8, .inl z_draft_kind)), (a_draft_word, .inl (cI, 8, .inl z_draft_word)), (a_draft_slow, .inl (cI, 8, .inl z_draft_slow))] [.ref a_this, .int p1]) (rwQ D (some (.int r)) [(a_this, .inr (6, [.ref a_letters, .ref a_draft, .int z_length, .int o_z_at, .int o_z_place, .int o_z_token, .int o_z_value])), (a_draft, .inr (0, [.int z_draft_planks, .int o_z_draft_size, .int o_z_draft_sworn, .ref a_draft_bank, .ref a_draft_kind, .ref a_draft_word, .ref a_draft_slow, .ref a_draft_told])), (a_letters, .inl (cI, 120, .inl z_letters)), (a_draft_bank, .inl (cI, 8, .inl o_z_draft_bank)), (a_draft_kind, .inl (cI, 8, .inl o_z_draft_kind)), (a_draft_word, .inl (cI, 8, .inl o_z_draft_word)), (a_draft_slow, .inl (cI, 8, .inl o_z_draft_slow))] (inW [(a_this, .inr (6, [.ref a_letters, .ref a_draft, .int z_length, .int z_at, .int z_place, .int z_token, .int z_value])), (a_draft, .inr (0, [.int z_draft_planks, .int z_draft_size, .int z_draft_sworn, .ref a_draft_bank, .ref a_draft_kind, .ref a_draft_word, .ref a_draft_slow, .ref a_draft_told])), (a_letters, .inl (cI, 120, .inl z_letters)), (a_draft_bank, .inl (cI, 8, .inl z_draft_bank)), (a_draft_kind, .inl (cI, 8, .inl z_draft_kind)), (a_draft_word, .inl (cI, 8, .inl z_draft_word)), (a_draft_slow, .inl (cI, 8, .inl z_draft_slow))])) 0 0 (inW [(a_this, .inr (6, [.ref a_letters, .ref a_draft, .int z_length, .int z_at, .int z_place, .int z_token, .int z_value])), (a_draft, .inr (0, [.int z_draft_planks, .int z_draft_size, .int z_draft_sworn, .ref a_draft_bank, .ref a_draft_kind, .ref a_draft_word, .ref a_draft_slow, .ref a_draft_told])), (a_letters, .inl (cI, 120, .inl z_letters)), (a_draft_bank, .inl (cI, 8, .inl z_draft_bank)), (a_draft_kind, .inl (cI, 8, .inl z_draft_kind)), (a_draft_word, .inl (cI, 8, .inl z_draft_word)), (a_draft_slow, .inl (cI, 8, .inl z_draft_slow))]) := by
  refine Met.ofW (cc := cX6_readPerson) (maxL := 4) (ret := (some .boolean)) (by decide) rfl ?_
  intro p e s m args below meth c s₁ B hml hv
  obtain ⟨rfl, hP, hKW, hD0, hSK⟩ := hv
  have hx := B.exec
  have hb := B.bytes
  have hr := B.returns
  have hts : ∀ w ∈ TB, w.before ([.ref a_this, .int p1] : List Value).toArray s = true := fun w h => atoms_spec (ws := .code yX6_readPerson cX6_readPerson 4 (some .boolean) :: TB) B.pre w (List.mem_cons_of_mem _ h)
  have hown : s.vm.findClass RX6 = some m.cls := findClass_of_methodNamed B.named
  have hlocks := B.notSynchronized
  have hK := hKW.1
  have hD := inW_D hD0
  generalize hAe : inW [(a_this, .inr (6, [.ref a_letters, .ref a_draft, .int z_length, .int z_at, .int z_place, .int z_token, .int z_value])), (a_draft, .inr (0, [.int z_draft_planks, .int z_draft_size, .int z_draft_sworn, .ref a_draft_bank, .ref a_draft_kind, .ref a_draft_word, .ref a_draft_slow, .ref a_draft_told])), (a_letters, .inl (cI, 120, .inl z_letters)), (a_draft_bank, .inl (cI, 8, .inl z_draft_bank)), (a_draft_kind, .inl (cI, 8, .inl z_draft_kind)), (a_draft_word, .inl (cI, 8, .inl z_draft_word)), (a_draft_slow, .inl (cI, 8, .inl z_draft_slow))] = A at hD hSK ⊢
  have hS : va_S A s.heap s.heap [] := va_S.rf
  have hl := lv_entry [.ref a_this, .int p1] (n := 4) (Nat.le_of_ble_eq_true rfl)
  rw [lg_entry_eq]
  generalize (lg_sl [.ref a_this, .int p1] ++ List.replicate (4 - (lg_sl [.ref a_this, .int p1]).length) Slot.unset).toArray = ls at hl ⊢
  have hl : lv_has ls 4 [(0, .ref a_this), (1, .int p1)] := hl
  show W p l e ({ frames := 6, cells := 0, slots := 0, locals := 154 } : Room) s m ([.ref a_this, .int p1] : List Value).toArray below meth c s.heap [] 0 0 (MQ below (rwQ D (some (.int r)) [(a_this, .inr (6, [.ref a_letters, .ref a_draft, .int z_length, .int o_z_at, .int o_z_place, .int o_z_token, .int o_z_value])), (a_draft, .inr (0, [.int z_draft_planks, .int o_z_draft_size, .int o_z_draft_sworn, .ref a_draft_bank, .ref a_draft_kind, .ref a_draft_word, .ref a_draft_slow, .ref a_draft_told])), (a_letters, .inl (cI, 120, .inl z_letters)), (a_draft_bank, .inl (cI, 8, .inl o_z_draft_bank)), (a_draft_kind, .inl (cI, 8, .inl o_z_draft_kind)), (a_draft_word, .inl (cI, 8, .inl o_z_draft_word)), (a_draft_slow, .inl (cI, 8, .inl o_z_draft_slow))] A) ([.ref a_this, .int p1] : List Value).toArray s 0 0 A) (F0 m 0 ls [])
  have hP : va_P D vwCl [(a_this, .inr (6, [.ref a_letters, .ref a_draft, .int z_length, .int z_at, .int z_place, .int z_token, .int z_value])), (a_draft, .inr (0, [.int z_draft_planks, .int z_draft_size, .int z_draft_sworn, .ref a_draft_bank, .ref a_draft_kind, .ref a_draft_word, .ref a_draft_slow, .ref a_draft_told])), (a_letters, .inl (cI, 120, .inl z_letters)), (a_draft_bank, .inl (cI, 8, .inl z_draft_bank)), (a_draft_kind, .inl (cI, 8, .inl z_draft_kind)), (a_draft_word, .inl (cI, 8, .inl z_draft_word)), (a_draft_slow, .inl (cI, 8, .inl z_draft_slow))] s.heap := hP
  have hD : va_D A [(a_this, .inr (6, [.ref a_letters, .ref a_draft, .int z_length, .int z_at, .int z_place, .int z_token, .int z_value])), (a_draft, .inr (0, [.int z_draft_planks, .int z_draft_size, .int z_draft_sworn, .ref a_draft_bank, .ref a_draft_kind, .ref a_draft_word, .ref a_draft_slow, .ref a_draft_told])), (a_letters, .inl (cI, 120, .inl z_letters)), (a_draft_bank, .inl (cI, 8, .inl z_draft_bank)), (a_draft_kind, .inl (cI, 8, .inl z_draft_kind)), (a_draft_word, .inl (cI, 8, .inl z_draft_word)), (a_draft_slow, .inl (cI, 8, .inl z_draft_slow))] := hD
  have hB41 : ∀ (l1 : Int32) (s0 : Int32) (z_draft_size : Int32) (z_at : Int32) (z_value : Int32) (z_place : Int32) (z_token : Int32) (z_draft_bank : Nat → Int32) (z_draft_kind : Nat → Int32) (z_draft_word : Nat → Int32) (z_draft_slow : Nat → Int32) (z_draft_sworn : Int32) (H : Heap) (locs : List Loc) (ls : Array Slot), va_P D vwCl [(a_this, .inr (6, [.ref a_letters, .ref a_draft, .int z_length, .int z_at, .int z_place, .int z_token, .int z_value])), (a_draft, .inr (0, [.int z_draft_planks, .int z_draft_size, .int z_draft_sworn, .ref a_draft_bank, .ref a_draft_kind, .ref a_draft_word, .ref a_draft_slow, .ref a_draft_told])), (a_letters, .inl (cI, 120, .inl z_letters)), (a_draft_bank, .inl (cI, 8, .inl z_draft_bank)), (a_draft_kind, .inl (cI, 8, .inl z_draft_kind)), (a_draft_word, .inl (cI, 8, .inl z_draft_word)), (a_draft_slow, .inl (cI, 8, .inl z_draft_slow))] H → va_D A [(a_this, .inr (6, [.ref a_letters, .ref a_draft, .int z_length, .int z_at, .int z_place, .int z_token, .int z_value])), (a_draft, .inr (0, [.int z_draft_planks, .int z_draft_size, .int z_draft_sworn, .ref a_draft_bank, .ref a_draft_kind, .ref a_draft_word, .ref a_draft_slow, .ref a_draft_told])), (a_letters, .inl (cI, 120, .inl z_letters)), (a_draft_bank, .inl (cI, 8, .inl z_draft_bank)), (a_draft_kind, .inl (cI, 8, .inl z_draft_kind)), (a_draft_word, .inl (cI, 8, .inl z_draft_word)), (a_draft_slow, .inl (cI, 8, .inl z_draft_slow))] → va_S A s.heap H locs → lv_has ls 4 [(0, .ref a_this), (1, .int l1)] → fX6_readPerson_b41 fu z_length z_letters l1 s0 z_draft_size z_at z_value z_place z_token z_draft_bank z_draft_kind z_draft_word z_draft_slow z_draft_sworn = some (r, o_z_draft_size, o_z_at, o_z_value, o_z_place, o_z_token, o_z_draft_bank, o_z_draft_kind, o_z_draft_word, o_z_draft_slow, o_z_draft_sworn) → W p l e ({ frames := 6, cells := 0, slots := 0, locals := 154 } : Room) s m ([.ref a_this, .int p1] : List Value).toArray below meth c H locs 0 0 (MQ below (rwQ D (some (.int r)) [(a_this, .inr (6, [.ref a_letters, .ref a_draft, .int z_length, .int o_z_at, .int o_z_place, .int o_z_token, .int o_z_value])), (a_draft, .inr (0, [.int z_draft_planks, .int o_z_draft_size, .int o_z_draft_sworn, .ref a_draft_bank, .ref a_draft_kind, .ref a_draft_word, .ref a_draft_slow, .ref a_draft_told])), (a_letters, .inl (cI, 120, .inl z_letters)), (a_draft_bank, .inl (cI, 8, .inl o_z_draft_bank)), (a_draft_kind, .inl (cI, 8, .inl o_z_draft_kind)), (a_draft_word, .inl (cI, 8, .inl o_z_draft_word)), (a_draft_slow, .inl (cI, 8, .inl o_z_draft_slow))] A) ([.ref a_this, .int p1] : List Value).toArray s 0 0 A) (F0 m 41 ls [.int s0]) := by
    intro l1 s0 z_draft_size z_at z_value z_place z_token z_draft_bank z_draft_kind z_draft_word z_draft_slow z_draft_sworn H locs ls hP hD hS hl hf
    unfold fX6_readPerson_b41 at hf
    refine lv_istore_n (lv' := [(2, .int s0), (0, .ref a_this), (1, .int l1)]) hx hb dX6_readPerson_41 rfl hl (by decide) rfl (fun ls hl => ?_)
    refine lv_iload_n hx hb dX6_readPerson_42 rfl (lv_at hl 0 rfl) ?_
    refine lv_if_eq (tgt := 56) hx hb dX6_readPerson_43 (by decide) (fun c8 => ?_) (fun c8 => ?_)
    · replace hf := it hf c8
      refine lv_iconst (v := 0) hx hb dX6_readPerson_56 (by decide) ?_
      cases hf
      exact W.zret hx hb hr rfl (fun t ht _ => ⟨rfl, by rw [ht]; exact hP, hS.F ht⟩) hS.2.2 dX6_readPerson_57
    · replace hf := ie hf c8
      refine lv_aload_n hx hb dX6_readPerson_46 rfl (lv_at hl 1 rfl) ?_
      refine lv_iconst (v := 1) hx hb dX6_readPerson_47 (by decide) ?_
      refine lv_bipush (v := 9) hx hb dX6_readPerson_48 (by decide) ?_
      obtain ⟨⟨v9, g10, g11, g12, g13⟩, hv9, hf⟩ := ob hf
      dsimp only at hf
      refine kX6_readNumber hx hb hml hown hts hKW q457 hP hD hS hSK [0, 2] rfl (by decide) hv9 hl.1 (Nat.le_of_ble_eq_true rfl) ⟨Nat.le_of_ble_eq_true rfl, Nat.le_of_ble_eq_true rfl⟩ ⟨Nat.zero_le _, Nat.zero_le _⟩ dX6_readPerson_50 (fun H locs hP hD hS => ?_)
      have hP : va_P D vwCl [(a_this, .inr (6, [.ref a_letters, .ref a_draft, .int z_length, .int g10, .int g12, .int g13, .int g11])), (a_draft, .inr (0, [.int z_draft_planks, .int z_draft_size, .int z_draft_sworn, .ref a_draft_bank, .ref a_draft_kind, .ref a_draft_word, .ref a_draft_slow, .ref a_draft_told])), (a_letters, .inl (cI, 120, .inl z_letters)), (a_draft_bank, .inl (cI, 8, .inl z_draft_bank)), (a_draft_kind, .inl (cI, 8, .inl z_draft_kind)), (a_draft_word, .inl (cI, 8, .inl z_draft_word)), (a_draft_slow, .inl (cI, 8, .inl z_draft_slow))] H := hP
      have hD : va_D A [(a_this, .inr (6, [.ref a_letters, .ref a_draft, .int z_length, .int g10, .int g12, .int g13, .int g11])), (a_draft, .inr (0, [.int z_draft_planks, .int z_draft_size, .int z_draft_sworn, .ref a_draft_bank, .ref a_draft_kind, .ref a_draft_word, .ref a_draft_slow, .ref a_draft_told])), (a_letters, .inl (cI, 120, .inl z_letters)), (a_draft_bank, .inl (cI, 8, .inl z_draft_bank)), (a_draft_kind, .inl (cI, 8, .inl z_draft_kind)), (a_draft_word, .inl (cI, 8, .inl z_draft_word)), (a_draft_slow, .inl (cI, 8, .inl z_draft_slow))] := hD
      refine lv_if_ne (tgt := 58) hx hb dX6_readPerson_53 (by decide) (fun c14 => ?_) (fun c14 => ?_)
      · replace hf := ie hf c14
        refine lv_aload_n hx hb dX6_readPerson_58 rfl (lv_at hl 1 rfl) ?_
        refine va_get (D := D) (ci := 6) (v := .int g11) (C := RX6) (T := TX6) (N := 7) hx hb hts inTX6 hown hK hP 0 rfl rfl 6 (by decide) (hts _ q133) (fun _ h9 => h9) rfl dX6_readPerson_59 ?_
        refine lv_istore_n (lv' := [(3, .int g11), (2, .int s0), (0, .ref a_this), (1, .int l1)]) hx hb dX6_readPerson_62 rfl hl (by decide) rfl (fun ls hl => ?_)
        refine lv_aload_n hx hb dX6_readPerson_63 rfl (lv_at hl 2 rfl) ?_
        refine lv_iconst (v := 1) hx hb dX6_readPerson_64 (by decide) ?_
        refine lv_iconst (v := 5) hx hb dX6_readPerson_65 (by decide) ?_
        obtain ⟨⟨v15, g16, g17, g18, g19⟩, hv15, hf⟩ := ob hf
        dsimp only at hf
        refine kX6_readNumber hx hb hml hown hts hKW q457 hP hD hS hSK [0, 2] rfl (by decide) hv15 hl.1 (Nat.le_of_ble_eq_true rfl) ⟨Nat.le_of_ble_eq_true rfl, Nat.le_of_ble_eq_true rfl⟩ ⟨Nat.zero_le _, Nat.zero_le _⟩ dX6_readPerson_66 (fun H locs hP hD hS => ?_)
        have hP : va_P D vwCl [(a_this, .inr (6, [.ref a_letters, .ref a_draft, .int z_length, .int g16, .int g18, .int g19, .int g17])), (a_draft, .inr (0, [.int z_draft_planks, .int z_draft_size, .int z_draft_sworn, .ref a_draft_bank, .ref a_draft_kind, .ref a_draft_word, .ref a_draft_slow, .ref a_draft_told])), (a_letters, .inl (cI, 120, .inl z_letters)), (a_draft_bank, .inl (cI, 8, .inl z_draft_bank)), (a_draft_kind, .inl (cI, 8, .inl z_draft_kind)), (a_draft_word, .inl (cI, 8, .inl z_draft_word)), (a_draft_slow, .inl (cI, 8, .inl z_draft_slow))] H := hP
        have hD : va_D A [(a_this, .inr (6, [.ref a_letters, .ref a_draft, .int z_length, .int g16, .int g18, .int g19, .int g17])), (a_draft, .inr (0, [.int z_draft_planks, .int z_draft_size, .int z_draft_sworn, .ref a_draft_bank, .ref a_draft_kind, .ref a_draft_word, .ref a_draft_slow, .ref a_draft_told])), (a_letters, .inl (cI, 120, .inl z_letters)), (a_draft_bank, .inl (cI, 8, .inl z_draft_bank)), (a_draft_kind, .inl (cI, 8, .inl z_draft_kind)), (a_draft_word, .inl (cI, 8, .inl z_draft_word)), (a_draft_slow, .inl (cI, 8, .inl z_draft_slow))] := hD
        refine lv_if_ne (tgt := 74) hx hb dX6_readPerson_69 (by decide) (fun c20 => ?_) (fun c20 => ?_)
        · replace hf := ie hf c20
          refine lv_aload_n hx hb dX6_readPerson_74 rfl (lv_at hl 2 rfl) ?_
          refine va_get (D := D) (ci := 6) (v := .ref a_draft) (C := RX6) (T := TX6) (N := 7) hx hb hts inTX6 hown hK hP 0 rfl rfl 1 (by decide) (hts _ q128) (fun _ h9 => h9) rfl dX6_readPerson_75 ?_
          refine lv_iload_n hx hb dX6_readPerson_78 rfl (lv_at hl 3 rfl) ?_
          refine lv_iload_n hx hb dX6_readPerson_79 rfl (lv_at hl 1 rfl) ?_
          refine lv_iload_n hx hb dX6_readPerson_80 rfl (lv_at hl 0 rfl) ?_
          refine lv_aload_n hx hb dX6_readPerson_81 rfl (lv_at hl 2 rfl) ?_
          refine va_get (D := D) (ci := 6) (v := .int g17) (C := RX6) (T := TX6) (N := 7) hx hb hts inTX6 hown hK hP 0 rfl rfl 6 (by decide) (hts _ q133) (fun _ h9 => h9) rfl dX6_readPerson_82 ?_
          obtain ⟨⟨g22, g23, g24, g25, g26, g27⟩, hv21, hf⟩ := ob hf
          dsimp only at hf
          refine kX0_join hx hb hml hown hts hKW q471 hP hD hS [1, 3, 4, 5, 6] rfl (by decide) hv21 hl.1 (Nat.le_of_ble_eq_true rfl) ⟨Nat.le_of_ble_eq_true rfl, Nat.le_of_ble_eq_true rfl⟩ ⟨Nat.zero_le _, Nat.zero_le _⟩ dX6_readPerson_85 (fun H locs hP hD hS => ?_)
          have hP : va_P D vwCl [(a_this, .inr (6, [.ref a_letters, .ref a_draft, .int z_length, .int g16, .int g18, .int g19, .int g17])), (a_draft, .inr (0, [.int z_draft_planks, .int g22, .int g27, .ref a_draft_bank, .ref a_draft_kind, .ref a_draft_word, .ref a_draft_slow, .ref a_draft_told])), (a_letters, .inl (cI, 120, .inl z_letters)), (a_draft_bank, .inl (cI, 8, .inl g23)), (a_draft_kind, .inl (cI, 8, .inl g24)), (a_draft_word, .inl (cI, 8, .inl g25)), (a_draft_slow, .inl (cI, 8, .inl g26))] H := hP
          have hD : va_D A [(a_this, .inr (6, [.ref a_letters, .ref a_draft, .int z_length, .int g16, .int g18, .int g19, .int g17])), (a_draft, .inr (0, [.int z_draft_planks, .int g22, .int g27, .ref a_draft_bank, .ref a_draft_kind, .ref a_draft_word, .ref a_draft_slow, .ref a_draft_told])), (a_letters, .inl (cI, 120, .inl z_letters)), (a_draft_bank, .inl (cI, 8, .inl g23)), (a_draft_kind, .inl (cI, 8, .inl g24)), (a_draft_word, .inl (cI, 8, .inl g25)), (a_draft_slow, .inl (cI, 8, .inl g26))] := hD
          refine lv_iconst (v := 1) hx hb dX6_readPerson_88 (by decide) ?_
          cases hf
          exact W.zret hx hb hr rfl (fun t ht _ => ⟨rfl, by rw [ht]; exact hP, hS.F ht⟩) hS.2.2 dX6_readPerson_89
        · replace hf := it hf c20
          refine lv_iconst (v := 0) hx hb dX6_readPerson_72 (by decide) ?_
          cases hf
          exact W.zret hx hb hr rfl (fun t ht _ => ⟨rfl, by rw [ht]; exact hP, hS.F ht⟩) hS.2.2 dX6_readPerson_73
      · replace hf := it hf c14
        refine lv_iconst (v := 0) hx hb dX6_readPerson_56 (by decide) ?_
        cases hf
        exact W.zret hx hb hr rfl (fun t ht _ => ⟨rfl, by rw [ht]; exact hP, hS.F ht⟩) hS.2.2 dX6_readPerson_57
  unfold fX6_readPerson at hf
  obtain ⟨H, hH⟩ : ∃ H, H = s.heap := ⟨_, rfl⟩
  obtain ⟨locs, hlo⟩ : ∃ q : List Loc, q = [] := ⟨_, rfl⟩
  have hS : va_S A s.heap H locs := by rw [hH, hlo]; exact hS
  rw [← hH] at hP
  suffices hgo : W p l e ({ frames := 6, cells := 0, slots := 0, locals := 154 } : Room) s m ([.ref a_this, .int p1] : List Value).toArray below meth c H locs 0 0 (MQ below (rwQ D (some (.int r)) [(a_this, .inr (6, [.ref a_letters, .ref a_draft, .int z_length, .int o_z_at, .int o_z_place, .int o_z_token, .int o_z_value])), (a_draft, .inr (0, [.int z_draft_planks, .int o_z_draft_size, .int o_z_draft_sworn, .ref a_draft_bank, .ref a_draft_kind, .ref a_draft_word, .ref a_draft_slow, .ref a_draft_told])), (a_letters, .inl (cI, 120, .inl z_letters)), (a_draft_bank, .inl (cI, 8, .inl o_z_draft_bank)), (a_draft_kind, .inl (cI, 8, .inl o_z_draft_kind)), (a_draft_word, .inl (cI, 8, .inl o_z_draft_word)), (a_draft_slow, .inl (cI, 8, .inl o_z_draft_slow))] A) ([.ref a_this, .int p1] : List Value).toArray s 0 0 A) (F0 m 0 ls []) by rw [hH, hlo] at hgo; exact hgo
  clear hH hlo
  refine lv_aload_n hx hb dX6_readPerson_0 rfl (lv_at hl 0 rfl) ?_
  refine va_get (D := D) (ci := 6) (v := .ref a_draft) (C := RX6) (T := TX6) (N := 7) hx hb hts inTX6 hown hK hP 0 rfl rfl 1 (by decide) (hts _ q128) (fun _ h9 => h9) rfl dX6_readPerson_1 ?_
  refine va_get (D := D) (ci := 0) (v := .int z_draft_size) (C := RX0) (T := TX0) (N := 8) hx hb hts inTX0 hown hK hP 1 rfl rfl 1 (by decide) (hts _ q81) (fun _ h9 => h9) rfl dX6_readPerson_4 ?_
  refine lv_bipush (v := 8) hx hb dX6_readPerson_7 (by decide) ?_
  refine lv_icmp_lt (tgt := 14) hx hb dX6_readPerson_9 (by decide) (fun c1 => ?_) (fun c1 => ?_)
  · replace hf := it hf c1
    refine lv_aload_n hx hb dX6_readPerson_14 rfl (lv_at hl 0 rfl) ?_
    obtain ⟨⟨g3, g4, g5, g6⟩, hv2, hf⟩ := ob hf
    dsimp only at hf
    refine kX6_advance hx hb hml hown hts hKW q356 hP hD hS hSK [0, 2] rfl (by decide) hv2 hl.1 (Nat.le_of_ble_eq_true rfl) ⟨Nat.le_of_ble_eq_true rfl, Nat.le_of_ble_eq_true rfl⟩ ⟨Nat.zero_le _, Nat.zero_le _⟩ dX6_readPerson_15 (fun H locs hP hD hS => ?_)
    have hP : va_P D vwCl [(a_this, .inr (6, [.ref a_letters, .ref a_draft, .int z_length, .int g3, .int g5, .int g6, .int g4])), (a_draft, .inr (0, [.int z_draft_planks, .int z_draft_size, .int z_draft_sworn, .ref a_draft_bank, .ref a_draft_kind, .ref a_draft_word, .ref a_draft_slow, .ref a_draft_told])), (a_letters, .inl (cI, 120, .inl z_letters)), (a_draft_bank, .inl (cI, 8, .inl z_draft_bank)), (a_draft_kind, .inl (cI, 8, .inl z_draft_kind)), (a_draft_word, .inl (cI, 8, .inl z_draft_word)), (a_draft_slow, .inl (cI, 8, .inl z_draft_slow))] H := hP
    have hD : va_D A [(a_this, .inr (6, [.ref a_letters, .ref a_draft, .int z_length, .int g3, .int g5, .int g6, .int g4])), (a_draft, .inr (0, [.int z_draft_planks, .int z_draft_size, .int z_draft_sworn, .ref a_draft_bank, .ref a_draft_kind, .ref a_draft_word, .ref a_draft_slow, .ref a_draft_told])), (a_letters, .inl (cI, 120, .inl z_letters)), (a_draft_bank, .inl (cI, 8, .inl z_draft_bank)), (a_draft_kind, .inl (cI, 8, .inl z_draft_kind)), (a_draft_word, .inl (cI, 8, .inl z_draft_word)), (a_draft_slow, .inl (cI, 8, .inl z_draft_slow))] := hD
    refine lv_aload_n hx hb dX6_readPerson_18 rfl (lv_at hl 0 rfl) ?_
    refine va_get (D := D) (ci := 6) (v := .int g6) (C := RX6) (T := TX6) (N := 7) hx hb hts inTX6 hown hK hP 0 rfl rfl 5 (by decide) (hts _ q132) (fun _ h9 => h9) rfl dX6_readPerson_19 ?_
    refine lv_if_ge (tgt := 29) hx hb dX6_readPerson_22 (by decide) (fun c7 => ?_) (fun c7 => ?_)
    · replace hf := it hf c7
      refine va_ldcS hx hb hown hSK.2.2.1 dX6_readPerson_29 ?_
      refine lv_aload_n hx hb dX6_readPerson_31 rfl (lv_at hl 0 rfl) ?_
      refine va_get (D := D) (ci := 6) (v := .int g6) (C := RX6) (T := TX6) (N := 7) hx hb hts inTX6 hown hK hP 0 rfl rfl 5 (by decide) (hts _ q132) (fun _ h9 => h9) rfl dX6_readPerson_32 ?_
      refine lv_i2c hx hb dX6_readPerson_35 rfl ?_
      refine kIx 1 (by decide) hx hb hml hown hts q365 hSK hS hl.1 (Nat.le_of_ble_eq_true rfl) ⟨Nat.le_of_ble_eq_true rfl, Nat.le_of_ble_eq_true rfl⟩ ⟨Nat.zero_le _, Nat.zero_le _⟩ dX6_readPerson_36 ?_
      refine lv_iconst (v := 1) hx hb dX6_readPerson_39 (by decide) ?_
      refine lv_iadd hx hb dX6_readPerson_40 ?_
      exact hB41 p1 ((ixA 1 ((g6.toUInt32 % 65536).toInt32)) + 1) z_draft_size g3 g4 g5 g6 z_draft_bank z_draft_kind z_draft_word z_draft_slow z_draft_sworn H locs ls hP hD hS (lv_sub hl [0, 1] rfl) hf
    · replace hf := ie hf c7
      refine lv_iconst (v := 0) hx hb dX6_readPerson_25 (by decide) ?_
      refine lv_goto (tgt := 41) hx hb dX6_readPerson_26 (by decide) ?_
      exact hB41 p1 0 z_draft_size g3 g4 g5 g6 z_draft_bank z_draft_kind z_draft_word z_draft_slow z_draft_sworn H locs ls hP hD hS (lv_sub hl [0, 1] rfl) hf
  · replace hf := ie hf c1
    refine lv_iconst (v := 0) hx hb dX6_readPerson_12 (by decide) ?_
    cases hf
    exact W.zret hx hb hr rfl (fun t ht _ => ⟨rfl, by rw [ht]; exact hP, hS.F ht⟩) hS.2.2 dX6_readPerson_13
theorem kX6_readPerson {p : Program} {l : Launch} {e : Env} {R : Room} {s : State} {m : MethodId} {args : Array Value} {below : List Frame} {meth : Method} {c : Code} {H : Heap} {locs : List Loc} {cells slots : Nat} {Q : State → Prop} {cc : ByteArray} {nL pc index : Nat} {ls : Array Slot} {rest : List Value} {own : String} {D : va_G} {cI cZ cQ : ClassId} {adK adV : Nat → Nat} {a_this a_letters a_draft a_draft_bank a_draft_kind a_draft_word a_draft_slow a_draft_told : Nat} {z_length z_at z_place z_token z_value z_draft_planks z_draft_size z_draft_sworn p1 : Int32} {z_letters z_draft_bank z_draft_kind z_draft_word z_draft_slow : Nat → Int32} {fu : Nat} {r : Int32} {o_z_draft_size o_z_at o_z_value o_z_place o_z_token o_z_draft_sworn : Int32} {o_z_draft_bank o_z_draft_kind o_z_draft_word o_z_draft_slow : Nat → Int32} (hx : p.tables.exec = Jvm.exec) (hb : c.code = cc) (hml : c.maxLocals = nL) (hown : s.vm.findClass own = some m.cls) (hts : ∀ w ∈ TB, w.before args s = true) (hKW : KW D (TY cI cZ cQ) s) (hlk : Cond.methodLink own index yX6_readPerson ∈ TB) {ws : va_W} {A : Nat → Prop} (hP : va_P D vwCl ws H) (hD : va_D A ws) (hS : va_S A s.heap H locs) (hSK : SK adK adV A s s.heap) (is : List Nat) (hC : is.map (fun i => ws[i]?) = ([(a_this, .inr (6, [.ref a_letters, .ref a_draft, .int z_length, .int z_at, .int z_place, .int z_token, .int z_value])), (a_draft, .inr (0, [.int z_draft_planks, .int z_draft_size, .int z_draft_sworn, .ref a_draft_bank, .ref a_draft_kind, .ref a_draft_word, .ref a_draft_slow, .ref a_draft_told])), (a_letters, .inl (cI, 120, .inl z_letters)), (a_draft_bank, .inl (cI, 8, .inl z_draft_bank)), (a_draft_kind, .inl (cI, 8, .inl z_draft_kind)), (a_draft_word, .inl (cI, 8, .inl z_draft_word)), (a_draft_slow, .inl (cI, 8, .inl z_draft_slow))] : va_W).map some) (hnd : va_nd is = true) (hf : fX6_readPerson fu z_length z_letters z_draft_size z_at z_value z_place z_token z_draft_bank z_draft_kind z_draft_word z_draft_slow z_draft_sworn p1 = some (r, o_z_draft_size, o_z_at, o_z_value, o_z_place, o_z_token, o_z_draft_bank, o_z_draft_kind, o_z_draft_word, o_z_draft_slow, o_z_draft_sworn)) (hn : ls.size = nL) (hW : (rest.map fun v => v.category).sum ≤ 8) (hR : 6 + 1 ≤ R.frames ∧ 8 + (4 + 11) + 154 ≤ R.locals) (hcs : cells ≤ R.cells ∧ slots ≤ R.slots) (hdg : decode cc pc = .ok (.invokevirtual index, 3)) (kk : ∀ (H1 : Heap) (locs1 : List Loc), va_P D vwCl (rpl ws is [(a_this, .inr (6, [.ref a_letters, .ref a_draft, .int z_length, .int o_z_at, .int o_z_place, .int o_z_token, .int o_z_value])), (a_draft, .inr (0, [.int z_draft_planks, .int o_z_draft_size, .int o_z_draft_sworn, .ref a_draft_bank, .ref a_draft_kind, .ref a_draft_word, .ref a_draft_slow, .ref a_draft_told])), (a_letters, .inl (cI, 120, .inl z_letters)), (a_draft_bank, .inl (cI, 8, .inl o_z_draft_bank)), (a_draft_kind, .inl (cI, 8, .inl o_z_draft_kind)), (a_draft_word, .inl (cI, 8, .inl o_z_draft_word)), (a_draft_slow, .inl (cI, 8, .inl o_z_draft_slow))]) H1 → va_D A (rpl ws is [(a_this, .inr (6, [.ref a_letters, .ref a_draft, .int z_length, .int o_z_at, .int o_z_place, .int o_z_token, .int o_z_value])), (a_draft, .inr (0, [.int z_draft_planks, .int o_z_draft_size, .int o_z_draft_sworn, .ref a_draft_bank, .ref a_draft_kind, .ref a_draft_word, .ref a_draft_slow, .ref a_draft_told])), (a_letters, .inl (cI, 120, .inl z_letters)), (a_draft_bank, .inl (cI, 8, .inl o_z_draft_bank)), (a_draft_kind, .inl (cI, 8, .inl o_z_draft_kind)), (a_draft_word, .inl (cI, 8, .inl o_z_draft_word)), (a_draft_slow, .inl (cI, 8, .inl o_z_draft_slow))]) → va_S A s.heap H1 locs1 → W p l e R s m args below meth c H1 locs1 cells slots Q (F0 m (pc + 3) ls (.int r :: rest))) : W p l e R s m args below meth c H locs cells slots Q (F0 m pc ls (.int p1 :: .ref a_this :: rest)) :=
  x_rw (va_runV (As := [.int p1]) (rest := rest) ⟨hx, hb, hml, hown, hts⟩ (tX6_readPerson hf) (cwV 1 hts (tb_V hlk q467 q468 q41 q469) rfl rfl rfl (by decide +kernel) hR) ⟨rsB, va_recv hKW.1 (subP hP hC) (ci := 6) (q0 := 0) rfl rfl, fun U hU hW => ⟨rfl, by rw [hU]; exact subP hP hC, hKW.warm hW, subD hD hC hnd, hSK.at hS hW hU (subIn hD hC)⟩⟩ rfl rfl hn rfl (lv_room hW) hdg hcs) hP hD hS is hC rfl kk

-- HalfPlanks$Reader.readPromise()Z
set_option maxHeartbeats 4000000 in
set_option maxRecDepth 100000 in
theorem tX6_readPromise {l : Launch} {D : va_G} {cI cZ cQ : ClassId} {adK adV : Nat → Nat} {a_this a_letters a_draft a_draft_bank a_draft_kind a_draft_word a_draft_slow a_draft_told : Nat} {z_length z_at z_place z_token z_value z_draft_planks z_draft_size z_draft_sworn : Int32} {z_letters z_draft_told : Nat → Int32} {fu : Nat} {r : Int32} {o_z_at o_z_value o_z_place o_z_token : Int32} {o_z_draft_told : Nat → Int32} (hf : fX6_readPromise fu z_draft_size z_length z_letters z_draft_planks z_at z_value z_place z_token z_draft_told = some (r, o_z_at, o_z_value, o_z_place, o_z_token, o_z_draft_told)) : Met l yX6_readPromise (.code yX6_readPromise cX6_readPromise 2 (some .boolean) :: TB) ({ frames := 6, cells := 0, slots := 0, locals := 154 } : Room) (rsP D (TY cI cZ cQ) adK adV [(a_this, .inr (6, [.ref a_letters, .ref a_draft, .int z_length, .int z_at, .int z_place, .int z_token, .int z_value])), (a_draft, .inr (0, [.int z_draft_planks, .int z_draft_size, .int z_draft_sworn, .ref a_draft_bank, .ref a_draft_kind, .ref a_draft_word, .ref a_draft_slow, .ref a_draft_told])), (a_letters, .inl (cI, 120, .inl z_letters)), (a_draft_told, .inl (cI, 8, .inl z_draft_told))] [.ref a_this]) (rwQ D (some (.int r)) [(a_this, .inr (6, [.ref a_letters, .ref a_draft, .int z_length, .int o_z_at, .int o_z_place, .int o_z_token, .int o_z_value])), (a_draft, .inr (0, [.int z_draft_planks, .int z_draft_size, .int z_draft_sworn, .ref a_draft_bank, .ref a_draft_kind, .ref a_draft_word, .ref a_draft_slow, .ref a_draft_told])), (a_letters, .inl (cI, 120, .inl z_letters)), (a_draft_told, .inl (cI, 8, .inl o_z_draft_told))] (inW [(a_this, .inr (6, [.ref a_letters, .ref a_draft, .int z_length, .int z_at, .int z_place, .int z_token, .int z_value])), (a_draft, .inr (0, [.int z_draft_planks, .int z_draft_size, .int z_draft_sworn, .ref a_draft_bank, .ref a_draft_kind, .ref a_draft_word, .ref a_draft_slow, .ref a_draft_told])), (a_letters, .inl (cI, 120, .inl z_letters)), (a_draft_told, .inl (cI, 8, .inl z_draft_told))])) 0 0 (inW [(a_this, .inr (6, [.ref a_letters, .ref a_draft, .int z_length, .int z_at, .int z_place, .int z_token, .int z_value])), (a_draft, .inr (0, [.int z_draft_planks, .int z_draft_size, .int z_draft_sworn, .ref a_draft_bank, .ref a_draft_kind, .ref a_draft_word, .ref a_draft_slow, .ref a_draft_told])), (a_letters, .inl (cI, 120, .inl z_letters)), (a_draft_told, .inl (cI, 8, .inl z_draft_told))]) := by
  refine Met.ofW (cc := cX6_readPromise) (maxL := 2) (ret := (some .boolean)) (by decide) rfl ?_
  intro p e s m args below meth c s₁ B hml hv
  obtain ⟨rfl, hP, hKW, hD0, hSK⟩ := hv
  have hx := B.exec
  have hb := B.bytes
  have hr := B.returns
  have hts : ∀ w ∈ TB, w.before ([.ref a_this] : List Value).toArray s = true := fun w h => atoms_spec (ws := .code yX6_readPromise cX6_readPromise 2 (some .boolean) :: TB) B.pre w (List.mem_cons_of_mem _ h)
  have hown : s.vm.findClass RX6 = some m.cls := findClass_of_methodNamed B.named
  have hlocks := B.notSynchronized
  have hK := hKW.1
  have hD := inW_D hD0
  generalize hAe : inW [(a_this, .inr (6, [.ref a_letters, .ref a_draft, .int z_length, .int z_at, .int z_place, .int z_token, .int z_value])), (a_draft, .inr (0, [.int z_draft_planks, .int z_draft_size, .int z_draft_sworn, .ref a_draft_bank, .ref a_draft_kind, .ref a_draft_word, .ref a_draft_slow, .ref a_draft_told])), (a_letters, .inl (cI, 120, .inl z_letters)), (a_draft_told, .inl (cI, 8, .inl z_draft_told))] = A at hD hSK ⊢
  have hS : va_S A s.heap s.heap [] := va_S.rf
  have hl := lv_entry [.ref a_this] (n := 2) (Nat.le_of_ble_eq_true rfl)
  rw [lg_entry_eq]
  generalize (lg_sl [.ref a_this] ++ List.replicate (2 - (lg_sl [.ref a_this]).length) Slot.unset).toArray = ls at hl ⊢
  have hl : lv_has ls 2 [(0, .ref a_this)] := hl
  show W p l e ({ frames := 6, cells := 0, slots := 0, locals := 154 } : Room) s m ([.ref a_this] : List Value).toArray below meth c s.heap [] 0 0 (MQ below (rwQ D (some (.int r)) [(a_this, .inr (6, [.ref a_letters, .ref a_draft, .int z_length, .int o_z_at, .int o_z_place, .int o_z_token, .int o_z_value])), (a_draft, .inr (0, [.int z_draft_planks, .int z_draft_size, .int z_draft_sworn, .ref a_draft_bank, .ref a_draft_kind, .ref a_draft_word, .ref a_draft_slow, .ref a_draft_told])), (a_letters, .inl (cI, 120, .inl z_letters)), (a_draft_told, .inl (cI, 8, .inl o_z_draft_told))] A) ([.ref a_this] : List Value).toArray s 0 0 A) (F0 m 0 ls [])
  have hP : va_P D vwCl [(a_this, .inr (6, [.ref a_letters, .ref a_draft, .int z_length, .int z_at, .int z_place, .int z_token, .int z_value])), (a_draft, .inr (0, [.int z_draft_planks, .int z_draft_size, .int z_draft_sworn, .ref a_draft_bank, .ref a_draft_kind, .ref a_draft_word, .ref a_draft_slow, .ref a_draft_told])), (a_letters, .inl (cI, 120, .inl z_letters)), (a_draft_told, .inl (cI, 8, .inl z_draft_told))] s.heap := hP
  have hD : va_D A [(a_this, .inr (6, [.ref a_letters, .ref a_draft, .int z_length, .int z_at, .int z_place, .int z_token, .int z_value])), (a_draft, .inr (0, [.int z_draft_planks, .int z_draft_size, .int z_draft_sworn, .ref a_draft_bank, .ref a_draft_kind, .ref a_draft_word, .ref a_draft_slow, .ref a_draft_told])), (a_letters, .inl (cI, 120, .inl z_letters)), (a_draft_told, .inl (cI, 8, .inl z_draft_told))] := hD
  unfold fX6_readPromise at hf
  obtain ⟨H, hH⟩ : ∃ H, H = s.heap := ⟨_, rfl⟩
  obtain ⟨locs, hlo⟩ : ∃ q : List Loc, q = [] := ⟨_, rfl⟩
  have hS : va_S A s.heap H locs := by rw [hH, hlo]; exact hS
  rw [← hH] at hP
  suffices hgo : W p l e ({ frames := 6, cells := 0, slots := 0, locals := 154 } : Room) s m ([.ref a_this] : List Value).toArray below meth c H locs 0 0 (MQ below (rwQ D (some (.int r)) [(a_this, .inr (6, [.ref a_letters, .ref a_draft, .int z_length, .int o_z_at, .int o_z_place, .int o_z_token, .int o_z_value])), (a_draft, .inr (0, [.int z_draft_planks, .int z_draft_size, .int z_draft_sworn, .ref a_draft_bank, .ref a_draft_kind, .ref a_draft_word, .ref a_draft_slow, .ref a_draft_told])), (a_letters, .inl (cI, 120, .inl z_letters)), (a_draft_told, .inl (cI, 8, .inl o_z_draft_told))] A) ([.ref a_this] : List Value).toArray s 0 0 A) (F0 m 0 ls []) by rw [hH, hlo] at hgo; exact hgo
  clear hH hlo
  refine lv_aload_n hx hb dX6_readPromise_0 rfl (lv_at hl 0 rfl) ?_
  refine lv_iconst (v := 0) hx hb dX6_readPromise_1 (by decide) ?_
  refine lv_aload_n hx hb dX6_readPromise_2 rfl (lv_at hl 0 rfl) ?_
  refine va_get (D := D) (ci := 6) (v := .ref a_draft) (C := RX6) (T := TX6) (N := 7) hx hb hts inTX6 hown hK hP 0 rfl rfl 1 (by decide) (hts _ q128) (fun _ h9 => h9) rfl dX6_readPromise_3 ?_
  refine va_get (D := D) (ci := 0) (v := .int z_draft_size) (C := RX0) (T := TX0) (N := 8) hx hb hts inTX0 hown hK hP 1 rfl rfl 1 (by decide) (hts _ q81) (fun _ h9 => h9) rfl dX6_readPromise_6 ?_
  refine lv_iconst (v := 1) hx hb dX6_readPromise_9 (by decide) ?_
  refine lv_isub hx hb dX6_readPromise_10 ?_
  obtain ⟨⟨v1, g2, g3, g4, g5⟩, hv1, hf⟩ := ob hf
  dsimp only at hf
  refine kX6_readNumber hx hb hml hown hts hKW q457 hP hD hS hSK [0, 2] rfl (by decide) hv1 hl.1 (Nat.le_of_ble_eq_true rfl) ⟨Nat.le_of_ble_eq_true rfl, Nat.le_of_ble_eq_true rfl⟩ ⟨Nat.zero_le _, Nat.zero_le _⟩ dX6_readPromise_11 (fun H locs hP hD hS => ?_)
  have hP : va_P D vwCl [(a_this, .inr (6, [.ref a_letters, .ref a_draft, .int z_length, .int g2, .int g4, .int g5, .int g3])), (a_draft, .inr (0, [.int z_draft_planks, .int z_draft_size, .int z_draft_sworn, .ref a_draft_bank, .ref a_draft_kind, .ref a_draft_word, .ref a_draft_slow, .ref a_draft_told])), (a_letters, .inl (cI, 120, .inl z_letters)), (a_draft_told, .inl (cI, 8, .inl z_draft_told))] H := hP
  have hD : va_D A [(a_this, .inr (6, [.ref a_letters, .ref a_draft, .int z_length, .int g2, .int g4, .int g5, .int g3])), (a_draft, .inr (0, [.int z_draft_planks, .int z_draft_size, .int z_draft_sworn, .ref a_draft_bank, .ref a_draft_kind, .ref a_draft_word, .ref a_draft_slow, .ref a_draft_told])), (a_letters, .inl (cI, 120, .inl z_letters)), (a_draft_told, .inl (cI, 8, .inl z_draft_told))] := hD
  refine lv_if_ne (tgt := 19) hx hb dX6_readPromise_14 (by decide) (fun c6 => ?_) (fun c6 => ?_)
  · replace hf := ie hf c6
    refine lv_aload_n hx hb dX6_readPromise_19 rfl (lv_at hl 0 rfl) ?_
    refine va_get (D := D) (ci := 6) (v := .int g3) (C := RX6) (T := TX6) (N := 7) hx hb hts inTX6 hown hK hP 0 rfl rfl 6 (by decide) (hts _ q133) (fun _ h9 => h9) rfl dX6_readPromise_20 ?_
    refine lv_istore_n (lv' := [(1, .int g3), (0, .ref a_this)]) hx hb dX6_readPromise_23 rfl hl (by decide) rfl (fun ls hl => ?_)
    refine lv_aload_n hx hb dX6_readPromise_24 rfl (lv_at hl 1 rfl) ?_
    refine lv_iconst (v := 0) hx hb dX6_readPromise_25 (by decide) ?_
    refine lv_aload_n hx hb dX6_readPromise_26 rfl (lv_at hl 1 rfl) ?_
    refine va_get (D := D) (ci := 6) (v := .ref a_draft) (C := RX6) (T := TX6) (N := 7) hx hb hts inTX6 hown hK hP 0 rfl rfl 1 (by decide) (hts _ q128) (fun _ h9 => h9) rfl dX6_readPromise_27 ?_
    refine va_get (D := D) (ci := 0) (v := .int z_draft_planks) (C := RX0) (T := TX0) (N := 8) hx hb hts inTX0 hown hK hP 1 rfl rfl 0 (by decide) (hts _ q74) (fun _ h9 => h9) rfl dX6_readPromise_30 ?_
    refine lv_iconst (v := 1) hx hb dX6_readPromise_33 (by decide) ?_
    refine lv_isub hx hb dX6_readPromise_34 ?_
    obtain ⟨⟨v7, g8, g9, g10, g11⟩, hv7, hf⟩ := ob hf
    dsimp only at hf
    refine kX6_readNumber hx hb hml hown hts hKW q457 hP hD hS hSK [0, 2] rfl (by decide) hv7 hl.1 (Nat.le_of_ble_eq_true rfl) ⟨Nat.le_of_ble_eq_true rfl, Nat.le_of_ble_eq_true rfl⟩ ⟨Nat.zero_le _, Nat.zero_le _⟩ dX6_readPromise_35 (fun H locs hP hD hS => ?_)
    have hP : va_P D vwCl [(a_this, .inr (6, [.ref a_letters, .ref a_draft, .int z_length, .int g8, .int g10, .int g11, .int g9])), (a_draft, .inr (0, [.int z_draft_planks, .int z_draft_size, .int z_draft_sworn, .ref a_draft_bank, .ref a_draft_kind, .ref a_draft_word, .ref a_draft_slow, .ref a_draft_told])), (a_letters, .inl (cI, 120, .inl z_letters)), (a_draft_told, .inl (cI, 8, .inl z_draft_told))] H := hP
    have hD : va_D A [(a_this, .inr (6, [.ref a_letters, .ref a_draft, .int z_length, .int g8, .int g10, .int g11, .int g9])), (a_draft, .inr (0, [.int z_draft_planks, .int z_draft_size, .int z_draft_sworn, .ref a_draft_bank, .ref a_draft_kind, .ref a_draft_word, .ref a_draft_slow, .ref a_draft_told])), (a_letters, .inl (cI, 120, .inl z_letters)), (a_draft_told, .inl (cI, 8, .inl z_draft_told))] := hD
    refine lv_if_eq (tgt := 60) hx hb dX6_readPromise_38 (by decide) (fun c12 => ?_) (fun c12 => ?_)
    · replace hf := it hf c12
      refine lv_iconst (v := 0) hx hb dX6_readPromise_60 (by decide) ?_
      cases hf
      exact W.zret hx hb hr rfl (fun t ht _ => ⟨rfl, by rw [ht]; exact hP, hS.F ht⟩) hS.2.2 dX6_readPromise_61
    · replace hf := ie hf c12
      refine lv_aload_n hx hb dX6_readPromise_41 rfl (lv_at hl 1 rfl) ?_
      refine va_get (D := D) (ci := 6) (v := .ref a_draft) (C := RX6) (T := TX6) (N := 7) hx hb hts inTX6 hown hK hP 0 rfl rfl 1 (by decide) (hts _ q128) (fun _ h9 => h9) rfl dX6_readPromise_42 ?_
      refine va_get (D := D) (ci := 0) (v := .ref a_draft_told) (C := RX0) (T := TX0) (N := 8) hx hb hts inTX0 hown hK hP 1 rfl rfl 7 (by decide) (hts _ q102) (fun _ h9 => h9) rfl dX6_readPromise_45 ?_
      refine lv_aload_n hx hb dX6_readPromise_48 rfl (lv_at hl 1 rfl) ?_
      refine va_get (D := D) (ci := 6) (v := .int g9) (C := RX6) (T := TX6) (N := 7) hx hb hts inTX6 hown hK hP 0 rfl rfl 6 (by decide) (hts _ q133) (fun _ h9 => h9) rfl dX6_readPromise_49 ?_
      obtain ⟨v13, hv13, hf⟩ := ob hf
      refine x_iald hx hb hK hP 3 0 rfl rfl hv13 dX6_readPromise_52 ?_
      refine lv_iload_n hx hb dX6_readPromise_53 rfl (lv_at hl 0 rfl) ?_
      obtain ⟨v14, hv14, hf⟩ := ob hf
      refine knX8_has hx hb hml hown hts hKW (hKW.2 ("HalfPlanks$Reader", 91, yX8_has, "HalfPlanks") (by decide +kernel))  hv14 hl.1 (Nat.le_of_ble_eq_true rfl) ⟨Nat.le_of_ble_eq_true rfl, Nat.le_of_ble_eq_true rfl⟩ ⟨Nat.zero_le _, Nat.zero_le _⟩ dX6_readPromise_54 ?_
      refine lv_if_eq (tgt := 62) hx hb dX6_readPromise_57 (by decide) (fun c15 => ?_) (fun c15 => ?_)
      · replace hf := it hf c15
        refine lv_aload_n hx hb dX6_readPromise_62 rfl (lv_at hl 1 rfl) ?_
        refine va_get (D := D) (ci := 6) (v := .ref a_draft) (C := RX6) (T := TX6) (N := 7) hx hb hts inTX6 hown hK hP 0 rfl rfl 1 (by decide) (hts _ q128) (fun _ h9 => h9) rfl dX6_readPromise_63 ?_
        refine va_get (D := D) (ci := 0) (v := .ref a_draft_told) (C := RX0) (T := TX0) (N := 8) hx hb hts inTX0 hown hK hP 1 rfl rfl 7 (by decide) (hts _ q102) (fun _ h9 => h9) rfl dX6_readPromise_66 ?_
        refine lv_aload_n hx hb dX6_readPromise_69 rfl (lv_at hl 1 rfl) ?_
        refine va_get (D := D) (ci := 6) (v := .int g9) (C := RX6) (T := TX6) (N := 7) hx hb hts inTX6 hown hK hP 0 rfl rfl 6 (by decide) (hts _ q133) (fun _ h9 => h9) rfl dX6_readPromise_70 ?_
        refine lv_dup2_11 hx hb dX6_readPromise_73 rfl rfl ?_
        obtain ⟨v16, hv16, hf⟩ := ob hf
        refine x_iald hx hb hK hP 3 0 rfl rfl hv16 dX6_readPromise_74 ?_
        refine lv_iconst (v := 1) hx hb dX6_readPromise_75 (by decide) ?_
        refine lv_iload_n hx hb dX6_readPromise_76 rfl (lv_at hl 0 rfl) ?_
        refine lv_ishl hx hb dX6_readPromise_77 ?_
        refine lv_ior hx hb dX6_readPromise_78 ?_
        obtain ⟨g17, hg17, hf⟩ := ob hf
        refine x_iast hx hb hK hP hD hS 3 0 rfl rfl hg17 dX6_readPromise_79 (fun H locs hP hD hS => ?_)
        have hP : va_P D vwCl [(a_this, .inr (6, [.ref a_letters, .ref a_draft, .int z_length, .int g8, .int g10, .int g11, .int g9])), (a_draft, .inr (0, [.int z_draft_planks, .int z_draft_size, .int z_draft_sworn, .ref a_draft_bank, .ref a_draft_kind, .ref a_draft_word, .ref a_draft_slow, .ref a_draft_told])), (a_letters, .inl (cI, 120, .inl z_letters)), (a_draft_told, .inl (cI, 8, .inl g17))] H := hP
        have hD : va_D A [(a_this, .inr (6, [.ref a_letters, .ref a_draft, .int z_length, .int g8, .int g10, .int g11, .int g9])), (a_draft, .inr (0, [.int z_draft_planks, .int z_draft_size, .int z_draft_sworn, .ref a_draft_bank, .ref a_draft_kind, .ref a_draft_word, .ref a_draft_slow, .ref a_draft_told])), (a_letters, .inl (cI, 120, .inl z_letters)), (a_draft_told, .inl (cI, 8, .inl g17))] := hD
        refine lv_iconst (v := 1) hx hb dX6_readPromise_80 (by decide) ?_
        cases hf
        exact W.zret hx hb hr rfl (fun t ht _ => ⟨rfl, by rw [ht]; exact hP, hS.F ht⟩) hS.2.2 dX6_readPromise_81
      · replace hf := ie hf c15
        refine lv_iconst (v := 0) hx hb dX6_readPromise_60 (by decide) ?_
        cases hf
        exact W.zret hx hb hr rfl (fun t ht _ => ⟨rfl, by rw [ht]; exact hP, hS.F ht⟩) hS.2.2 dX6_readPromise_61
  · replace hf := it hf c6
    refine lv_iconst (v := 0) hx hb dX6_readPromise_17 (by decide) ?_
    cases hf
    exact W.zret hx hb hr rfl (fun t ht _ => ⟨rfl, by rw [ht]; exact hP, hS.F ht⟩) hS.2.2 dX6_readPromise_18
theorem kX6_readPromise {p : Program} {l : Launch} {e : Env} {R : Room} {s : State} {m : MethodId} {args : Array Value} {below : List Frame} {meth : Method} {c : Code} {H : Heap} {locs : List Loc} {cells slots : Nat} {Q : State → Prop} {cc : ByteArray} {nL pc index : Nat} {ls : Array Slot} {rest : List Value} {own : String} {D : va_G} {cI cZ cQ : ClassId} {adK adV : Nat → Nat} {a_this a_letters a_draft a_draft_bank a_draft_kind a_draft_word a_draft_slow a_draft_told : Nat} {z_length z_at z_place z_token z_value z_draft_planks z_draft_size z_draft_sworn : Int32} {z_letters z_draft_told : Nat → Int32} {fu : Nat} {r : Int32} {o_z_at o_z_value o_z_place o_z_token : Int32} {o_z_draft_told : Nat → Int32} (hx : p.tables.exec = Jvm.exec) (hb : c.code = cc) (hml : c.maxLocals = nL) (hown : s.vm.findClass own = some m.cls) (hts : ∀ w ∈ TB, w.before args s = true) (hKW : KW D (TY cI cZ cQ) s) (hlk : Cond.methodLink own index yX6_readPromise ∈ TB) {ws : va_W} {A : Nat → Prop} (hP : va_P D vwCl ws H) (hD : va_D A ws) (hS : va_S A s.heap H locs) (hSK : SK adK adV A s s.heap) (is : List Nat) (hC : is.map (fun i => ws[i]?) = ([(a_this, .inr (6, [.ref a_letters, .ref a_draft, .int z_length, .int z_at, .int z_place, .int z_token, .int z_value])), (a_draft, .inr (0, [.int z_draft_planks, .int z_draft_size, .int z_draft_sworn, .ref a_draft_bank, .ref a_draft_kind, .ref a_draft_word, .ref a_draft_slow, .ref a_draft_told])), (a_letters, .inl (cI, 120, .inl z_letters)), (a_draft_told, .inl (cI, 8, .inl z_draft_told))] : va_W).map some) (hnd : va_nd is = true) (hf : fX6_readPromise fu z_draft_size z_length z_letters z_draft_planks z_at z_value z_place z_token z_draft_told = some (r, o_z_at, o_z_value, o_z_place, o_z_token, o_z_draft_told)) (hn : ls.size = nL) (hW : (rest.map fun v => v.category).sum ≤ 8) (hR : 6 + 1 ≤ R.frames ∧ 8 + (2 + 11) + 154 ≤ R.locals) (hcs : cells ≤ R.cells ∧ slots ≤ R.slots) (hdg : decode cc pc = .ok (.invokevirtual index, 3)) (kk : ∀ (H1 : Heap) (locs1 : List Loc), va_P D vwCl (rpl ws is [(a_this, .inr (6, [.ref a_letters, .ref a_draft, .int z_length, .int o_z_at, .int o_z_place, .int o_z_token, .int o_z_value])), (a_draft, .inr (0, [.int z_draft_planks, .int z_draft_size, .int z_draft_sworn, .ref a_draft_bank, .ref a_draft_kind, .ref a_draft_word, .ref a_draft_slow, .ref a_draft_told])), (a_letters, .inl (cI, 120, .inl z_letters)), (a_draft_told, .inl (cI, 8, .inl o_z_draft_told))]) H1 → va_D A (rpl ws is [(a_this, .inr (6, [.ref a_letters, .ref a_draft, .int z_length, .int o_z_at, .int o_z_place, .int o_z_token, .int o_z_value])), (a_draft, .inr (0, [.int z_draft_planks, .int z_draft_size, .int z_draft_sworn, .ref a_draft_bank, .ref a_draft_kind, .ref a_draft_word, .ref a_draft_slow, .ref a_draft_told])), (a_letters, .inl (cI, 120, .inl z_letters)), (a_draft_told, .inl (cI, 8, .inl o_z_draft_told))]) → va_S A s.heap H1 locs1 → W p l e R s m args below meth c H1 locs1 cells slots Q (F0 m (pc + 3) ls (.int r :: rest))) : W p l e R s m args below meth c H locs cells slots Q (F0 m pc ls (.ref a_this :: rest)) :=
  x_rw (va_runV (As := []) (rest := rest) ⟨hx, hb, hml, hown, hts⟩ (tX6_readPromise hf) (cwV 0 hts (tb_V hlk q476 q477 q41 q478) rfl rfl rfl (by decide +kernel) hR) ⟨rsB, va_recv hKW.1 (subP hP hC) (ci := 6) (q0 := 0) rfl rfl, fun U hU hW => ⟨rfl, by rw [hU]; exact subP hP hC, hKW.warm hW, subD hD hC hnd, hSK.at hS hW hU (subIn hD hC)⟩⟩ rfl rfl hn rfl (lv_room hW) hdg hcs) hP hD hS is hC rfl kk

-- HalfPlanks$Reader.readItem(I)Z
set_option maxHeartbeats 4000000 in
set_option maxRecDepth 100000 in
theorem tX6_readItem {l : Launch} {D : va_G} {cI cZ cQ : ClassId} {adK adV : Nat → Nat} {a_this a_letters a_draft a_draft_bank a_draft_kind a_draft_word a_draft_slow a_draft_told : Nat} {z_length z_at z_place z_token z_value z_draft_planks z_draft_size z_draft_sworn p1 : Int32} {z_letters z_draft_told z_draft_bank z_draft_kind z_draft_word z_draft_slow : Nat → Int32} {fu : Nat} {r : Int32} {o_z_token o_z_draft_size o_z_at o_z_value o_z_place o_z_draft_planks o_z_draft_sworn : Int32} {o_z_draft_told o_z_draft_bank o_z_draft_kind o_z_draft_word o_z_draft_slow : Nat → Int32} (hf : fX6_readItem fu z_length z_letters z_token z_draft_size z_at z_value z_place z_draft_planks z_draft_told z_draft_bank z_draft_kind z_draft_word z_draft_slow z_draft_sworn p1 = some (r, o_z_token, o_z_draft_size, o_z_at, o_z_value, o_z_place, o_z_draft_planks, o_z_draft_told, o_z_draft_bank, o_z_draft_kind, o_z_draft_word, o_z_draft_slow, o_z_draft_sworn)) : Met l yX6_readItem (.code yX6_readItem cX6_readItem 2 (some .boolean) :: TB) ({ frames := 7, cells := 0, slots := 0, locals := 177 } : Room) (rsP D (TY cI cZ cQ) adK adV [(a_this, .inr (6, [.ref a_letters, .ref a_draft, .int z_length, .int z_at, .int z_place, .int z_token, .int z_value])), (a_draft, .inr (0, [.int z_draft_planks, .int z_draft_size, .int z_draft_sworn, .ref a_draft_bank, .ref a_draft_kind, .ref a_draft_word, .ref a_draft_slow, .ref a_draft_told])), (a_letters, .inl (cI, 120, .inl z_letters)), (a_draft_told, .inl (cI, 8, .inl z_draft_told)), (a_draft_bank, .inl (cI, 8, .inl z_draft_bank)), (a_draft_kind, .inl (cI, 8, .inl z_draft_kind)), (a_draft_word, .inl (cI, 8, .inl z_draft_word)), (a_draft_slow, .inl (cI, 8, .inl z_draft_slow))] [.ref a_this, .int p1]) (rwQ D (some (.int r)) [(a_this, .inr (6, [.ref a_letters, .ref a_draft, .int z_length, .int o_z_at, .int o_z_place, .int o_z_token, .int o_z_value])), (a_draft, .inr (0, [.int o_z_draft_planks, .int o_z_draft_size, .int o_z_draft_sworn, .ref a_draft_bank, .ref a_draft_kind, .ref a_draft_word, .ref a_draft_slow, .ref a_draft_told])), (a_letters, .inl (cI, 120, .inl z_letters)), (a_draft_told, .inl (cI, 8, .inl o_z_draft_told)), (a_draft_bank, .inl (cI, 8, .inl o_z_draft_bank)), (a_draft_kind, .inl (cI, 8, .inl o_z_draft_kind)), (a_draft_word, .inl (cI, 8, .inl o_z_draft_word)), (a_draft_slow, .inl (cI, 8, .inl o_z_draft_slow))] (inW [(a_this, .inr (6, [.ref a_letters, .ref a_draft, .int z_length, .int z_at, .int z_place, .int z_token, .int z_value])), (a_draft, .inr (0, [.int z_draft_planks, .int z_draft_size, .int z_draft_sworn, .ref a_draft_bank, .ref a_draft_kind, .ref a_draft_word, .ref a_draft_slow, .ref a_draft_told])), (a_letters, .inl (cI, 120, .inl z_letters)), (a_draft_told, .inl (cI, 8, .inl z_draft_told)), (a_draft_bank, .inl (cI, 8, .inl z_draft_bank)), (a_draft_kind, .inl (cI, 8, .inl z_draft_kind)), (a_draft_word, .inl (cI, 8, .inl z_draft_word)), (a_draft_slow, .inl (cI, 8, .inl z_draft_slow))])) 0 0 (inW [(a_this, .inr (6, [.ref a_letters, .ref a_draft, .int z_length, .int z_at, .int z_place, .int z_token, .int z_value])), (a_draft, .inr (0, [.int z_draft_planks, .int z_draft_size, .int z_draft_sworn, .ref a_draft_bank, .ref a_draft_kind, .ref a_draft_word, .ref a_draft_slow, .ref a_draft_told])), (a_letters, .inl (cI, 120, .inl z_letters)), (a_draft_told, .inl (cI, 8, .inl z_draft_told)), (a_draft_bank, .inl (cI, 8, .inl z_draft_bank)), (a_draft_kind, .inl (cI, 8, .inl z_draft_kind)), (a_draft_word, .inl (cI, 8, .inl z_draft_word)), (a_draft_slow, .inl (cI, 8, .inl z_draft_slow))]) := by
  refine Met.ofW (cc := cX6_readItem) (maxL := 2) (ret := (some .boolean)) (by decide) rfl ?_
  intro p e s m args below meth c s₁ B hml hv
  obtain ⟨rfl, hP, hKW, hD0, hSK⟩ := hv
  have hx := B.exec
  have hb := B.bytes
  have hr := B.returns
  have hts : ∀ w ∈ TB, w.before ([.ref a_this, .int p1] : List Value).toArray s = true := fun w h => atoms_spec (ws := .code yX6_readItem cX6_readItem 2 (some .boolean) :: TB) B.pre w (List.mem_cons_of_mem _ h)
  have hown : s.vm.findClass RX6 = some m.cls := findClass_of_methodNamed B.named
  have hlocks := B.notSynchronized
  have hK := hKW.1
  have hD := inW_D hD0
  generalize hAe : inW [(a_this, .inr (6, [.ref a_letters, .ref a_draft, .int z_length, .int z_at, .int z_place, .int z_token, .int z_value])), (a_draft, .inr (0, [.int z_draft_planks, .int z_draft_size, .int z_draft_sworn, .ref a_draft_bank, .ref a_draft_kind, .ref a_draft_word, .ref a_draft_slow, .ref a_draft_told])), (a_letters, .inl (cI, 120, .inl z_letters)), (a_draft_told, .inl (cI, 8, .inl z_draft_told)), (a_draft_bank, .inl (cI, 8, .inl z_draft_bank)), (a_draft_kind, .inl (cI, 8, .inl z_draft_kind)), (a_draft_word, .inl (cI, 8, .inl z_draft_word)), (a_draft_slow, .inl (cI, 8, .inl z_draft_slow))] = A at hD hSK ⊢
  have hS : va_S A s.heap s.heap [] := va_S.rf
  have hl := lv_entry [.ref a_this, .int p1] (n := 2) (Nat.le_of_ble_eq_true rfl)
  rw [lg_entry_eq]
  generalize (lg_sl [.ref a_this, .int p1] ++ List.replicate (2 - (lg_sl [.ref a_this, .int p1]).length) Slot.unset).toArray = ls at hl ⊢
  have hl : lv_has ls 2 [(0, .ref a_this), (1, .int p1)] := hl
  show W p l e ({ frames := 7, cells := 0, slots := 0, locals := 177 } : Room) s m ([.ref a_this, .int p1] : List Value).toArray below meth c s.heap [] 0 0 (MQ below (rwQ D (some (.int r)) [(a_this, .inr (6, [.ref a_letters, .ref a_draft, .int z_length, .int o_z_at, .int o_z_place, .int o_z_token, .int o_z_value])), (a_draft, .inr (0, [.int o_z_draft_planks, .int o_z_draft_size, .int o_z_draft_sworn, .ref a_draft_bank, .ref a_draft_kind, .ref a_draft_word, .ref a_draft_slow, .ref a_draft_told])), (a_letters, .inl (cI, 120, .inl z_letters)), (a_draft_told, .inl (cI, 8, .inl o_z_draft_told)), (a_draft_bank, .inl (cI, 8, .inl o_z_draft_bank)), (a_draft_kind, .inl (cI, 8, .inl o_z_draft_kind)), (a_draft_word, .inl (cI, 8, .inl o_z_draft_word)), (a_draft_slow, .inl (cI, 8, .inl o_z_draft_slow))] A) ([.ref a_this, .int p1] : List Value).toArray s 0 0 A) (F0 m 0 ls [])
  have hP : va_P D vwCl [(a_this, .inr (6, [.ref a_letters, .ref a_draft, .int z_length, .int z_at, .int z_place, .int z_token, .int z_value])), (a_draft, .inr (0, [.int z_draft_planks, .int z_draft_size, .int z_draft_sworn, .ref a_draft_bank, .ref a_draft_kind, .ref a_draft_word, .ref a_draft_slow, .ref a_draft_told])), (a_letters, .inl (cI, 120, .inl z_letters)), (a_draft_told, .inl (cI, 8, .inl z_draft_told)), (a_draft_bank, .inl (cI, 8, .inl z_draft_bank)), (a_draft_kind, .inl (cI, 8, .inl z_draft_kind)), (a_draft_word, .inl (cI, 8, .inl z_draft_word)), (a_draft_slow, .inl (cI, 8, .inl z_draft_slow))] s.heap := hP
  have hD : va_D A [(a_this, .inr (6, [.ref a_letters, .ref a_draft, .int z_length, .int z_at, .int z_place, .int z_token, .int z_value])), (a_draft, .inr (0, [.int z_draft_planks, .int z_draft_size, .int z_draft_sworn, .ref a_draft_bank, .ref a_draft_kind, .ref a_draft_word, .ref a_draft_slow, .ref a_draft_told])), (a_letters, .inl (cI, 120, .inl z_letters)), (a_draft_told, .inl (cI, 8, .inl z_draft_told)), (a_draft_bank, .inl (cI, 8, .inl z_draft_bank)), (a_draft_kind, .inl (cI, 8, .inl z_draft_kind)), (a_draft_word, .inl (cI, 8, .inl z_draft_word)), (a_draft_slow, .inl (cI, 8, .inl z_draft_slow))] := hD
  unfold fX6_readItem at hf
  obtain ⟨H, hH⟩ : ∃ H, H = s.heap := ⟨_, rfl⟩
  obtain ⟨locs, hlo⟩ : ∃ q : List Loc, q = [] := ⟨_, rfl⟩
  have hS : va_S A s.heap H locs := by rw [hH, hlo]; exact hS
  rw [← hH] at hP
  suffices hgo : W p l e ({ frames := 7, cells := 0, slots := 0, locals := 177 } : Room) s m ([.ref a_this, .int p1] : List Value).toArray below meth c H locs 0 0 (MQ below (rwQ D (some (.int r)) [(a_this, .inr (6, [.ref a_letters, .ref a_draft, .int z_length, .int o_z_at, .int o_z_place, .int o_z_token, .int o_z_value])), (a_draft, .inr (0, [.int o_z_draft_planks, .int o_z_draft_size, .int o_z_draft_sworn, .ref a_draft_bank, .ref a_draft_kind, .ref a_draft_word, .ref a_draft_slow, .ref a_draft_told])), (a_letters, .inl (cI, 120, .inl z_letters)), (a_draft_told, .inl (cI, 8, .inl o_z_draft_told)), (a_draft_bank, .inl (cI, 8, .inl o_z_draft_bank)), (a_draft_kind, .inl (cI, 8, .inl o_z_draft_kind)), (a_draft_word, .inl (cI, 8, .inl o_z_draft_word)), (a_draft_slow, .inl (cI, 8, .inl o_z_draft_slow))] A) ([.ref a_this, .int p1] : List Value).toArray s 0 0 A) (F0 m 0 ls []) by rw [hH, hlo] at hgo; exact hgo
  clear hH hlo
  refine lv_aload_n hx hb dX6_readItem_0 rfl (lv_at hl 0 rfl) ?_
  refine va_get (D := D) (ci := 6) (v := .int z_token) (C := RX6) (T := TX6) (N := 7) hx hb hts inTX6 hown hK hP 0 rfl rfl 5 (by decide) (hts _ q132) (fun _ h9 => h9) rfl dX6_readItem_1 ?_
  by_cases c15 : z_token = 110
  · replace hf := it hf c15
    refine lv_lookup (off := 44) (tgt := 48) hx hb dX6_readItem_4 (by decide +kernel) (by rw [c15]; decide +kernel) (by decide) ?_
    refine lv_iload_n hx hb dX6_readItem_48 rfl (lv_at hl 1 rfl) ?_
    refine lv_if_ne (tgt := 70) hx hb dX6_readItem_49 (by decide) (fun c1 => ?_) (fun c1 => ?_)
    · replace hf := ie hf c1
      refine lv_iconst (v := 0) hx hb dX6_readItem_70 (by decide) ?_
      cases hf
      exact W.zret hx hb hr rfl (fun t ht _ => ⟨rfl, by rw [ht]; exact hP, hS.F ht⟩) hS.2.2 dX6_readItem_71
    · replace hf := it hf c1
      refine lv_aload_n hx hb dX6_readItem_52 rfl (lv_at hl 0 rfl) ?_
      obtain ⟨⟨v2, g3, g4, g5, g6, g7⟩, hv2, hf⟩ := ob hf
      dsimp only at hf
      refine kX6_readPlanks hx hb hml hown hts hKW q453 hP hD hS hSK [0, 2, 1] rfl (by decide) hv2 hl.1 (Nat.le_of_ble_eq_true rfl) ⟨Nat.le_of_ble_eq_true rfl, Nat.le_of_ble_eq_true rfl⟩ ⟨Nat.zero_le _, Nat.zero_le _⟩ dX6_readItem_53 (fun H locs hP hD hS => ?_)
      have hP : va_P D vwCl [(a_this, .inr (6, [.ref a_letters, .ref a_draft, .int z_length, .int g3, .int g5, .int g6, .int g4])), (a_draft, .inr (0, [.int g7, .int z_draft_size, .int z_draft_sworn, .ref a_draft_bank, .ref a_draft_kind, .ref a_draft_word, .ref a_draft_slow, .ref a_draft_told])), (a_letters, .inl (cI, 120, .inl z_letters)), (a_draft_told, .inl (cI, 8, .inl z_draft_told)), (a_draft_bank, .inl (cI, 8, .inl z_draft_bank)), (a_draft_kind, .inl (cI, 8, .inl z_draft_kind)), (a_draft_word, .inl (cI, 8, .inl z_draft_word)), (a_draft_slow, .inl (cI, 8, .inl z_draft_slow))] H := hP
      have hD : va_D A [(a_this, .inr (6, [.ref a_letters, .ref a_draft, .int z_length, .int g3, .int g5, .int g6, .int g4])), (a_draft, .inr (0, [.int g7, .int z_draft_size, .int z_draft_sworn, .ref a_draft_bank, .ref a_draft_kind, .ref a_draft_word, .ref a_draft_slow, .ref a_draft_told])), (a_letters, .inl (cI, 120, .inl z_letters)), (a_draft_told, .inl (cI, 8, .inl z_draft_told)), (a_draft_bank, .inl (cI, 8, .inl z_draft_bank)), (a_draft_kind, .inl (cI, 8, .inl z_draft_kind)), (a_draft_word, .inl (cI, 8, .inl z_draft_word)), (a_draft_slow, .inl (cI, 8, .inl z_draft_slow))] := hD
      refine lv_if_eq (tgt := 70) hx hb dX6_readItem_56 (by decide) (fun c8 => ?_) (fun c8 => ?_)
      · replace hf := it hf c8
        refine lv_iconst (v := 0) hx hb dX6_readItem_70 (by decide) ?_
        cases hf
        exact W.zret hx hb hr rfl (fun t ht _ => ⟨rfl, by rw [ht]; exact hP, hS.F ht⟩) hS.2.2 dX6_readItem_71
      · replace hf := ie hf c8
        refine lv_aload_n hx hb dX6_readItem_59 rfl (lv_at hl 0 rfl) ?_
        obtain ⟨⟨v9, g10, g11, g12, g13⟩, hv9, hf⟩ := ob hf
        dsimp only at hf
        refine kX6_readEnd hx hb hml hown hts hKW q462 hP hD hS hSK [0, 2] rfl (by decide) hv9 hl.1 (Nat.le_of_ble_eq_true rfl) ⟨Nat.le_of_ble_eq_true rfl, Nat.le_of_ble_eq_true rfl⟩ ⟨Nat.zero_le _, Nat.zero_le _⟩ dX6_readItem_60 (fun H locs hP hD hS => ?_)
        have hP : va_P D vwCl [(a_this, .inr (6, [.ref a_letters, .ref a_draft, .int z_length, .int g10, .int g12, .int g13, .int g11])), (a_draft, .inr (0, [.int g7, .int z_draft_size, .int z_draft_sworn, .ref a_draft_bank, .ref a_draft_kind, .ref a_draft_word, .ref a_draft_slow, .ref a_draft_told])), (a_letters, .inl (cI, 120, .inl z_letters)), (a_draft_told, .inl (cI, 8, .inl z_draft_told)), (a_draft_bank, .inl (cI, 8, .inl z_draft_bank)), (a_draft_kind, .inl (cI, 8, .inl z_draft_kind)), (a_draft_word, .inl (cI, 8, .inl z_draft_word)), (a_draft_slow, .inl (cI, 8, .inl z_draft_slow))] H := hP
        have hD : va_D A [(a_this, .inr (6, [.ref a_letters, .ref a_draft, .int z_length, .int g10, .int g12, .int g13, .int g11])), (a_draft, .inr (0, [.int g7, .int z_draft_size, .int z_draft_sworn, .ref a_draft_bank, .ref a_draft_kind, .ref a_draft_word, .ref a_draft_slow, .ref a_draft_told])), (a_letters, .inl (cI, 120, .inl z_letters)), (a_draft_told, .inl (cI, 8, .inl z_draft_told)), (a_draft_bank, .inl (cI, 8, .inl z_draft_bank)), (a_draft_kind, .inl (cI, 8, .inl z_draft_kind)), (a_draft_word, .inl (cI, 8, .inl z_draft_word)), (a_draft_slow, .inl (cI, 8, .inl z_draft_slow))] := hD
        refine lv_if_eq (tgt := 70) hx hb dX6_readItem_63 (by decide) (fun c14 => ?_) (fun c14 => ?_)
        · replace hf := it hf c14
          refine lv_iconst (v := 0) hx hb dX6_readItem_70 (by decide) ?_
          cases hf
          exact W.zret hx hb hr rfl (fun t ht _ => ⟨rfl, by rw [ht]; exact hP, hS.F ht⟩) hS.2.2 dX6_readItem_71
        · replace hf := ie hf c14
          refine lv_iconst (v := 1) hx hb dX6_readItem_66 (by decide) ?_
          refine lv_goto (tgt := 71) hx hb dX6_readItem_67 (by decide) ?_
          cases hf
          exact W.zret hx hb hr rfl (fun t ht _ => ⟨rfl, by rw [ht]; exact hP, hS.F ht⟩) hS.2.2 dX6_readItem_71
  replace hf := ie hf c15
  by_cases c34 : z_token = 117
  · replace hf := it hf c34
    refine lv_lookup (off := 68) (tgt := 72) hx hb dX6_readItem_4 (by decide +kernel) (by rw [c34]; decide +kernel) (by decide) ?_
    refine lv_aload_n hx hb dX6_readItem_72 rfl (lv_at hl 0 rfl) ?_
    refine lv_iconst (v := 0) hx hb dX6_readItem_73 (by decide) ?_
    obtain ⟨⟨v16, g17, g18, g19, g20, g21, g22, g23, g24, g25, g26⟩, hv16, hf⟩ := ob hf
    dsimp only at hf
    refine kX6_readPerson hx hb hml hown hts hKW q466 hP hD hS hSK [0, 1, 2, 4, 5, 6, 7] rfl (by decide) hv16 hl.1 (Nat.le_of_ble_eq_true rfl) ⟨Nat.le_of_ble_eq_true rfl, Nat.le_of_ble_eq_true rfl⟩ ⟨Nat.zero_le _, Nat.zero_le _⟩ dX6_readItem_74 (fun H locs hP hD hS => ?_)
    have hP : va_P D vwCl [(a_this, .inr (6, [.ref a_letters, .ref a_draft, .int z_length, .int g18, .int g20, .int g21, .int g19])), (a_draft, .inr (0, [.int z_draft_planks, .int g17, .int g26, .ref a_draft_bank, .ref a_draft_kind, .ref a_draft_word, .ref a_draft_slow, .ref a_draft_told])), (a_letters, .inl (cI, 120, .inl z_letters)), (a_draft_told, .inl (cI, 8, .inl z_draft_told)), (a_draft_bank, .inl (cI, 8, .inl g22)), (a_draft_kind, .inl (cI, 8, .inl g23)), (a_draft_word, .inl (cI, 8, .inl g24)), (a_draft_slow, .inl (cI, 8, .inl g25))] H := hP
    have hD : va_D A [(a_this, .inr (6, [.ref a_letters, .ref a_draft, .int z_length, .int g18, .int g20, .int g21, .int g19])), (a_draft, .inr (0, [.int z_draft_planks, .int g17, .int g26, .ref a_draft_bank, .ref a_draft_kind, .ref a_draft_word, .ref a_draft_slow, .ref a_draft_told])), (a_letters, .inl (cI, 120, .inl z_letters)), (a_draft_told, .inl (cI, 8, .inl z_draft_told)), (a_draft_bank, .inl (cI, 8, .inl g22)), (a_draft_kind, .inl (cI, 8, .inl g23)), (a_draft_word, .inl (cI, 8, .inl g24)), (a_draft_slow, .inl (cI, 8, .inl g25))] := hD
    refine lv_if_eq (tgt := 91) hx hb dX6_readItem_77 (by decide) (fun c27 => ?_) (fun c27 => ?_)
    · replace hf := it hf c27
      refine lv_iconst (v := 0) hx hb dX6_readItem_91 (by decide) ?_
      cases hf
      exact W.zret hx hb hr rfl (fun t ht _ => ⟨rfl, by rw [ht]; exact hP, hS.F ht⟩) hS.2.2 dX6_readItem_92
    · replace hf := ie hf c27
      refine lv_aload_n hx hb dX6_readItem_80 rfl (lv_at hl 0 rfl) ?_
      obtain ⟨⟨v28, g29, g30, g31, g32⟩, hv28, hf⟩ := ob hf
      dsimp only at hf
      refine kX6_readEnd hx hb hml hown hts hKW q462 hP hD hS hSK [0, 2] rfl (by decide) hv28 hl.1 (Nat.le_of_ble_eq_true rfl) ⟨Nat.le_of_ble_eq_true rfl, Nat.le_of_ble_eq_true rfl⟩ ⟨Nat.zero_le _, Nat.zero_le _⟩ dX6_readItem_81 (fun H locs hP hD hS => ?_)
      have hP : va_P D vwCl [(a_this, .inr (6, [.ref a_letters, .ref a_draft, .int z_length, .int g29, .int g31, .int g32, .int g30])), (a_draft, .inr (0, [.int z_draft_planks, .int g17, .int g26, .ref a_draft_bank, .ref a_draft_kind, .ref a_draft_word, .ref a_draft_slow, .ref a_draft_told])), (a_letters, .inl (cI, 120, .inl z_letters)), (a_draft_told, .inl (cI, 8, .inl z_draft_told)), (a_draft_bank, .inl (cI, 8, .inl g22)), (a_draft_kind, .inl (cI, 8, .inl g23)), (a_draft_word, .inl (cI, 8, .inl g24)), (a_draft_slow, .inl (cI, 8, .inl g25))] H := hP
      have hD : va_D A [(a_this, .inr (6, [.ref a_letters, .ref a_draft, .int z_length, .int g29, .int g31, .int g32, .int g30])), (a_draft, .inr (0, [.int z_draft_planks, .int g17, .int g26, .ref a_draft_bank, .ref a_draft_kind, .ref a_draft_word, .ref a_draft_slow, .ref a_draft_told])), (a_letters, .inl (cI, 120, .inl z_letters)), (a_draft_told, .inl (cI, 8, .inl z_draft_told)), (a_draft_bank, .inl (cI, 8, .inl g22)), (a_draft_kind, .inl (cI, 8, .inl g23)), (a_draft_word, .inl (cI, 8, .inl g24)), (a_draft_slow, .inl (cI, 8, .inl g25))] := hD
      refine lv_if_eq (tgt := 91) hx hb dX6_readItem_84 (by decide) (fun c33 => ?_) (fun c33 => ?_)
      · replace hf := it hf c33
        refine lv_iconst (v := 0) hx hb dX6_readItem_91 (by decide) ?_
        cases hf
        exact W.zret hx hb hr rfl (fun t ht _ => ⟨rfl, by rw [ht]; exact hP, hS.F ht⟩) hS.2.2 dX6_readItem_92
      · replace hf := ie hf c33
        refine lv_iconst (v := 1) hx hb dX6_readItem_87 (by decide) ?_
        refine lv_goto (tgt := 92) hx hb dX6_readItem_88 (by decide) ?_
        cases hf
        exact W.zret hx hb hr rfl (fun t ht _ => ⟨rfl, by rw [ht]; exact hP, hS.F ht⟩) hS.2.2 dX6_readItem_92
  replace hf := ie hf c34
  by_cases c53 : z_token = 118
  · replace hf := it hf c53
    refine lv_lookup (off := 89) (tgt := 93) hx hb dX6_readItem_4 (by decide +kernel) (by rw [c53]; decide +kernel) (by decide) ?_
    refine lv_aload_n hx hb dX6_readItem_93 rfl (lv_at hl 0 rfl) ?_
    refine lv_iconst (v := 1) hx hb dX6_readItem_94 (by decide) ?_
    obtain ⟨⟨v35, g36, g37, g38, g39, g40, g41, g42, g43, g44, g45⟩, hv35, hf⟩ := ob hf
    dsimp only at hf
    refine kX6_readPerson hx hb hml hown hts hKW q466 hP hD hS hSK [0, 1, 2, 4, 5, 6, 7] rfl (by decide) hv35 hl.1 (Nat.le_of_ble_eq_true rfl) ⟨Nat.le_of_ble_eq_true rfl, Nat.le_of_ble_eq_true rfl⟩ ⟨Nat.zero_le _, Nat.zero_le _⟩ dX6_readItem_95 (fun H locs hP hD hS => ?_)
    have hP : va_P D vwCl [(a_this, .inr (6, [.ref a_letters, .ref a_draft, .int z_length, .int g37, .int g39, .int g40, .int g38])), (a_draft, .inr (0, [.int z_draft_planks, .int g36, .int g45, .ref a_draft_bank, .ref a_draft_kind, .ref a_draft_word, .ref a_draft_slow, .ref a_draft_told])), (a_letters, .inl (cI, 120, .inl z_letters)), (a_draft_told, .inl (cI, 8, .inl z_draft_told)), (a_draft_bank, .inl (cI, 8, .inl g41)), (a_draft_kind, .inl (cI, 8, .inl g42)), (a_draft_word, .inl (cI, 8, .inl g43)), (a_draft_slow, .inl (cI, 8, .inl g44))] H := hP
    have hD : va_D A [(a_this, .inr (6, [.ref a_letters, .ref a_draft, .int z_length, .int g37, .int g39, .int g40, .int g38])), (a_draft, .inr (0, [.int z_draft_planks, .int g36, .int g45, .ref a_draft_bank, .ref a_draft_kind, .ref a_draft_word, .ref a_draft_slow, .ref a_draft_told])), (a_letters, .inl (cI, 120, .inl z_letters)), (a_draft_told, .inl (cI, 8, .inl z_draft_told)), (a_draft_bank, .inl (cI, 8, .inl g41)), (a_draft_kind, .inl (cI, 8, .inl g42)), (a_draft_word, .inl (cI, 8, .inl g43)), (a_draft_slow, .inl (cI, 8, .inl g44))] := hD
    refine lv_if_eq (tgt := 112) hx hb dX6_readItem_98 (by decide) (fun c46 => ?_) (fun c46 => ?_)
    · replace hf := it hf c46
      refine lv_iconst (v := 0) hx hb dX6_readItem_112 (by decide) ?_
      cases hf
      exact W.zret hx hb hr rfl (fun t ht _ => ⟨rfl, by rw [ht]; exact hP, hS.F ht⟩) hS.2.2 dX6_readItem_113
    · replace hf := ie hf c46
      refine lv_aload_n hx hb dX6_readItem_101 rfl (lv_at hl 0 rfl) ?_
      obtain ⟨⟨v47, g48, g49, g50, g51⟩, hv47, hf⟩ := ob hf
      dsimp only at hf
      refine kX6_readEnd hx hb hml hown hts hKW q462 hP hD hS hSK [0, 2] rfl (by decide) hv47 hl.1 (Nat.le_of_ble_eq_true rfl) ⟨Nat.le_of_ble_eq_true rfl, Nat.le_of_ble_eq_true rfl⟩ ⟨Nat.zero_le _, Nat.zero_le _⟩ dX6_readItem_102 (fun H locs hP hD hS => ?_)
      have hP : va_P D vwCl [(a_this, .inr (6, [.ref a_letters, .ref a_draft, .int z_length, .int g48, .int g50, .int g51, .int g49])), (a_draft, .inr (0, [.int z_draft_planks, .int g36, .int g45, .ref a_draft_bank, .ref a_draft_kind, .ref a_draft_word, .ref a_draft_slow, .ref a_draft_told])), (a_letters, .inl (cI, 120, .inl z_letters)), (a_draft_told, .inl (cI, 8, .inl z_draft_told)), (a_draft_bank, .inl (cI, 8, .inl g41)), (a_draft_kind, .inl (cI, 8, .inl g42)), (a_draft_word, .inl (cI, 8, .inl g43)), (a_draft_slow, .inl (cI, 8, .inl g44))] H := hP
      have hD : va_D A [(a_this, .inr (6, [.ref a_letters, .ref a_draft, .int z_length, .int g48, .int g50, .int g51, .int g49])), (a_draft, .inr (0, [.int z_draft_planks, .int g36, .int g45, .ref a_draft_bank, .ref a_draft_kind, .ref a_draft_word, .ref a_draft_slow, .ref a_draft_told])), (a_letters, .inl (cI, 120, .inl z_letters)), (a_draft_told, .inl (cI, 8, .inl z_draft_told)), (a_draft_bank, .inl (cI, 8, .inl g41)), (a_draft_kind, .inl (cI, 8, .inl g42)), (a_draft_word, .inl (cI, 8, .inl g43)), (a_draft_slow, .inl (cI, 8, .inl g44))] := hD
      refine lv_if_eq (tgt := 112) hx hb dX6_readItem_105 (by decide) (fun c52 => ?_) (fun c52 => ?_)
      · replace hf := it hf c52
        refine lv_iconst (v := 0) hx hb dX6_readItem_112 (by decide) ?_
        cases hf
        exact W.zret hx hb hr rfl (fun t ht _ => ⟨rfl, by rw [ht]; exact hP, hS.F ht⟩) hS.2.2 dX6_readItem_113
      · replace hf := ie hf c52
        refine lv_iconst (v := 1) hx hb dX6_readItem_108 (by decide) ?_
        refine lv_goto (tgt := 113) hx hb dX6_readItem_109 (by decide) ?_
        cases hf
        exact W.zret hx hb hr rfl (fun t ht _ => ⟨rfl, by rw [ht]; exact hP, hS.F ht⟩) hS.2.2 dX6_readItem_113
  replace hf := ie hf c53
  by_cases c67 : z_token = 120
  · replace hf := it hf c67
    refine lv_lookup (off := 110) (tgt := 114) hx hb dX6_readItem_4 (by decide +kernel) (by rw [c67]; decide +kernel) (by decide) ?_
    refine lv_aload_n hx hb dX6_readItem_114 rfl (lv_at hl 0 rfl) ?_
    obtain ⟨⟨v54, g55, g56, g57, g58, g59⟩, hv54, hf⟩ := ob hf
    dsimp only at hf
    refine kX6_readPromise hx hb hml hown hts hKW q475 hP hD hS hSK [0, 1, 2, 3] rfl (by decide) hv54 hl.1 (Nat.le_of_ble_eq_true rfl) ⟨Nat.le_of_ble_eq_true rfl, Nat.le_of_ble_eq_true rfl⟩ ⟨Nat.zero_le _, Nat.zero_le _⟩ dX6_readItem_115 (fun H locs hP hD hS => ?_)
    have hP : va_P D vwCl [(a_this, .inr (6, [.ref a_letters, .ref a_draft, .int z_length, .int g55, .int g57, .int g58, .int g56])), (a_draft, .inr (0, [.int z_draft_planks, .int z_draft_size, .int z_draft_sworn, .ref a_draft_bank, .ref a_draft_kind, .ref a_draft_word, .ref a_draft_slow, .ref a_draft_told])), (a_letters, .inl (cI, 120, .inl z_letters)), (a_draft_told, .inl (cI, 8, .inl g59)), (a_draft_bank, .inl (cI, 8, .inl z_draft_bank)), (a_draft_kind, .inl (cI, 8, .inl z_draft_kind)), (a_draft_word, .inl (cI, 8, .inl z_draft_word)), (a_draft_slow, .inl (cI, 8, .inl z_draft_slow))] H := hP
    have hD : va_D A [(a_this, .inr (6, [.ref a_letters, .ref a_draft, .int z_length, .int g55, .int g57, .int g58, .int g56])), (a_draft, .inr (0, [.int z_draft_planks, .int z_draft_size, .int z_draft_sworn, .ref a_draft_bank, .ref a_draft_kind, .ref a_draft_word, .ref a_draft_slow, .ref a_draft_told])), (a_letters, .inl (cI, 120, .inl z_letters)), (a_draft_told, .inl (cI, 8, .inl g59)), (a_draft_bank, .inl (cI, 8, .inl z_draft_bank)), (a_draft_kind, .inl (cI, 8, .inl z_draft_kind)), (a_draft_word, .inl (cI, 8, .inl z_draft_word)), (a_draft_slow, .inl (cI, 8, .inl z_draft_slow))] := hD
    refine lv_if_eq (tgt := 132) hx hb dX6_readItem_118 (by decide) (fun c60 => ?_) (fun c60 => ?_)
    · replace hf := it hf c60
      refine lv_iconst (v := 0) hx hb dX6_readItem_132 (by decide) ?_
      cases hf
      exact W.zret hx hb hr rfl (fun t ht _ => ⟨rfl, by rw [ht]; exact hP, hS.F ht⟩) hS.2.2 dX6_readItem_133
    · replace hf := ie hf c60
      refine lv_aload_n hx hb dX6_readItem_121 rfl (lv_at hl 0 rfl) ?_
      obtain ⟨⟨v61, g62, g63, g64, g65⟩, hv61, hf⟩ := ob hf
      dsimp only at hf
      refine kX6_readEnd hx hb hml hown hts hKW q462 hP hD hS hSK [0, 2] rfl (by decide) hv61 hl.1 (Nat.le_of_ble_eq_true rfl) ⟨Nat.le_of_ble_eq_true rfl, Nat.le_of_ble_eq_true rfl⟩ ⟨Nat.zero_le _, Nat.zero_le _⟩ dX6_readItem_122 (fun H locs hP hD hS => ?_)
      have hP : va_P D vwCl [(a_this, .inr (6, [.ref a_letters, .ref a_draft, .int z_length, .int g62, .int g64, .int g65, .int g63])), (a_draft, .inr (0, [.int z_draft_planks, .int z_draft_size, .int z_draft_sworn, .ref a_draft_bank, .ref a_draft_kind, .ref a_draft_word, .ref a_draft_slow, .ref a_draft_told])), (a_letters, .inl (cI, 120, .inl z_letters)), (a_draft_told, .inl (cI, 8, .inl g59)), (a_draft_bank, .inl (cI, 8, .inl z_draft_bank)), (a_draft_kind, .inl (cI, 8, .inl z_draft_kind)), (a_draft_word, .inl (cI, 8, .inl z_draft_word)), (a_draft_slow, .inl (cI, 8, .inl z_draft_slow))] H := hP
      have hD : va_D A [(a_this, .inr (6, [.ref a_letters, .ref a_draft, .int z_length, .int g62, .int g64, .int g65, .int g63])), (a_draft, .inr (0, [.int z_draft_planks, .int z_draft_size, .int z_draft_sworn, .ref a_draft_bank, .ref a_draft_kind, .ref a_draft_word, .ref a_draft_slow, .ref a_draft_told])), (a_letters, .inl (cI, 120, .inl z_letters)), (a_draft_told, .inl (cI, 8, .inl g59)), (a_draft_bank, .inl (cI, 8, .inl z_draft_bank)), (a_draft_kind, .inl (cI, 8, .inl z_draft_kind)), (a_draft_word, .inl (cI, 8, .inl z_draft_word)), (a_draft_slow, .inl (cI, 8, .inl z_draft_slow))] := hD
      refine lv_if_eq (tgt := 132) hx hb dX6_readItem_125 (by decide) (fun c66 => ?_) (fun c66 => ?_)
      · replace hf := it hf c66
        refine lv_iconst (v := 0) hx hb dX6_readItem_132 (by decide) ?_
        cases hf
        exact W.zret hx hb hr rfl (fun t ht _ => ⟨rfl, by rw [ht]; exact hP, hS.F ht⟩) hS.2.2 dX6_readItem_133
      · replace hf := ie hf c66
        refine lv_iconst (v := 1) hx hb dX6_readItem_128 (by decide) ?_
        refine lv_goto (tgt := 133) hx hb dX6_readItem_129 (by decide) ?_
        cases hf
        exact W.zret hx hb hr rfl (fun t ht _ => ⟨rfl, by rw [ht]; exact hP, hS.F ht⟩) hS.2.2 dX6_readItem_133
  replace hf := ie hf c67
  refine lv_lookup (off := 130) (tgt := 134) hx hb dX6_readItem_4 (by decide +kernel) (by show Op.lookupswitch.offset [(110, 44), (117, 68), (118, 89), (120, 110)] _ _ = _; rw [lv_osw c15 (by decide), lv_osw c34 (by decide), lv_osw c53 (by decide), lv_osw c67 (by decide)]; rfl) (by decide) ?_
  refine lv_iconst (v := 0) hx hb dX6_readItem_134 (by decide) ?_
  cases hf
  exact W.zret hx hb hr rfl (fun t ht _ => ⟨rfl, by rw [ht]; exact hP, hS.F ht⟩) hS.2.2 dX6_readItem_135
theorem kX6_readItem {p : Program} {l : Launch} {e : Env} {R : Room} {s : State} {m : MethodId} {args : Array Value} {below : List Frame} {meth : Method} {c : Code} {H : Heap} {locs : List Loc} {cells slots : Nat} {Q : State → Prop} {cc : ByteArray} {nL pc index : Nat} {ls : Array Slot} {rest : List Value} {own : String} {D : va_G} {cI cZ cQ : ClassId} {adK adV : Nat → Nat} {a_this a_letters a_draft a_draft_bank a_draft_kind a_draft_word a_draft_slow a_draft_told : Nat} {z_length z_at z_place z_token z_value z_draft_planks z_draft_size z_draft_sworn p1 : Int32} {z_letters z_draft_told z_draft_bank z_draft_kind z_draft_word z_draft_slow : Nat → Int32} {fu : Nat} {r : Int32} {o_z_token o_z_draft_size o_z_at o_z_value o_z_place o_z_draft_planks o_z_draft_sworn : Int32} {o_z_draft_told o_z_draft_bank o_z_draft_kind o_z_draft_word o_z_draft_slow : Nat → Int32} (hx : p.tables.exec = Jvm.exec) (hb : c.code = cc) (hml : c.maxLocals = nL) (hown : s.vm.findClass own = some m.cls) (hts : ∀ w ∈ TB, w.before args s = true) (hKW : KW D (TY cI cZ cQ) s) (hlk : Cond.methodLink own index yX6_readItem ∈ TB) {ws : va_W} {A : Nat → Prop} (hP : va_P D vwCl ws H) (hD : va_D A ws) (hS : va_S A s.heap H locs) (hSK : SK adK adV A s s.heap) (is : List Nat) (hC : is.map (fun i => ws[i]?) = ([(a_this, .inr (6, [.ref a_letters, .ref a_draft, .int z_length, .int z_at, .int z_place, .int z_token, .int z_value])), (a_draft, .inr (0, [.int z_draft_planks, .int z_draft_size, .int z_draft_sworn, .ref a_draft_bank, .ref a_draft_kind, .ref a_draft_word, .ref a_draft_slow, .ref a_draft_told])), (a_letters, .inl (cI, 120, .inl z_letters)), (a_draft_told, .inl (cI, 8, .inl z_draft_told)), (a_draft_bank, .inl (cI, 8, .inl z_draft_bank)), (a_draft_kind, .inl (cI, 8, .inl z_draft_kind)), (a_draft_word, .inl (cI, 8, .inl z_draft_word)), (a_draft_slow, .inl (cI, 8, .inl z_draft_slow))] : va_W).map some) (hnd : va_nd is = true) (hf : fX6_readItem fu z_length z_letters z_token z_draft_size z_at z_value z_place z_draft_planks z_draft_told z_draft_bank z_draft_kind z_draft_word z_draft_slow z_draft_sworn p1 = some (r, o_z_token, o_z_draft_size, o_z_at, o_z_value, o_z_place, o_z_draft_planks, o_z_draft_told, o_z_draft_bank, o_z_draft_kind, o_z_draft_word, o_z_draft_slow, o_z_draft_sworn)) (hn : ls.size = nL) (hW : (rest.map fun v => v.category).sum ≤ 8) (hR : 7 + 1 ≤ R.frames ∧ 8 + (2 + 11) + 177 ≤ R.locals) (hcs : cells ≤ R.cells ∧ slots ≤ R.slots) (hdg : decode cc pc = .ok (.invokevirtual index, 3)) (kk : ∀ (H1 : Heap) (locs1 : List Loc), va_P D vwCl (rpl ws is [(a_this, .inr (6, [.ref a_letters, .ref a_draft, .int z_length, .int o_z_at, .int o_z_place, .int o_z_token, .int o_z_value])), (a_draft, .inr (0, [.int o_z_draft_planks, .int o_z_draft_size, .int o_z_draft_sworn, .ref a_draft_bank, .ref a_draft_kind, .ref a_draft_word, .ref a_draft_slow, .ref a_draft_told])), (a_letters, .inl (cI, 120, .inl z_letters)), (a_draft_told, .inl (cI, 8, .inl o_z_draft_told)), (a_draft_bank, .inl (cI, 8, .inl o_z_draft_bank)), (a_draft_kind, .inl (cI, 8, .inl o_z_draft_kind)), (a_draft_word, .inl (cI, 8, .inl o_z_draft_word)), (a_draft_slow, .inl (cI, 8, .inl o_z_draft_slow))]) H1 → va_D A (rpl ws is [(a_this, .inr (6, [.ref a_letters, .ref a_draft, .int z_length, .int o_z_at, .int o_z_place, .int o_z_token, .int o_z_value])), (a_draft, .inr (0, [.int o_z_draft_planks, .int o_z_draft_size, .int o_z_draft_sworn, .ref a_draft_bank, .ref a_draft_kind, .ref a_draft_word, .ref a_draft_slow, .ref a_draft_told])), (a_letters, .inl (cI, 120, .inl z_letters)), (a_draft_told, .inl (cI, 8, .inl o_z_draft_told)), (a_draft_bank, .inl (cI, 8, .inl o_z_draft_bank)), (a_draft_kind, .inl (cI, 8, .inl o_z_draft_kind)), (a_draft_word, .inl (cI, 8, .inl o_z_draft_word)), (a_draft_slow, .inl (cI, 8, .inl o_z_draft_slow))]) → va_S A s.heap H1 locs1 → W p l e R s m args below meth c H1 locs1 cells slots Q (F0 m (pc + 3) ls (.int r :: rest))) : W p l e R s m args below meth c H locs cells slots Q (F0 m pc ls (.int p1 :: .ref a_this :: rest)) :=
  x_rw (va_runV (As := [.int p1]) (rest := rest) ⟨hx, hb, hml, hown, hts⟩ (tX6_readItem hf) (cwV 1 hts (tb_V hlk q450 q451 q41 q452) rfl rfl rfl (by decide +kernel) hR) ⟨rsB, va_recv hKW.1 (subP hP hC) (ci := 6) (q0 := 0) rfl rfl, fun U hU hW => ⟨rfl, by rw [hU]; exact subP hP hC, hKW.warm hW, subD hD hC hnd, hSK.at hS hW hU (subIn hD hC)⟩⟩ rfl rfl hn rfl (lv_room hW) hdg hcs) hP hD hS is hC rfl kk

-- HalfPlanks$Reader.readAll(I)I
set_option maxHeartbeats 4000000 in
set_option maxRecDepth 100000 in
theorem tX6_readAll {l : Launch} {D : va_G} {cI cZ cQ : ClassId} {adK adV : Nat → Nat} {a_this a_letters a_draft a_draft_bank a_draft_kind a_draft_word a_draft_slow a_draft_told : Nat} {z_length z_at z_place z_token z_value z_draft_planks z_draft_size z_draft_sworn p1 : Int32} {z_letters z_draft_told z_draft_bank z_draft_kind z_draft_word z_draft_slow : Nat → Int32} {fu : Nat} {r : Int32} {o_z_length o_z_at o_z_value o_z_place o_z_token o_z_draft_size o_z_draft_planks o_z_draft_sworn : Int32} {o_z_draft_told o_z_draft_bank o_z_draft_kind o_z_draft_word o_z_draft_slow : Nat → Int32} (hf : fX6_readAll fu z_letters z_draft_told z_length z_at z_value z_place z_token z_draft_size z_draft_planks z_draft_bank z_draft_kind z_draft_word z_draft_slow z_draft_sworn p1 = some (r, o_z_draft_told, o_z_length, o_z_at, o_z_value, o_z_place, o_z_token, o_z_draft_size, o_z_draft_planks, o_z_draft_bank, o_z_draft_kind, o_z_draft_word, o_z_draft_slow, o_z_draft_sworn)) : Met l yX6_readAll (.code yX6_readAll cX6_readAll 3 (some .int) :: TB) ({ frames := 8, cells := 0, slots := 0, locals := 198 } : Room) (rsP D (TY cI cZ cQ) adK adV [(a_this, .inr (6, [.ref a_letters, .ref a_draft, .int z_length, .int z_at, .int z_place, .int z_token, .int z_value])), (a_letters, .inl (cI, 120, .inl z_letters)), (a_draft, .inr (0, [.int z_draft_planks, .int z_draft_size, .int z_draft_sworn, .ref a_draft_bank, .ref a_draft_kind, .ref a_draft_word, .ref a_draft_slow, .ref a_draft_told])), (a_draft_told, .inl (cI, 8, .inl z_draft_told)), (a_draft_bank, .inl (cI, 8, .inl z_draft_bank)), (a_draft_kind, .inl (cI, 8, .inl z_draft_kind)), (a_draft_word, .inl (cI, 8, .inl z_draft_word)), (a_draft_slow, .inl (cI, 8, .inl z_draft_slow))] [.ref a_this, .int p1]) (rwQ D (some (.int r)) [(a_this, .inr (6, [.ref a_letters, .ref a_draft, .int o_z_length, .int o_z_at, .int o_z_place, .int o_z_token, .int o_z_value])), (a_letters, .inl (cI, 120, .inl z_letters)), (a_draft, .inr (0, [.int o_z_draft_planks, .int o_z_draft_size, .int o_z_draft_sworn, .ref a_draft_bank, .ref a_draft_kind, .ref a_draft_word, .ref a_draft_slow, .ref a_draft_told])), (a_draft_told, .inl (cI, 8, .inl o_z_draft_told)), (a_draft_bank, .inl (cI, 8, .inl o_z_draft_bank)), (a_draft_kind, .inl (cI, 8, .inl o_z_draft_kind)), (a_draft_word, .inl (cI, 8, .inl o_z_draft_word)), (a_draft_slow, .inl (cI, 8, .inl o_z_draft_slow))] (inW [(a_this, .inr (6, [.ref a_letters, .ref a_draft, .int z_length, .int z_at, .int z_place, .int z_token, .int z_value])), (a_letters, .inl (cI, 120, .inl z_letters)), (a_draft, .inr (0, [.int z_draft_planks, .int z_draft_size, .int z_draft_sworn, .ref a_draft_bank, .ref a_draft_kind, .ref a_draft_word, .ref a_draft_slow, .ref a_draft_told])), (a_draft_told, .inl (cI, 8, .inl z_draft_told)), (a_draft_bank, .inl (cI, 8, .inl z_draft_bank)), (a_draft_kind, .inl (cI, 8, .inl z_draft_kind)), (a_draft_word, .inl (cI, 8, .inl z_draft_word)), (a_draft_slow, .inl (cI, 8, .inl z_draft_slow))])) 0 0 (inW [(a_this, .inr (6, [.ref a_letters, .ref a_draft, .int z_length, .int z_at, .int z_place, .int z_token, .int z_value])), (a_letters, .inl (cI, 120, .inl z_letters)), (a_draft, .inr (0, [.int z_draft_planks, .int z_draft_size, .int z_draft_sworn, .ref a_draft_bank, .ref a_draft_kind, .ref a_draft_word, .ref a_draft_slow, .ref a_draft_told])), (a_draft_told, .inl (cI, 8, .inl z_draft_told)), (a_draft_bank, .inl (cI, 8, .inl z_draft_bank)), (a_draft_kind, .inl (cI, 8, .inl z_draft_kind)), (a_draft_word, .inl (cI, 8, .inl z_draft_word)), (a_draft_slow, .inl (cI, 8, .inl z_draft_slow))]) := by
  refine Met.ofW (cc := cX6_readAll) (maxL := 3) (ret := (some .int)) (by decide) rfl ?_
  intro p e s m args below meth c s₁ B hml hv
  obtain ⟨rfl, hP, hKW, hD0, hSK⟩ := hv
  have hx := B.exec
  have hb := B.bytes
  have hr := B.returns
  have hts : ∀ w ∈ TB, w.before ([.ref a_this, .int p1] : List Value).toArray s = true := fun w h => atoms_spec (ws := .code yX6_readAll cX6_readAll 3 (some .int) :: TB) B.pre w (List.mem_cons_of_mem _ h)
  have hown : s.vm.findClass RX6 = some m.cls := findClass_of_methodNamed B.named
  have hlocks := B.notSynchronized
  have hK := hKW.1
  have hD := inW_D hD0
  generalize hAe : inW [(a_this, .inr (6, [.ref a_letters, .ref a_draft, .int z_length, .int z_at, .int z_place, .int z_token, .int z_value])), (a_letters, .inl (cI, 120, .inl z_letters)), (a_draft, .inr (0, [.int z_draft_planks, .int z_draft_size, .int z_draft_sworn, .ref a_draft_bank, .ref a_draft_kind, .ref a_draft_word, .ref a_draft_slow, .ref a_draft_told])), (a_draft_told, .inl (cI, 8, .inl z_draft_told)), (a_draft_bank, .inl (cI, 8, .inl z_draft_bank)), (a_draft_kind, .inl (cI, 8, .inl z_draft_kind)), (a_draft_word, .inl (cI, 8, .inl z_draft_word)), (a_draft_slow, .inl (cI, 8, .inl z_draft_slow))] = A at hD hSK ⊢
  have hS : va_S A s.heap s.heap [] := va_S.rf
  have hl := lv_entry [.ref a_this, .int p1] (n := 3) (Nat.le_of_ble_eq_true rfl)
  rw [lg_entry_eq]
  generalize (lg_sl [.ref a_this, .int p1] ++ List.replicate (3 - (lg_sl [.ref a_this, .int p1]).length) Slot.unset).toArray = ls at hl ⊢
  have hl : lv_has ls 3 [(0, .ref a_this), (1, .int p1)] := hl
  show W p l e ({ frames := 8, cells := 0, slots := 0, locals := 198 } : Room) s m ([.ref a_this, .int p1] : List Value).toArray below meth c s.heap [] 0 0 (MQ below (rwQ D (some (.int r)) [(a_this, .inr (6, [.ref a_letters, .ref a_draft, .int o_z_length, .int o_z_at, .int o_z_place, .int o_z_token, .int o_z_value])), (a_letters, .inl (cI, 120, .inl z_letters)), (a_draft, .inr (0, [.int o_z_draft_planks, .int o_z_draft_size, .int o_z_draft_sworn, .ref a_draft_bank, .ref a_draft_kind, .ref a_draft_word, .ref a_draft_slow, .ref a_draft_told])), (a_draft_told, .inl (cI, 8, .inl o_z_draft_told)), (a_draft_bank, .inl (cI, 8, .inl o_z_draft_bank)), (a_draft_kind, .inl (cI, 8, .inl o_z_draft_kind)), (a_draft_word, .inl (cI, 8, .inl o_z_draft_word)), (a_draft_slow, .inl (cI, 8, .inl o_z_draft_slow))] A) ([.ref a_this, .int p1] : List Value).toArray s 0 0 A) (F0 m 0 ls [])
  have hP : va_P D vwCl [(a_this, .inr (6, [.ref a_letters, .ref a_draft, .int z_length, .int z_at, .int z_place, .int z_token, .int z_value])), (a_letters, .inl (cI, 120, .inl z_letters)), (a_draft, .inr (0, [.int z_draft_planks, .int z_draft_size, .int z_draft_sworn, .ref a_draft_bank, .ref a_draft_kind, .ref a_draft_word, .ref a_draft_slow, .ref a_draft_told])), (a_draft_told, .inl (cI, 8, .inl z_draft_told)), (a_draft_bank, .inl (cI, 8, .inl z_draft_bank)), (a_draft_kind, .inl (cI, 8, .inl z_draft_kind)), (a_draft_word, .inl (cI, 8, .inl z_draft_word)), (a_draft_slow, .inl (cI, 8, .inl z_draft_slow))] s.heap := hP
  have hD : va_D A [(a_this, .inr (6, [.ref a_letters, .ref a_draft, .int z_length, .int z_at, .int z_place, .int z_token, .int z_value])), (a_letters, .inl (cI, 120, .inl z_letters)), (a_draft, .inr (0, [.int z_draft_planks, .int z_draft_size, .int z_draft_sworn, .ref a_draft_bank, .ref a_draft_kind, .ref a_draft_word, .ref a_draft_slow, .ref a_draft_told])), (a_draft_told, .inl (cI, 8, .inl z_draft_told)), (a_draft_bank, .inl (cI, 8, .inl z_draft_bank)), (a_draft_kind, .inl (cI, 8, .inl z_draft_kind)), (a_draft_word, .inl (cI, 8, .inl z_draft_word)), (a_draft_slow, .inl (cI, 8, .inl z_draft_slow))] := hD
  have hB27 : ∀ (n27 : Nat) (l2 : Int32) (z_draft_told : Nat → Int32) (z_length : Int32) (z_at : Int32) (z_value : Int32) (z_place : Int32) (z_token : Int32) (z_draft_size : Int32) (z_draft_planks : Int32) (z_draft_bank : Nat → Int32) (z_draft_kind : Nat → Int32) (z_draft_word : Nat → Int32) (z_draft_slow : Nat → Int32) (z_draft_sworn : Int32) (H : Heap) (locs : List Loc) (ls : Array Slot), va_P D vwCl [(a_this, .inr (6, [.ref a_letters, .ref a_draft, .int z_length, .int z_at, .int z_place, .int z_token, .int z_value])), (a_letters, .inl (cI, 120, .inl z_letters)), (a_draft, .inr (0, [.int z_draft_planks, .int z_draft_size, .int z_draft_sworn, .ref a_draft_bank, .ref a_draft_kind, .ref a_draft_word, .ref a_draft_slow, .ref a_draft_told])), (a_draft_told, .inl (cI, 8, .inl z_draft_told)), (a_draft_bank, .inl (cI, 8, .inl z_draft_bank)), (a_draft_kind, .inl (cI, 8, .inl z_draft_kind)), (a_draft_word, .inl (cI, 8, .inl z_draft_word)), (a_draft_slow, .inl (cI, 8, .inl z_draft_slow))] H → va_D A [(a_this, .inr (6, [.ref a_letters, .ref a_draft, .int z_length, .int z_at, .int z_place, .int z_token, .int z_value])), (a_letters, .inl (cI, 120, .inl z_letters)), (a_draft, .inr (0, [.int z_draft_planks, .int z_draft_size, .int z_draft_sworn, .ref a_draft_bank, .ref a_draft_kind, .ref a_draft_word, .ref a_draft_slow, .ref a_draft_told])), (a_draft_told, .inl (cI, 8, .inl z_draft_told)), (a_draft_bank, .inl (cI, 8, .inl z_draft_bank)), (a_draft_kind, .inl (cI, 8, .inl z_draft_kind)), (a_draft_word, .inl (cI, 8, .inl z_draft_word)), (a_draft_slow, .inl (cI, 8, .inl z_draft_slow))] → va_S A s.heap H locs → lv_has ls 3 [(0, .ref a_this), (2, .int l2)] → fX6_readAll_b27 fu z_letters n27 l2 z_draft_told z_length z_at z_value z_place z_token z_draft_size z_draft_planks z_draft_bank z_draft_kind z_draft_word z_draft_slow z_draft_sworn = some (r, o_z_draft_told, o_z_length, o_z_at, o_z_value, o_z_place, o_z_token, o_z_draft_size, o_z_draft_planks, o_z_draft_bank, o_z_draft_kind, o_z_draft_word, o_z_draft_slow, o_z_draft_sworn) → W p l e ({ frames := 8, cells := 0, slots := 0, locals := 198 } : Room) s m ([.ref a_this, .int p1] : List Value).toArray below meth c H locs 0 0 (MQ below (rwQ D (some (.int r)) [(a_this, .inr (6, [.ref a_letters, .ref a_draft, .int o_z_length, .int o_z_at, .int o_z_place, .int o_z_token, .int o_z_value])), (a_letters, .inl (cI, 120, .inl z_letters)), (a_draft, .inr (0, [.int o_z_draft_planks, .int o_z_draft_size, .int o_z_draft_sworn, .ref a_draft_bank, .ref a_draft_kind, .ref a_draft_word, .ref a_draft_slow, .ref a_draft_told])), (a_draft_told, .inl (cI, 8, .inl o_z_draft_told)), (a_draft_bank, .inl (cI, 8, .inl o_z_draft_bank)), (a_draft_kind, .inl (cI, 8, .inl o_z_draft_kind)), (a_draft_word, .inl (cI, 8, .inl o_z_draft_word)), (a_draft_slow, .inl (cI, 8, .inl o_z_draft_slow))] A) ([.ref a_this, .int p1] : List Value).toArray s 0 0 A) (F0 m 27 ls []) := by
    intro n27
    induction n27 with
    | zero => intro l2 z_draft_told z_length z_at z_value z_place z_token z_draft_size z_draft_planks z_draft_bank z_draft_kind z_draft_word z_draft_slow z_draft_sworn H locs ls hP hD hS hl hf; exact nn hf
    | succ n27 ih27 =>
      intro l2 z_draft_told z_length z_at z_value z_place z_token z_draft_size z_draft_planks z_draft_bank z_draft_kind z_draft_word z_draft_slow z_draft_sworn H locs ls hP hD hS hl hf
      replace hf : fX6_readAll_b27_body fu z_letters (fX6_readAll_b27 fu z_letters n27) l2 z_draft_told z_length z_at z_value z_place z_token z_draft_size z_draft_planks z_draft_bank z_draft_kind z_draft_word z_draft_slow z_draft_sworn = some (r, o_z_draft_told, o_z_length, o_z_at, o_z_value, o_z_place, o_z_token, o_z_draft_size, o_z_draft_planks, o_z_draft_bank, o_z_draft_kind, o_z_draft_word, o_z_draft_slow, o_z_draft_sworn) := hf
      unfold fX6_readAll_b27_body at hf
      refine lv_iload_n hx hb dX6_readAll_27 rfl (lv_at hl 1 rfl) ?_
      refine lv_aload_n hx hb dX6_readAll_28 rfl (lv_at hl 0 rfl) ?_
      refine va_get (D := D) (ci := 6) (v := .int z_length) (C := RX6) (T := TX6) (N := 7) hx hb hts inTX6 hown hK hP 0 rfl rfl 2 (by decide) (hts _ q129) (fun _ h9 => h9) rfl dX6_readAll_29 ?_
      refine lv_icmp_gt (tgt := 71) hx hb dX6_readAll_32 (by decide) (fun c6 => ?_) (fun c6 => ?_)
      · replace hf := it hf c6
        refine lv_bipush (v := -10) hx hb dX6_readAll_71 (by decide) ?_
        refine lv_aload_n hx hb dX6_readAll_73 rfl (lv_at hl 0 rfl) ?_
        refine va_get (D := D) (ci := 6) (v := .int z_length) (C := RX6) (T := TX6) (N := 7) hx hb hts inTX6 hown hK hP 0 rfl rfl 2 (by decide) (hts _ q129) (fun _ h9 => h9) rfl dX6_readAll_74 ?_
        refine lv_isub hx hb dX6_readAll_77 ?_
        simp only [Option.some.injEq, Prod.mk.injEq] at hf
        obtain ⟨rfl, rfl, rfl, rfl, rfl, rfl, rfl, rfl, rfl, rfl, rfl, rfl, rfl, rfl⟩ := hf
        exact W.iret hx hb hr (fun t ht _ => ⟨rfl, by rw [ht]; exact hP, hS.F ht⟩) hS.2.2 dX6_readAll_78
      · replace hf := ie hf c6
        refine lv_aload_n hx hb dX6_readAll_35 rfl (lv_at hl 0 rfl) ?_
        obtain ⟨⟨g8, g9, g10, g11⟩, hv7, hf⟩ := ob hf
        dsimp only at hf
        refine kX6_advance hx hb hml hown hts hKW q356 hP hD hS hSK [0, 1] rfl (by decide) hv7 hl.1 (Nat.le_of_ble_eq_true rfl) ⟨Nat.le_of_ble_eq_true rfl, Nat.le_of_ble_eq_true rfl⟩ ⟨Nat.zero_le _, Nat.zero_le _⟩ dX6_readAll_36 (fun H locs hP hD hS => ?_)
        have hP : va_P D vwCl [(a_this, .inr (6, [.ref a_letters, .ref a_draft, .int z_length, .int g8, .int g10, .int g11, .int g9])), (a_letters, .inl (cI, 120, .inl z_letters)), (a_draft, .inr (0, [.int z_draft_planks, .int z_draft_size, .int z_draft_sworn, .ref a_draft_bank, .ref a_draft_kind, .ref a_draft_word, .ref a_draft_slow, .ref a_draft_told])), (a_draft_told, .inl (cI, 8, .inl z_draft_told)), (a_draft_bank, .inl (cI, 8, .inl z_draft_bank)), (a_draft_kind, .inl (cI, 8, .inl z_draft_kind)), (a_draft_word, .inl (cI, 8, .inl z_draft_word)), (a_draft_slow, .inl (cI, 8, .inl z_draft_slow))] H := hP
        have hD : va_D A [(a_this, .inr (6, [.ref a_letters, .ref a_draft, .int z_length, .int g8, .int g10, .int g11, .int g9])), (a_letters, .inl (cI, 120, .inl z_letters)), (a_draft, .inr (0, [.int z_draft_planks, .int z_draft_size, .int z_draft_sworn, .ref a_draft_bank, .ref a_draft_kind, .ref a_draft_word, .ref a_draft_slow, .ref a_draft_told])), (a_draft_told, .inl (cI, 8, .inl z_draft_told)), (a_draft_bank, .inl (cI, 8, .inl z_draft_bank)), (a_draft_kind, .inl (cI, 8, .inl z_draft_kind)), (a_draft_word, .inl (cI, 8, .inl z_draft_word)), (a_draft_slow, .inl (cI, 8, .inl z_draft_slow))] := hD
        refine lv_aload_n hx hb dX6_readAll_39 rfl (lv_at hl 0 rfl) ?_
        refine va_get (D := D) (ci := 6) (v := .int g11) (C := RX6) (T := TX6) (N := 7) hx hb hts inTX6 hown hK hP 0 rfl rfl 5 (by decide) (hts _ q132) (fun _ h9 => h9) rfl dX6_readAll_40 ?_
        refine lv_iconst (v := -1) hx hb dX6_readAll_43 (by decide) ?_
        refine lv_icmp_ne (tgt := 49) hx hb dX6_readAll_44 (by decide) (fun c12 => ?_) (fun c12 => ?_)
        · replace hf := ie hf c12
          refine lv_aload_n hx hb dX6_readAll_49 rfl (lv_at hl 0 rfl) ?_
          refine lv_iload_n hx hb dX6_readAll_50 rfl (lv_at hl 1 rfl) ?_
          obtain ⟨⟨v13, g14, g15, g16, g17, g18, g19, g20, g21, g22, g23, g24, g25⟩, hv13, hf⟩ := ob hf
          dsimp only at hf
          refine kX6_readItem hx hb hml hown hts hKW q449 hP hD hS hSK [0, 2, 1, 3, 4, 5, 6, 7] rfl (by decide) hv13 hl.1 (Nat.le_of_ble_eq_true rfl) ⟨Nat.le_of_ble_eq_true rfl, Nat.le_of_ble_eq_true rfl⟩ ⟨Nat.zero_le _, Nat.zero_le _⟩ dX6_readAll_51 (fun H locs hP hD hS => ?_)
          have hP : va_P D vwCl [(a_this, .inr (6, [.ref a_letters, .ref a_draft, .int z_length, .int g16, .int g18, .int g14, .int g17])), (a_letters, .inl (cI, 120, .inl z_letters)), (a_draft, .inr (0, [.int g19, .int g15, .int g25, .ref a_draft_bank, .ref a_draft_kind, .ref a_draft_word, .ref a_draft_slow, .ref a_draft_told])), (a_draft_told, .inl (cI, 8, .inl g20)), (a_draft_bank, .inl (cI, 8, .inl g21)), (a_draft_kind, .inl (cI, 8, .inl g22)), (a_draft_word, .inl (cI, 8, .inl g23)), (a_draft_slow, .inl (cI, 8, .inl g24))] H := hP
          have hD : va_D A [(a_this, .inr (6, [.ref a_letters, .ref a_draft, .int z_length, .int g16, .int g18, .int g14, .int g17])), (a_letters, .inl (cI, 120, .inl z_letters)), (a_draft, .inr (0, [.int g19, .int g15, .int g25, .ref a_draft_bank, .ref a_draft_kind, .ref a_draft_word, .ref a_draft_slow, .ref a_draft_told])), (a_draft_told, .inl (cI, 8, .inl g20)), (a_draft_bank, .inl (cI, 8, .inl g21)), (a_draft_kind, .inl (cI, 8, .inl g22)), (a_draft_word, .inl (cI, 8, .inl g23)), (a_draft_slow, .inl (cI, 8, .inl g24))] := hD
          refine lv_if_ne (tgt := 65) hx hb dX6_readAll_54 (by decide) (fun c26 => ?_) (fun c26 => ?_)
          · replace hf := ie hf c26
            refine lv_iinc (v := (l2 + 1)) (lv' := [(2, .int (l2 + 1)), (0, .ref a_this)]) hx hb dX6_readAll_65 hl (k := 1) rfl rfl (by decide) rfl (fun ls hl => ?_)
            refine lv_goto (tgt := 27) hx hb dX6_readAll_68 (by decide) ?_
            exact ih27 (l2 + 1) g20 z_length g16 g17 g18 g14 g15 g19 g21 g22 g23 g24 g25 H locs ls hP hD hS (lv_sub hl [1, 0] rfl) hf
          · replace hf := it hf c26
            refine lv_bipush (v := -10) hx hb dX6_readAll_57 (by decide) ?_
            refine lv_aload_n hx hb dX6_readAll_59 rfl (lv_at hl 0 rfl) ?_
            refine va_get (D := D) (ci := 6) (v := .int g18) (C := RX6) (T := TX6) (N := 7) hx hb hts inTX6 hown hK hP 0 rfl rfl 4 (by decide) (hts _ q131) (fun _ h9 => h9) rfl dX6_readAll_60 ?_
            refine lv_isub hx hb dX6_readAll_63 ?_
            simp only [Option.some.injEq, Prod.mk.injEq] at hf
            obtain ⟨rfl, rfl, rfl, rfl, rfl, rfl, rfl, rfl, rfl, rfl, rfl, rfl, rfl, rfl⟩ := hf
            exact W.iret hx hb hr (fun t ht _ => ⟨rfl, by rw [ht]; exact hP, hS.F ht⟩) hS.2.2 dX6_readAll_64
        · replace hf := it hf c12
          refine lv_iload_n hx hb dX6_readAll_47 rfl (lv_at hl 1 rfl) ?_
          cases hf
          exact W.iret hx hb hr (fun t ht _ => ⟨rfl, by rw [ht]; exact hP, hS.F ht⟩) hS.2.2 dX6_readAll_48
  unfold fX6_readAll at hf
  obtain ⟨H, hH⟩ : ∃ H, H = s.heap := ⟨_, rfl⟩
  obtain ⟨locs, hlo⟩ : ∃ q : List Loc, q = [] := ⟨_, rfl⟩
  have hS : va_S A s.heap H locs := by rw [hH, hlo]; exact hS
  rw [← hH] at hP
  suffices hgo : W p l e ({ frames := 8, cells := 0, slots := 0, locals := 198 } : Room) s m ([.ref a_this, .int p1] : List Value).toArray below meth c H locs 0 0 (MQ below (rwQ D (some (.int r)) [(a_this, .inr (6, [.ref a_letters, .ref a_draft, .int o_z_length, .int o_z_at, .int o_z_place, .int o_z_token, .int o_z_value])), (a_letters, .inl (cI, 120, .inl z_letters)), (a_draft, .inr (0, [.int o_z_draft_planks, .int o_z_draft_size, .int o_z_draft_sworn, .ref a_draft_bank, .ref a_draft_kind, .ref a_draft_word, .ref a_draft_slow, .ref a_draft_told])), (a_draft_told, .inl (cI, 8, .inl o_z_draft_told)), (a_draft_bank, .inl (cI, 8, .inl o_z_draft_bank)), (a_draft_kind, .inl (cI, 8, .inl o_z_draft_kind)), (a_draft_word, .inl (cI, 8, .inl o_z_draft_word)), (a_draft_slow, .inl (cI, 8, .inl o_z_draft_slow))] A) ([.ref a_this, .int p1] : List Value).toArray s 0 0 A) (F0 m 0 ls []) by rw [hH, hlo] at hgo; exact hgo
  clear hH hlo
  refine lv_aload_n hx hb dX6_readAll_0 rfl (lv_at hl 0 rfl) ?_
  refine lv_iload_n hx hb dX6_readAll_1 rfl (lv_at hl 1 rfl) ?_
  refine lv_aload_n hx hb dX6_readAll_2 rfl (lv_at hl 0 rfl) ?_
  refine va_get (D := D) (ci := 6) (v := .ref a_letters) (C := RX6) (T := TX6) (N := 7) hx hb hts inTX6 hown hK hP 0 rfl rfl 0 (by decide) (hts _ q127) (fun _ h9 => h9) rfl dX6_readAll_3 ?_
  refine va_alen (v := 120) hx hb hK hP 1 0 rfl rfl rfl dX6_readAll_6 ?_
  refine x_min hx hb hml hl.1 hown hts q349 ⟨Nat.le_of_ble_eq_true rfl, Nat.le_of_ble_eq_true rfl⟩ ⟨Nat.zero_le _, Nat.zero_le _⟩ dX6_readAll_7 ?_
  refine va_put (D := D) (ci := 6) (v := .int (mn p1 120)) (ty := .int) (C := RX6) (T := TX6) (N := 7) hx hb hts inTX6 tyX6 tyX6_ok nmX6 hown hK hP hD hS 0 rfl rfl 2 (by decide) (hts _ q129) (fun _ h9 => h9) rfl (by decide +kernel) rfl rfl (Nat.le_of_ble_eq_true rfl) dX6_readAll_10 (fun H locs hP hD hS => ?_)
  have hP : va_P D vwCl [(a_this, .inr (6, [.ref a_letters, .ref a_draft, .int (mn p1 120), .int z_at, .int z_place, .int z_token, .int z_value])), (a_letters, .inl (cI, 120, .inl z_letters)), (a_draft, .inr (0, [.int z_draft_planks, .int z_draft_size, .int z_draft_sworn, .ref a_draft_bank, .ref a_draft_kind, .ref a_draft_word, .ref a_draft_slow, .ref a_draft_told])), (a_draft_told, .inl (cI, 8, .inl z_draft_told)), (a_draft_bank, .inl (cI, 8, .inl z_draft_bank)), (a_draft_kind, .inl (cI, 8, .inl z_draft_kind)), (a_draft_word, .inl (cI, 8, .inl z_draft_word)), (a_draft_slow, .inl (cI, 8, .inl z_draft_slow))] H := hP
  have hD : va_D A [(a_this, .inr (6, [.ref a_letters, .ref a_draft, .int (mn p1 120), .int z_at, .int z_place, .int z_token, .int z_value])), (a_letters, .inl (cI, 120, .inl z_letters)), (a_draft, .inr (0, [.int z_draft_planks, .int z_draft_size, .int z_draft_sworn, .ref a_draft_bank, .ref a_draft_kind, .ref a_draft_word, .ref a_draft_slow, .ref a_draft_told])), (a_draft_told, .inl (cI, 8, .inl z_draft_told)), (a_draft_bank, .inl (cI, 8, .inl z_draft_bank)), (a_draft_kind, .inl (cI, 8, .inl z_draft_kind)), (a_draft_word, .inl (cI, 8, .inl z_draft_word)), (a_draft_slow, .inl (cI, 8, .inl z_draft_slow))] := hD
  refine lv_aload_n hx hb dX6_readAll_13 rfl (lv_at hl 0 rfl) ?_
  refine lv_iconst (v := 0) hx hb dX6_readAll_14 (by decide) ?_
  refine va_put (D := D) (ci := 6) (v := .int 0) (ty := .int) (C := RX6) (T := TX6) (N := 7) hx hb hts inTX6 tyX6 tyX6_ok nmX6 hown hK hP hD hS 0 rfl rfl 3 (by decide) (hts _ q130) (fun _ h9 => h9) rfl (by decide +kernel) rfl rfl (Nat.le_of_ble_eq_true rfl) dX6_readAll_15 (fun H locs hP hD hS => ?_)
  have hP : va_P D vwCl [(a_this, .inr (6, [.ref a_letters, .ref a_draft, .int (mn p1 120), .int 0, .int z_place, .int z_token, .int z_value])), (a_letters, .inl (cI, 120, .inl z_letters)), (a_draft, .inr (0, [.int z_draft_planks, .int z_draft_size, .int z_draft_sworn, .ref a_draft_bank, .ref a_draft_kind, .ref a_draft_word, .ref a_draft_slow, .ref a_draft_told])), (a_draft_told, .inl (cI, 8, .inl z_draft_told)), (a_draft_bank, .inl (cI, 8, .inl z_draft_bank)), (a_draft_kind, .inl (cI, 8, .inl z_draft_kind)), (a_draft_word, .inl (cI, 8, .inl z_draft_word)), (a_draft_slow, .inl (cI, 8, .inl z_draft_slow))] H := hP
  have hD : va_D A [(a_this, .inr (6, [.ref a_letters, .ref a_draft, .int (mn p1 120), .int 0, .int z_place, .int z_token, .int z_value])), (a_letters, .inl (cI, 120, .inl z_letters)), (a_draft, .inr (0, [.int z_draft_planks, .int z_draft_size, .int z_draft_sworn, .ref a_draft_bank, .ref a_draft_kind, .ref a_draft_word, .ref a_draft_slow, .ref a_draft_told])), (a_draft_told, .inl (cI, 8, .inl z_draft_told)), (a_draft_bank, .inl (cI, 8, .inl z_draft_bank)), (a_draft_kind, .inl (cI, 8, .inl z_draft_kind)), (a_draft_word, .inl (cI, 8, .inl z_draft_word)), (a_draft_slow, .inl (cI, 8, .inl z_draft_slow))] := hD
  refine lv_aload_n hx hb dX6_readAll_18 rfl (lv_at hl 0 rfl) ?_
  refine va_get (D := D) (ci := 6) (v := .ref a_draft) (C := RX6) (T := TX6) (N := 7) hx hb hts inTX6 hown hK hP 0 rfl rfl 1 (by decide) (hts _ q128) (fun _ h9 => h9) rfl dX6_readAll_19 ?_
  obtain ⟨⟨g2, g3, g4, g5⟩, hv1, hf⟩ := ob hf
  dsimp only at hf
  refine kX0_leave hx hb hml hown hts hKW q352 hP hD hS [2, 3] rfl (by decide) hv1 hl.1 (Nat.le_of_ble_eq_true rfl) ⟨Nat.le_of_ble_eq_true rfl, Nat.le_of_ble_eq_true rfl⟩ ⟨Nat.zero_le _, Nat.zero_le _⟩ dX6_readAll_22 (fun H locs hP hD hS => ?_)
  have hP : va_P D vwCl [(a_this, .inr (6, [.ref a_letters, .ref a_draft, .int (mn p1 120), .int 0, .int z_place, .int z_token, .int z_value])), (a_letters, .inl (cI, 120, .inl z_letters)), (a_draft, .inr (0, [.int g3, .int g4, .int g5, .ref a_draft_bank, .ref a_draft_kind, .ref a_draft_word, .ref a_draft_slow, .ref a_draft_told])), (a_draft_told, .inl (cI, 8, .inl g2)), (a_draft_bank, .inl (cI, 8, .inl z_draft_bank)), (a_draft_kind, .inl (cI, 8, .inl z_draft_kind)), (a_draft_word, .inl (cI, 8, .inl z_draft_word)), (a_draft_slow, .inl (cI, 8, .inl z_draft_slow))] H := hP
  have hD : va_D A [(a_this, .inr (6, [.ref a_letters, .ref a_draft, .int (mn p1 120), .int 0, .int z_place, .int z_token, .int z_value])), (a_letters, .inl (cI, 120, .inl z_letters)), (a_draft, .inr (0, [.int g3, .int g4, .int g5, .ref a_draft_bank, .ref a_draft_kind, .ref a_draft_word, .ref a_draft_slow, .ref a_draft_told])), (a_draft_told, .inl (cI, 8, .inl g2)), (a_draft_bank, .inl (cI, 8, .inl z_draft_bank)), (a_draft_kind, .inl (cI, 8, .inl z_draft_kind)), (a_draft_word, .inl (cI, 8, .inl z_draft_word)), (a_draft_slow, .inl (cI, 8, .inl z_draft_slow))] := hD
  refine lv_iconst (v := 0) hx hb dX6_readAll_25 (by decide) ?_
  refine lv_istore_n (lv' := [(2, .int 0), (0, .ref a_this), (1, .int p1)]) hx hb dX6_readAll_26 rfl hl (by decide) rfl (fun ls hl => ?_)
  exact hB27 fu 0 g2 (mn p1 120) 0 z_value z_place z_token g4 g3 z_draft_bank z_draft_kind z_draft_word z_draft_slow g5 H locs ls hP hD hS (lv_sub hl [1, 0] rfl) hf
theorem kX6_readAll {p : Program} {l : Launch} {e : Env} {R : Room} {s : State} {m : MethodId} {args : Array Value} {below : List Frame} {meth : Method} {c : Code} {H : Heap} {locs : List Loc} {cells slots : Nat} {Q : State → Prop} {cc : ByteArray} {nL pc index : Nat} {ls : Array Slot} {rest : List Value} {own : String} {D : va_G} {cI cZ cQ : ClassId} {adK adV : Nat → Nat} {a_this a_letters a_draft a_draft_bank a_draft_kind a_draft_word a_draft_slow a_draft_told : Nat} {z_length z_at z_place z_token z_value z_draft_planks z_draft_size z_draft_sworn p1 : Int32} {z_letters z_draft_told z_draft_bank z_draft_kind z_draft_word z_draft_slow : Nat → Int32} {fu : Nat} {r : Int32} {o_z_length o_z_at o_z_value o_z_place o_z_token o_z_draft_size o_z_draft_planks o_z_draft_sworn : Int32} {o_z_draft_told o_z_draft_bank o_z_draft_kind o_z_draft_word o_z_draft_slow : Nat → Int32} (hx : p.tables.exec = Jvm.exec) (hb : c.code = cc) (hml : c.maxLocals = nL) (hown : s.vm.findClass own = some m.cls) (hts : ∀ w ∈ TB, w.before args s = true) (hKW : KW D (TY cI cZ cQ) s) (hlk : Cond.methodLink own index yX6_readAll ∈ TB) {ws : va_W} {A : Nat → Prop} (hP : va_P D vwCl ws H) (hD : va_D A ws) (hS : va_S A s.heap H locs) (hSK : SK adK adV A s s.heap) (is : List Nat) (hC : is.map (fun i => ws[i]?) = ([(a_this, .inr (6, [.ref a_letters, .ref a_draft, .int z_length, .int z_at, .int z_place, .int z_token, .int z_value])), (a_letters, .inl (cI, 120, .inl z_letters)), (a_draft, .inr (0, [.int z_draft_planks, .int z_draft_size, .int z_draft_sworn, .ref a_draft_bank, .ref a_draft_kind, .ref a_draft_word, .ref a_draft_slow, .ref a_draft_told])), (a_draft_told, .inl (cI, 8, .inl z_draft_told)), (a_draft_bank, .inl (cI, 8, .inl z_draft_bank)), (a_draft_kind, .inl (cI, 8, .inl z_draft_kind)), (a_draft_word, .inl (cI, 8, .inl z_draft_word)), (a_draft_slow, .inl (cI, 8, .inl z_draft_slow))] : va_W).map some) (hnd : va_nd is = true) (hf : fX6_readAll fu z_letters z_draft_told z_length z_at z_value z_place z_token z_draft_size z_draft_planks z_draft_bank z_draft_kind z_draft_word z_draft_slow z_draft_sworn p1 = some (r, o_z_draft_told, o_z_length, o_z_at, o_z_value, o_z_place, o_z_token, o_z_draft_size, o_z_draft_planks, o_z_draft_bank, o_z_draft_kind, o_z_draft_word, o_z_draft_slow, o_z_draft_sworn)) (hn : ls.size = nL) (hW : (rest.map fun v => v.category).sum ≤ 8) (hR : 8 + 1 ≤ R.frames ∧ 8 + (3 + 11) + 198 ≤ R.locals) (hcs : cells ≤ R.cells ∧ slots ≤ R.slots) (hdg : decode cc pc = .ok (.invokevirtual index, 3)) (kk : ∀ (H1 : Heap) (locs1 : List Loc), va_P D vwCl (rpl ws is [(a_this, .inr (6, [.ref a_letters, .ref a_draft, .int o_z_length, .int o_z_at, .int o_z_place, .int o_z_token, .int o_z_value])), (a_letters, .inl (cI, 120, .inl z_letters)), (a_draft, .inr (0, [.int o_z_draft_planks, .int o_z_draft_size, .int o_z_draft_sworn, .ref a_draft_bank, .ref a_draft_kind, .ref a_draft_word, .ref a_draft_slow, .ref a_draft_told])), (a_draft_told, .inl (cI, 8, .inl o_z_draft_told)), (a_draft_bank, .inl (cI, 8, .inl o_z_draft_bank)), (a_draft_kind, .inl (cI, 8, .inl o_z_draft_kind)), (a_draft_word, .inl (cI, 8, .inl o_z_draft_word)), (a_draft_slow, .inl (cI, 8, .inl o_z_draft_slow))]) H1 → va_D A (rpl ws is [(a_this, .inr (6, [.ref a_letters, .ref a_draft, .int o_z_length, .int o_z_at, .int o_z_place, .int o_z_token, .int o_z_value])), (a_letters, .inl (cI, 120, .inl z_letters)), (a_draft, .inr (0, [.int o_z_draft_planks, .int o_z_draft_size, .int o_z_draft_sworn, .ref a_draft_bank, .ref a_draft_kind, .ref a_draft_word, .ref a_draft_slow, .ref a_draft_told])), (a_draft_told, .inl (cI, 8, .inl o_z_draft_told)), (a_draft_bank, .inl (cI, 8, .inl o_z_draft_bank)), (a_draft_kind, .inl (cI, 8, .inl o_z_draft_kind)), (a_draft_word, .inl (cI, 8, .inl o_z_draft_word)), (a_draft_slow, .inl (cI, 8, .inl o_z_draft_slow))]) → va_S A s.heap H1 locs1 → W p l e R s m args below meth c H1 locs1 cells slots Q (F0 m (pc + 3) ls (.int r :: rest))) : W p l e R s m args below meth c H locs cells slots Q (F0 m pc ls (.int p1 :: .ref a_this :: rest)) :=
  x_rw (va_runV (As := [.int p1]) (rest := rest) ⟨hx, hb, hml, hown, hts⟩ (tX6_readAll hf) (cwV 1 hts (tb_V hlk q346 q347 q41 q348) rfl rfl rfl (by decide +kernel) hR) ⟨rsB, va_recv hKW.1 (subP hP hC) (ci := 6) (q0 := 0) rfl rfl, fun U hU hW => ⟨rfl, by rw [hU]; exact subP hP hC, hKW.warm hW, subD hD hC hnd, hSK.at hS hW hU (subIn hD hC)⟩⟩ rfl rfl hn rfl (lv_room hW) hdg hcs) hP hD hS is hC rfl kk
