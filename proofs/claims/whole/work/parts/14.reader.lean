-- HalfPlanks$Reader.takeNumber()V
def fX6_takeNumber_b149 (fu : Nat) (z_length : Int32) (z_letters : Nat → Int32) (z_place : Int32) (s0 : Int32) (z_at : Int32) (z_value : Int32) (z_token : Int32) : Option (Int32 × Int32 × Int32) :=
  some (z_at, z_value, s0)
def fX6_takeNumber_b127 (fu : Nat) (z_length : Int32) (z_letters : Nat → Int32) (z_place : Int32) (s0 : Int32) (z_at : Int32) (z_value : Int32) (z_token : Int32) : Option (Int32 × Int32 × Int32) :=
  (if 99 < z_value then
  fX6_takeNumber_b149 fu z_length z_letters z_place (-3) z_at z_value z_token
  else
  (if s0 = 0 then
  fX6_takeNumber_b149 fu z_length z_letters z_place (-2) z_at z_value z_token
  else
  fX6_takeNumber_b149 fu z_length z_letters z_place (-3) z_at z_value z_token))
def fX6_takeNumber_b95 (fu : Nat) (z_length : Int32) (z_letters : Nat → Int32) (z_place : Int32) (z_at : Int32) (z_value : Int32) (z_token : Int32) : Option (Int32 × Int32 × Int32) :=
  (if (z_at - z_place) ≤ 1 then
  fX6_takeNumber_b127 fu z_length z_letters z_place 0 z_at z_value z_token
  else
  (rd 120 z_letters z_place).bind fun v5 =>
  (if v5 = 48 then
  fX6_takeNumber_b127 fu z_length z_letters z_place 1 z_at z_value z_token
  else
  fX6_takeNumber_b127 fu z_length z_letters z_place 0 z_at z_value z_token))
def fX6_takeNumber_b79 (fu : Nat) (z_length : Int32) (z_letters : Nat → Int32) (z_place : Int32) (r5 : Int32 → Int32 → Int32 → Option (Int32 × Int32 × Int32)) (s0 : Int32) (z_at : Int32) (z_value : Int32) (z_token : Int32) : Option (Int32 × Int32 × Int32) :=
  r5 (z_at + 1) s0 z_token
def fX6_takeNumber_b5_body (fu : Nat) (z_length : Int32) (z_letters : Nat → Int32) (z_place : Int32) (r5 : Int32 → Int32 → Int32 → Option (Int32 × Int32 × Int32)) (z_at : Int32) (z_value : Int32) (z_token : Int32) : Option (Int32 × Int32 × Int32) :=
  (if z_length ≤ z_at then
  fX6_takeNumber_b95 fu z_length z_letters z_place z_at z_value z_token
  else
  (rd 120 z_letters z_at).bind fun v7 =>
  (if v7 < 48 then
  fX6_takeNumber_b95 fu z_length z_letters z_place z_at z_value z_token
  else
  (rd 120 z_letters z_at).bind fun v9 =>
  (if 57 < v9 then
  fX6_takeNumber_b95 fu z_length z_letters z_place z_at z_value z_token
  else
  (if 10 ≤ z_value then
  fX6_takeNumber_b79 fu z_length z_letters z_place r5 100 z_at z_value z_token
  else
  (rd 120 z_letters z_at).bind fun v12 =>
  fX6_takeNumber_b79 fu z_length z_letters z_place r5 (((z_value * 10) + v12) - 48) z_at z_value z_token))))
def fX6_takeNumber_b5 (fu : Nat) (z_length : Int32) (z_letters : Nat → Int32) (z_place : Int32) : Nat → Int32 → Int32 → Int32 → Option (Int32 × Int32 × Int32)
  | 0, _, _, _ => none
  | n + 1, z_at, z_value, z_token => fX6_takeNumber_b5_body fu z_length z_letters z_place (fX6_takeNumber_b5 fu z_length z_letters z_place n) z_at z_value z_token
def fX6_takeNumber (fu : Nat) (z_length : Int32) (z_letters : Nat → Int32) (z_place : Int32) (z_at : Int32) (z_value : Int32) (z_token : Int32) : Option (Int32 × Int32 × Int32) :=
  fX6_takeNumber_b5 fu z_length z_letters z_place fu z_at 0 z_token
set_option maxHeartbeats 4000000 in
set_option maxRecDepth 100000 in
theorem tX6_takeNumber {l : Launch} {D : va_G} {cI cZ cQ : ClassId} {a_this a_letters a_draft : Nat} {z_length z_at z_place z_token z_value : Int32} {z_letters : Nat → Int32} {fu : Nat} {o_z_at o_z_value o_z_token : Int32} (hf : fX6_takeNumber fu z_length z_letters z_place z_at z_value z_token = some (o_z_at, o_z_value, o_z_token)) : Met l yX6_takeNumber (.code yX6_takeNumber cX6_takeNumber 2 none :: TB) ({ frames := 0, cells := 0, slots := 0, locals := 0 } : Room) (rwP D (TY cI cZ cQ) [(a_this, .inr (6, [.ref a_letters, .ref a_draft, .int z_length, .int z_at, .int z_place, .int z_token, .int z_value])), (a_letters, .inl (cI, 120, .inl z_letters))] [.ref a_this]) (rwQ D none [(a_this, .inr (6, [.ref a_letters, .ref a_draft, .int z_length, .int o_z_at, .int z_place, .int o_z_token, .int o_z_value])), (a_letters, .inl (cI, 120, .inl z_letters))] (inW [(a_this, .inr (6, [.ref a_letters, .ref a_draft, .int z_length, .int z_at, .int z_place, .int z_token, .int z_value])), (a_letters, .inl (cI, 120, .inl z_letters))])) 0 0 (inW [(a_this, .inr (6, [.ref a_letters, .ref a_draft, .int z_length, .int z_at, .int z_place, .int z_token, .int z_value])), (a_letters, .inl (cI, 120, .inl z_letters))]) := by
  refine Met.ofW (cc := cX6_takeNumber) (maxL := 2) (ret := none) (by decide) rfl ?_
  intro p e s m args below meth c s₁ B hml hv
  obtain ⟨rfl, hP, hKW, hD0⟩ := hv
  have hx := B.exec
  have hb := B.bytes
  have hr := B.returns
  have hts : ∀ w ∈ TB, w.before ([.ref a_this] : List Value).toArray s = true := fun w h => atoms_spec (ws := .code yX6_takeNumber cX6_takeNumber 2 none :: TB) B.pre w (List.mem_cons_of_mem _ h)
  have hown : s.vm.findClass RX6 = some m.cls := findClass_of_methodNamed B.named
  have hlocks := B.notSynchronized
  have hK := hKW.1
  have hD := inW_D hD0
  generalize hAe : inW [(a_this, .inr (6, [.ref a_letters, .ref a_draft, .int z_length, .int z_at, .int z_place, .int z_token, .int z_value])), (a_letters, .inl (cI, 120, .inl z_letters))] = A at hD ⊢
  have hS : va_S A s.heap s.heap [] := va_S.rf
  have hl := lv_entry [.ref a_this] (n := 2) (Nat.le_of_ble_eq_true rfl)
  rw [lg_entry_eq]
  generalize (lg_sl [.ref a_this] ++ List.replicate (2 - (lg_sl [.ref a_this]).length) Slot.unset).toArray = ls at hl ⊢
  have hl : lv_has ls 2 [(0, .ref a_this)] := hl
  show W p l e ({ frames := 0, cells := 0, slots := 0, locals := 0 } : Room) s m ([.ref a_this] : List Value).toArray below meth c s.heap [] 0 0 (MQ below (rwQ D none [(a_this, .inr (6, [.ref a_letters, .ref a_draft, .int z_length, .int o_z_at, .int z_place, .int o_z_token, .int o_z_value])), (a_letters, .inl (cI, 120, .inl z_letters))] A) ([.ref a_this] : List Value).toArray s 0 0 A) (F0 m 0 ls [])
  have hP : va_P D vwCl [(a_this, .inr (6, [.ref a_letters, .ref a_draft, .int z_length, .int z_at, .int z_place, .int z_token, .int z_value])), (a_letters, .inl (cI, 120, .inl z_letters))] s.heap := hP
  have hD : va_D A [(a_this, .inr (6, [.ref a_letters, .ref a_draft, .int z_length, .int z_at, .int z_place, .int z_token, .int z_value])), (a_letters, .inl (cI, 120, .inl z_letters))] := hD
  have hB149 : ∀ (s0 : Int32) (z_at : Int32) (z_value : Int32) (z_token : Int32) (H : Heap) (locs : List Loc) (ls : Array Slot), va_P D vwCl [(a_this, .inr (6, [.ref a_letters, .ref a_draft, .int z_length, .int z_at, .int z_place, .int z_token, .int z_value])), (a_letters, .inl (cI, 120, .inl z_letters))] H → va_D A [(a_this, .inr (6, [.ref a_letters, .ref a_draft, .int z_length, .int z_at, .int z_place, .int z_token, .int z_value])), (a_letters, .inl (cI, 120, .inl z_letters))] → va_S A s.heap H locs → lv_has ls 2 [] → fX6_takeNumber_b149 fu z_length z_letters z_place s0 z_at z_value z_token = some (o_z_at, o_z_value, o_z_token) → W p l e ({ frames := 0, cells := 0, slots := 0, locals := 0 } : Room) s m ([.ref a_this] : List Value).toArray below meth c H locs 0 0 (MQ below (rwQ D none [(a_this, .inr (6, [.ref a_letters, .ref a_draft, .int z_length, .int o_z_at, .int z_place, .int o_z_token, .int o_z_value])), (a_letters, .inl (cI, 120, .inl z_letters))] A) ([.ref a_this] : List Value).toArray s 0 0 A) (F0 m 149 ls [.int s0, .ref a_this]) := by
    intro s0 z_at z_value z_token H locs ls hP hD hS hl hf
    unfold fX6_takeNumber_b149 at hf
    refine va_put (D := D) (ci := 6) (v := .int s0) (ty := .int) (C := RX6) (T := TX6) (N := 7) hx hb hts inTX6 tyX6 tyX6_ok nmX6 hown hK hP hD hS 0 rfl rfl 5 (by decide) (hts _ q132) (fun _ h9 => h9) rfl (by decide +kernel) rfl rfl (Nat.le_of_ble_eq_true rfl) dX6_takeNumber_149 (fun H locs hP hD hS => ?_)
    have hP : va_P D vwCl [(a_this, .inr (6, [.ref a_letters, .ref a_draft, .int z_length, .int z_at, .int z_place, .int s0, .int z_value])), (a_letters, .inl (cI, 120, .inl z_letters))] H := hP
    have hD : va_D A [(a_this, .inr (6, [.ref a_letters, .ref a_draft, .int z_length, .int z_at, .int z_place, .int s0, .int z_value])), (a_letters, .inl (cI, 120, .inl z_letters))] := hD
    cases hf
    exact W.vret hx hb hr (fun t ht _ => ⟨rfl, by rw [ht]; exact hP, hS.F ht⟩) hS.2.2 dX6_takeNumber_152
  have hB127 : ∀ (s0 : Int32) (z_at : Int32) (z_value : Int32) (z_token : Int32) (H : Heap) (locs : List Loc) (ls : Array Slot), va_P D vwCl [(a_this, .inr (6, [.ref a_letters, .ref a_draft, .int z_length, .int z_at, .int z_place, .int z_token, .int z_value])), (a_letters, .inl (cI, 120, .inl z_letters))] H → va_D A [(a_this, .inr (6, [.ref a_letters, .ref a_draft, .int z_length, .int z_at, .int z_place, .int z_token, .int z_value])), (a_letters, .inl (cI, 120, .inl z_letters))] → va_S A s.heap H locs → lv_has ls 2 [(0, .ref a_this)] → fX6_takeNumber_b127 fu z_length z_letters z_place s0 z_at z_value z_token = some (o_z_at, o_z_value, o_z_token) → W p l e ({ frames := 0, cells := 0, slots := 0, locals := 0 } : Room) s m ([.ref a_this] : List Value).toArray below meth c H locs 0 0 (MQ below (rwQ D none [(a_this, .inr (6, [.ref a_letters, .ref a_draft, .int z_length, .int o_z_at, .int z_place, .int o_z_token, .int o_z_value])), (a_letters, .inl (cI, 120, .inl z_letters))] A) ([.ref a_this] : List Value).toArray s 0 0 A) (F0 m 127 ls [.int s0]) := by
    intro s0 z_at z_value z_token H locs ls hP hD hS hl hf
    unfold fX6_takeNumber_b127 at hf
    refine lv_istore_n (lv' := [(1, .int s0), (0, .ref a_this)]) hx hb dX6_takeNumber_127 rfl hl (by decide) rfl (fun ls hl => ?_)
    refine lv_aload_n hx hb dX6_takeNumber_128 rfl (lv_at hl 1 rfl) ?_
    refine lv_aload_n hx hb dX6_takeNumber_129 rfl (lv_at hl 1 rfl) ?_
    refine va_get (D := D) (ci := 6) (v := .int z_value) (C := RX6) (T := TX6) (N := 7) hx hb hts inTX6 hown hK hP 0 rfl rfl 6 (by decide) (hts _ q133) (fun _ h9 => h9) rfl dX6_takeNumber_130 ?_
    refine lv_bipush (v := 99) hx hb dX6_takeNumber_133 (by decide) ?_
    refine lv_icmp_gt (tgt := 142) hx hb dX6_takeNumber_135 (by decide) (fun c3 => ?_) (fun c3 => ?_)
    · replace hf := it hf c3
      refine lv_bipush (v := -3) hx hb dX6_takeNumber_142 (by decide) ?_
      refine lv_goto (tgt := 149) hx hb dX6_takeNumber_144 (by decide) ?_
      exact hB149 (-3) z_at z_value z_token H locs ls hP hD hS (lv_sub hl [] rfl) hf
    · replace hf := ie hf c3
      refine lv_iload_n hx hb dX6_takeNumber_138 rfl (lv_at hl 0 rfl) ?_
      refine lv_if_eq (tgt := 147) hx hb dX6_takeNumber_139 (by decide) (fun c4 => ?_) (fun c4 => ?_)
      · replace hf := it hf c4
        refine lv_bipush (v := -2) hx hb dX6_takeNumber_147 (by decide) ?_
        exact hB149 (-2) z_at z_value z_token H locs ls hP hD hS (lv_sub hl [] rfl) hf
      · replace hf := ie hf c4
        refine lv_bipush (v := -3) hx hb dX6_takeNumber_142 (by decide) ?_
        refine lv_goto (tgt := 149) hx hb dX6_takeNumber_144 (by decide) ?_
        exact hB149 (-3) z_at z_value z_token H locs ls hP hD hS (lv_sub hl [] rfl) hf
  have hB95 : ∀ (z_at : Int32) (z_value : Int32) (z_token : Int32) (H : Heap) (locs : List Loc) (ls : Array Slot), va_P D vwCl [(a_this, .inr (6, [.ref a_letters, .ref a_draft, .int z_length, .int z_at, .int z_place, .int z_token, .int z_value])), (a_letters, .inl (cI, 120, .inl z_letters))] H → va_D A [(a_this, .inr (6, [.ref a_letters, .ref a_draft, .int z_length, .int z_at, .int z_place, .int z_token, .int z_value])), (a_letters, .inl (cI, 120, .inl z_letters))] → va_S A s.heap H locs → lv_has ls 2 [(0, .ref a_this)] → fX6_takeNumber_b95 fu z_length z_letters z_place z_at z_value z_token = some (o_z_at, o_z_value, o_z_token) → W p l e ({ frames := 0, cells := 0, slots := 0, locals := 0 } : Room) s m ([.ref a_this] : List Value).toArray below meth c H locs 0 0 (MQ below (rwQ D none [(a_this, .inr (6, [.ref a_letters, .ref a_draft, .int z_length, .int o_z_at, .int z_place, .int o_z_token, .int o_z_value])), (a_letters, .inl (cI, 120, .inl z_letters))] A) ([.ref a_this] : List Value).toArray s 0 0 A) (F0 m 95 ls []) := by
    intro z_at z_value z_token H locs ls hP hD hS hl hf
    unfold fX6_takeNumber_b95 at hf
    refine lv_aload_n hx hb dX6_takeNumber_95 rfl (lv_at hl 0 rfl) ?_
    refine va_get (D := D) (ci := 6) (v := .int z_at) (C := RX6) (T := TX6) (N := 7) hx hb hts inTX6 hown hK hP 0 rfl rfl 3 (by decide) (hts _ q130) (fun _ h9 => h9) rfl dX6_takeNumber_96 ?_
    refine lv_aload_n hx hb dX6_takeNumber_99 rfl (lv_at hl 0 rfl) ?_
    refine va_get (D := D) (ci := 6) (v := .int z_place) (C := RX6) (T := TX6) (N := 7) hx hb hts inTX6 hown hK hP 0 rfl rfl 4 (by decide) (hts _ q131) (fun _ h9 => h9) rfl dX6_takeNumber_100 ?_
    refine lv_isub hx hb dX6_takeNumber_103 ?_
    refine lv_iconst (v := 1) hx hb dX6_takeNumber_104 (by decide) ?_
    refine lv_icmp_le (tgt := 126) hx hb dX6_takeNumber_105 (by decide) (fun c2 => ?_) (fun c2 => ?_)
    · replace hf := it hf c2
      refine lv_iconst (v := 0) hx hb dX6_takeNumber_126 (by decide) ?_
      exact hB127 0 z_at z_value z_token H locs ls hP hD hS (lv_sub hl [0] rfl) hf
    · replace hf := ie hf c2
      refine lv_aload_n hx hb dX6_takeNumber_108 rfl (lv_at hl 0 rfl) ?_
      refine va_get (D := D) (ci := 6) (v := .ref a_letters) (C := RX6) (T := TX6) (N := 7) hx hb hts inTX6 hown hK hP 0 rfl rfl 0 (by decide) (hts _ q127) (fun _ h9 => h9) rfl dX6_takeNumber_109 ?_
      refine lv_aload_n hx hb dX6_takeNumber_112 rfl (lv_at hl 0 rfl) ?_
      refine va_get (D := D) (ci := 6) (v := .int z_place) (C := RX6) (T := TX6) (N := 7) hx hb hts inTX6 hown hK hP 0 rfl rfl 4 (by decide) (hts _ q131) (fun _ h9 => h9) rfl dX6_takeNumber_113 ?_
      obtain ⟨v5, hv5, hf⟩ := ob hf
      refine x_iald hx hb hK hP 1 0 rfl rfl hv5 dX6_takeNumber_116 ?_
      refine lv_bipush (v := 48) hx hb dX6_takeNumber_117 (by decide) ?_
      refine lv_icmp_ne (tgt := 126) hx hb dX6_takeNumber_119 (by decide) (fun c6 => ?_) (fun c6 => ?_)
      · replace hf := ie hf c6
        refine lv_iconst (v := 0) hx hb dX6_takeNumber_126 (by decide) ?_
        exact hB127 0 z_at z_value z_token H locs ls hP hD hS (lv_sub hl [0] rfl) hf
      · replace hf := it hf c6
        refine lv_iconst (v := 1) hx hb dX6_takeNumber_122 (by decide) ?_
        refine lv_goto (tgt := 127) hx hb dX6_takeNumber_123 (by decide) ?_
        exact hB127 1 z_at z_value z_token H locs ls hP hD hS (lv_sub hl [0] rfl) hf
  have hB5 : ∀ (n5 : Nat) (z_at : Int32) (z_value : Int32) (z_token : Int32) (H : Heap) (locs : List Loc) (ls : Array Slot), va_P D vwCl [(a_this, .inr (6, [.ref a_letters, .ref a_draft, .int z_length, .int z_at, .int z_place, .int z_token, .int z_value])), (a_letters, .inl (cI, 120, .inl z_letters))] H → va_D A [(a_this, .inr (6, [.ref a_letters, .ref a_draft, .int z_length, .int z_at, .int z_place, .int z_token, .int z_value])), (a_letters, .inl (cI, 120, .inl z_letters))] → va_S A s.heap H locs → lv_has ls 2 [(0, .ref a_this)] → fX6_takeNumber_b5 fu z_length z_letters z_place n5 z_at z_value z_token = some (o_z_at, o_z_value, o_z_token) → W p l e ({ frames := 0, cells := 0, slots := 0, locals := 0 } : Room) s m ([.ref a_this] : List Value).toArray below meth c H locs 0 0 (MQ below (rwQ D none [(a_this, .inr (6, [.ref a_letters, .ref a_draft, .int z_length, .int o_z_at, .int z_place, .int o_z_token, .int o_z_value])), (a_letters, .inl (cI, 120, .inl z_letters))] A) ([.ref a_this] : List Value).toArray s 0 0 A) (F0 m 5 ls []) := by
    intro n5
    induction n5 with
    | zero => intro z_at z_value z_token H locs ls hP hD hS hl hf; exact nn hf
    | succ n5 ih5 =>
      have hB79 : ∀ (s0 : Int32) (z_at : Int32) (z_value : Int32) (z_token : Int32) (H : Heap) (locs : List Loc) (ls : Array Slot), va_P D vwCl [(a_this, .inr (6, [.ref a_letters, .ref a_draft, .int z_length, .int z_at, .int z_place, .int z_token, .int z_value])), (a_letters, .inl (cI, 120, .inl z_letters))] H → va_D A [(a_this, .inr (6, [.ref a_letters, .ref a_draft, .int z_length, .int z_at, .int z_place, .int z_token, .int z_value])), (a_letters, .inl (cI, 120, .inl z_letters))] → va_S A s.heap H locs → lv_has ls 2 [(0, .ref a_this)] → fX6_takeNumber_b79 fu z_length z_letters z_place (fX6_takeNumber_b5 fu z_length z_letters z_place n5) s0 z_at z_value z_token = some (o_z_at, o_z_value, o_z_token) → W p l e ({ frames := 0, cells := 0, slots := 0, locals := 0 } : Room) s m ([.ref a_this] : List Value).toArray below meth c H locs 0 0 (MQ below (rwQ D none [(a_this, .inr (6, [.ref a_letters, .ref a_draft, .int z_length, .int o_z_at, .int z_place, .int o_z_token, .int o_z_value])), (a_letters, .inl (cI, 120, .inl z_letters))] A) ([.ref a_this] : List Value).toArray s 0 0 A) (F0 m 79 ls [.int s0, .ref a_this]) := by
        intro s0 z_at z_value z_token H locs ls hP hD hS hl hf
        unfold fX6_takeNumber_b79 at hf
        refine va_put (D := D) (ci := 6) (v := .int s0) (ty := .int) (C := RX6) (T := TX6) (N := 7) hx hb hts inTX6 tyX6 tyX6_ok nmX6 hown hK hP hD hS 0 rfl rfl 6 (by decide) (hts _ q133) (fun _ h9 => h9) rfl (by decide +kernel) rfl rfl (Nat.le_of_ble_eq_true rfl) dX6_takeNumber_79 (fun H locs hP hD hS => ?_)
        have hP : va_P D vwCl [(a_this, .inr (6, [.ref a_letters, .ref a_draft, .int z_length, .int z_at, .int z_place, .int z_token, .int s0])), (a_letters, .inl (cI, 120, .inl z_letters))] H := hP
        have hD : va_D A [(a_this, .inr (6, [.ref a_letters, .ref a_draft, .int z_length, .int z_at, .int z_place, .int z_token, .int s0])), (a_letters, .inl (cI, 120, .inl z_letters))] := hD
        refine lv_aload_n hx hb dX6_takeNumber_82 rfl (lv_at hl 0 rfl) ?_
        refine lv_dup hx hb dX6_takeNumber_83 rfl ?_
        refine va_get (D := D) (ci := 6) (v := .int z_at) (C := RX6) (T := TX6) (N := 7) hx hb hts inTX6 hown hK hP 0 rfl rfl 3 (by decide) (hts _ q130) (fun _ h9 => h9) rfl dX6_takeNumber_84 ?_
        refine lv_iconst (v := 1) hx hb dX6_takeNumber_87 (by decide) ?_
        refine lv_iadd hx hb dX6_takeNumber_88 ?_
        refine va_put (D := D) (ci := 6) (v := .int (z_at + 1)) (ty := .int) (C := RX6) (T := TX6) (N := 7) hx hb hts inTX6 tyX6 tyX6_ok nmX6 hown hK hP hD hS 0 rfl rfl 3 (by decide) (hts _ q130) (fun _ h9 => h9) rfl (by decide +kernel) rfl rfl (Nat.le_of_ble_eq_true rfl) dX6_takeNumber_89 (fun H locs hP hD hS => ?_)
        have hP : va_P D vwCl [(a_this, .inr (6, [.ref a_letters, .ref a_draft, .int z_length, .int (z_at + 1), .int z_place, .int z_token, .int s0])), (a_letters, .inl (cI, 120, .inl z_letters))] H := hP
        have hD : va_D A [(a_this, .inr (6, [.ref a_letters, .ref a_draft, .int z_length, .int (z_at + 1), .int z_place, .int z_token, .int s0])), (a_letters, .inl (cI, 120, .inl z_letters))] := hD
        refine lv_goto (tgt := 5) hx hb dX6_takeNumber_92 (by decide) ?_
        exact ih5 (z_at + 1) s0 z_token H locs ls hP hD hS (lv_sub hl [0] rfl) hf
      intro z_at z_value z_token H locs ls hP hD hS hl hf
      replace hf : fX6_takeNumber_b5_body fu z_length z_letters z_place (fX6_takeNumber_b5 fu z_length z_letters z_place n5) z_at z_value z_token = some (o_z_at, o_z_value, o_z_token) := hf
      unfold fX6_takeNumber_b5_body at hf
      refine lv_aload_n hx hb dX6_takeNumber_5 rfl (lv_at hl 0 rfl) ?_
      refine va_get (D := D) (ci := 6) (v := .int z_at) (C := RX6) (T := TX6) (N := 7) hx hb hts inTX6 hown hK hP 0 rfl rfl 3 (by decide) (hts _ q130) (fun _ h9 => h9) rfl dX6_takeNumber_6 ?_
      refine lv_aload_n hx hb dX6_takeNumber_9 rfl (lv_at hl 0 rfl) ?_
      refine va_get (D := D) (ci := 6) (v := .int z_length) (C := RX6) (T := TX6) (N := 7) hx hb hts inTX6 hown hK hP 0 rfl rfl 2 (by decide) (hts _ q129) (fun _ h9 => h9) rfl dX6_takeNumber_10 ?_
      refine lv_icmp_ge (tgt := 95) hx hb dX6_takeNumber_13 (by decide) (fun c1 => ?_) (fun c1 => ?_)
      · replace hf := it hf c1
        exact hB95 z_at z_value z_token H locs ls hP hD hS (lv_sub hl [0] rfl) hf
      · replace hf := ie hf c1
        refine lv_aload_n hx hb dX6_takeNumber_16 rfl (lv_at hl 0 rfl) ?_
        refine va_get (D := D) (ci := 6) (v := .ref a_letters) (C := RX6) (T := TX6) (N := 7) hx hb hts inTX6 hown hK hP 0 rfl rfl 0 (by decide) (hts _ q127) (fun _ h9 => h9) rfl dX6_takeNumber_17 ?_
        refine lv_aload_n hx hb dX6_takeNumber_20 rfl (lv_at hl 0 rfl) ?_
        refine va_get (D := D) (ci := 6) (v := .int z_at) (C := RX6) (T := TX6) (N := 7) hx hb hts inTX6 hown hK hP 0 rfl rfl 3 (by decide) (hts _ q130) (fun _ h9 => h9) rfl dX6_takeNumber_21 ?_
        obtain ⟨v7, hv7, hf⟩ := ob hf
        refine x_iald hx hb hK hP 1 0 rfl rfl hv7 dX6_takeNumber_24 ?_
        refine lv_bipush (v := 48) hx hb dX6_takeNumber_25 (by decide) ?_
        refine lv_icmp_lt (tgt := 95) hx hb dX6_takeNumber_27 (by decide) (fun c8 => ?_) (fun c8 => ?_)
        · replace hf := it hf c8
          exact hB95 z_at z_value z_token H locs ls hP hD hS (lv_sub hl [0] rfl) hf
        · replace hf := ie hf c8
          refine lv_aload_n hx hb dX6_takeNumber_30 rfl (lv_at hl 0 rfl) ?_
          refine va_get (D := D) (ci := 6) (v := .ref a_letters) (C := RX6) (T := TX6) (N := 7) hx hb hts inTX6 hown hK hP 0 rfl rfl 0 (by decide) (hts _ q127) (fun _ h9 => h9) rfl dX6_takeNumber_31 ?_
          refine lv_aload_n hx hb dX6_takeNumber_34 rfl (lv_at hl 0 rfl) ?_
          refine va_get (D := D) (ci := 6) (v := .int z_at) (C := RX6) (T := TX6) (N := 7) hx hb hts inTX6 hown hK hP 0 rfl rfl 3 (by decide) (hts _ q130) (fun _ h9 => h9) rfl dX6_takeNumber_35 ?_
          obtain ⟨v9, hv9, hf⟩ := ob hf
          refine x_iald hx hb hK hP 1 0 rfl rfl hv9 dX6_takeNumber_38 ?_
          refine lv_bipush (v := 57) hx hb dX6_takeNumber_39 (by decide) ?_
          refine lv_icmp_gt (tgt := 95) hx hb dX6_takeNumber_41 (by decide) (fun c10 => ?_) (fun c10 => ?_)
          · replace hf := it hf c10
            exact hB95 z_at z_value z_token H locs ls hP hD hS (lv_sub hl [0] rfl) hf
          · replace hf := ie hf c10
            refine lv_aload_n hx hb dX6_takeNumber_44 rfl (lv_at hl 0 rfl) ?_
            refine lv_aload_n hx hb dX6_takeNumber_45 rfl (lv_at hl 0 rfl) ?_
            refine va_get (D := D) (ci := 6) (v := .int z_value) (C := RX6) (T := TX6) (N := 7) hx hb hts inTX6 hown hK hP 0 rfl rfl 6 (by decide) (hts _ q133) (fun _ h9 => h9) rfl dX6_takeNumber_46 ?_
            refine lv_bipush (v := 10) hx hb dX6_takeNumber_49 (by decide) ?_
            refine lv_icmp_ge (tgt := 77) hx hb dX6_takeNumber_51 (by decide) (fun c11 => ?_) (fun c11 => ?_)
            · replace hf := it hf c11
              refine lv_bipush (v := 100) hx hb dX6_takeNumber_77 (by decide) ?_
              exact hB79 100 z_at z_value z_token H locs ls hP hD hS (lv_sub hl [0] rfl) hf
            · replace hf := ie hf c11
              refine lv_aload_n hx hb dX6_takeNumber_54 rfl (lv_at hl 0 rfl) ?_
              refine va_get (D := D) (ci := 6) (v := .int z_value) (C := RX6) (T := TX6) (N := 7) hx hb hts inTX6 hown hK hP 0 rfl rfl 6 (by decide) (hts _ q133) (fun _ h9 => h9) rfl dX6_takeNumber_55 ?_
              refine lv_bipush (v := 10) hx hb dX6_takeNumber_58 (by decide) ?_
              refine lv_imul hx hb dX6_takeNumber_60 ?_
              refine lv_aload_n hx hb dX6_takeNumber_61 rfl (lv_at hl 0 rfl) ?_
              refine va_get (D := D) (ci := 6) (v := .ref a_letters) (C := RX6) (T := TX6) (N := 7) hx hb hts inTX6 hown hK hP 0 rfl rfl 0 (by decide) (hts _ q127) (fun _ h9 => h9) rfl dX6_takeNumber_62 ?_
              refine lv_aload_n hx hb dX6_takeNumber_65 rfl (lv_at hl 0 rfl) ?_
              refine va_get (D := D) (ci := 6) (v := .int z_at) (C := RX6) (T := TX6) (N := 7) hx hb hts inTX6 hown hK hP 0 rfl rfl 3 (by decide) (hts _ q130) (fun _ h9 => h9) rfl dX6_takeNumber_66 ?_
              obtain ⟨v12, hv12, hf⟩ := ob hf
              refine x_iald hx hb hK hP 1 0 rfl rfl hv12 dX6_takeNumber_69 ?_
              refine lv_iadd hx hb dX6_takeNumber_70 ?_
              refine lv_bipush (v := 48) hx hb dX6_takeNumber_71 (by decide) ?_
              refine lv_isub hx hb dX6_takeNumber_73 ?_
              refine lv_goto (tgt := 79) hx hb dX6_takeNumber_74 (by decide) ?_
              exact hB79 (((z_value * 10) + v12) - 48) z_at z_value z_token H locs ls hP hD hS (lv_sub hl [0] rfl) hf
  unfold fX6_takeNumber at hf
  obtain ⟨H, hH⟩ : ∃ H, H = s.heap := ⟨_, rfl⟩
  obtain ⟨locs, hlo⟩ : ∃ q : List Loc, q = [] := ⟨_, rfl⟩
  have hS : va_S A s.heap H locs := by rw [hH, hlo]; exact hS
  rw [← hH] at hP
  suffices hgo : W p l e ({ frames := 0, cells := 0, slots := 0, locals := 0 } : Room) s m ([.ref a_this] : List Value).toArray below meth c H locs 0 0 (MQ below (rwQ D none [(a_this, .inr (6, [.ref a_letters, .ref a_draft, .int z_length, .int o_z_at, .int z_place, .int o_z_token, .int o_z_value])), (a_letters, .inl (cI, 120, .inl z_letters))] A) ([.ref a_this] : List Value).toArray s 0 0 A) (F0 m 0 ls []) by rw [hH, hlo] at hgo; exact hgo
  clear hH hlo
  refine lv_aload_n hx hb dX6_takeNumber_0 rfl (lv_at hl 0 rfl) ?_
  refine lv_iconst (v := 0) hx hb dX6_takeNumber_1 (by decide) ?_
  refine va_put (D := D) (ci := 6) (v := .int 0) (ty := .int) (C := RX6) (T := TX6) (N := 7) hx hb hts inTX6 tyX6 tyX6_ok nmX6 hown hK hP hD hS 0 rfl rfl 6 (by decide) (hts _ q133) (fun _ h9 => h9) rfl (by decide +kernel) rfl rfl (Nat.le_of_ble_eq_true rfl) dX6_takeNumber_2 (fun H locs hP hD hS => ?_)
  have hP : va_P D vwCl [(a_this, .inr (6, [.ref a_letters, .ref a_draft, .int z_length, .int z_at, .int z_place, .int z_token, .int 0])), (a_letters, .inl (cI, 120, .inl z_letters))] H := hP
  have hD : va_D A [(a_this, .inr (6, [.ref a_letters, .ref a_draft, .int z_length, .int z_at, .int z_place, .int z_token, .int 0])), (a_letters, .inl (cI, 120, .inl z_letters))] := hD
  exact hB5 fu z_at 0 z_token H locs ls hP hD hS (lv_sub hl [0] rfl) hf
theorem kX6_takeNumber {p : Program} {l : Launch} {e : Env} {R : Room} {s : State} {m : MethodId} {args : Array Value} {below : List Frame} {meth : Method} {c : Code} {H : Heap} {locs : List Loc} {cells slots : Nat} {Q : State → Prop} {cc : ByteArray} {nL pc index : Nat} {ls : Array Slot} {rest : List Value} {own : String} {D : va_G} {cI cZ cQ : ClassId} {a_this a_letters a_draft : Nat} {z_length z_at z_place z_token z_value : Int32} {z_letters : Nat → Int32} {fu : Nat} {o_z_at o_z_value o_z_token : Int32} (hx : p.tables.exec = Jvm.exec) (hb : c.code = cc) (hml : c.maxLocals = nL) (hown : s.vm.findClass own = some m.cls) (hts : ∀ w ∈ TB, w.before args s = true) (hKW : KW D (TY cI cZ cQ) s) (hlk : Cond.methodLink own index yX6_takeNumber ∈ TB) {ws : va_W} {A : Nat → Prop} {H0 : Heap} (hP : va_P D vwCl ws H) (hD : va_D A ws) (hS : va_S A H0 H locs) (is : List Nat) (hC : is.map (fun i => ws[i]?) = ([(a_this, .inr (6, [.ref a_letters, .ref a_draft, .int z_length, .int z_at, .int z_place, .int z_token, .int z_value])), (a_letters, .inl (cI, 120, .inl z_letters))] : va_W).map some) (hnd : va_nd is = true) (hf : fX6_takeNumber fu z_length z_letters z_place z_at z_value z_token = some (o_z_at, o_z_value, o_z_token)) (hn : ls.size = nL) (hW : (rest.map fun v => v.category).sum ≤ 8) (hR : 0 + 1 ≤ R.frames ∧ 8 + (2 + 11) + 0 ≤ R.locals) (hcs : cells ≤ R.cells ∧ slots ≤ R.slots) (hdg : decode cc pc = .ok (.invokevirtual index, 3)) (kk : ∀ (H1 : Heap) (locs1 : List Loc), va_P D vwCl (rpl ws is [(a_this, .inr (6, [.ref a_letters, .ref a_draft, .int z_length, .int o_z_at, .int z_place, .int o_z_token, .int o_z_value])), (a_letters, .inl (cI, 120, .inl z_letters))]) H1 → va_D A (rpl ws is [(a_this, .inr (6, [.ref a_letters, .ref a_draft, .int z_length, .int o_z_at, .int z_place, .int o_z_token, .int o_z_value])), (a_letters, .inl (cI, 120, .inl z_letters))]) → va_S A H0 H1 locs1 → W p l e R s m args below meth c H1 locs1 cells slots Q (F0 m (pc + 3) ls (rest))) : W p l e R s m args below meth c H locs cells slots Q (F0 m pc ls (.ref a_this :: rest)) :=
  x_rw (va_runV (As := []) (rest := rest) ⟨hx, hb, hml, hown, hts⟩ (tX6_takeNumber hf) (cwV 0 hts (tb_V hlk q361 q362 q41 q363) rfl rfl rfl (by decide +kernel) hR) ⟨rwB, va_recv hKW.1 (subP hP hC) (ci := 6) (q0 := 0) rfl rfl, fun U hU hW => ⟨rfl, by rw [hU]; exact subP hP hC, hKW.warm hW, subD hD hC hnd⟩⟩ rfl rfl hn rfl (lv_room hW) hdg hcs) hP hD hS is hC rfl kk
