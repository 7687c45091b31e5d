def rj (n : Nat) (i : Int32) (j : Nat) : Option Unit := if i < 0 ∨ n ≤ i.toNatClampNeg ∨ i.toNatClampNeg ≠ j then none else some ()
def ixL (f : Nat → Int32) (c : Int32) : Nat → Nat → Int32
  | 0, _ => -1
  | k + 1, j => if f j = c then nI j else ixL f c k (j + 1)
def ixS (n : Nat) (f : Nat → Int32) (ch : Int32) : Int32 := if ch < 0 then -1 else if 255 < ch then -1 else ixL f ch.toInt8.toInt32 n 0
def lenS : List Nat := [10, 5]
def bytS : List (List Int32) := [[110, 117, 118, 120, 112, 99, 115, 109, 108, 59], [112, 99, 115, 109, 108]]
def ixA (i : Nat) (ch : Int32) : Int32 := ixS (lenS.getD i 0) (fun j => (bytS.getD i []).getD j 0) ch
def fJ1_canEncode_9a6ad (fu : Nat) (p0 : Int32) : Option (Int32) :=
  (if p0 < 0 then
  some (0)
  else
  (if 255 < p0 then
  some (0)
  else
  some (1)))
-- HalfPlanks.within(III)Z
def fX8_within (fu : Nat) (p0 : Int32) (p1 : Int32) (p2 : Int32) : Option (Int32) :=
  (if p0 < p1 then
  some (0)
  else
  (if p2 < p0 then
  some (0)
  else
  some (1)))
-- HalfPlanks.type(I)I
def fX8_type (fu : Nat) (z_typed : Int32) (z_letters : Nat → Int32) (p1 : Int32) : Option (Int32 × Int32 × (Nat → Int32)) :=
  (fX8_within fu p1 0 255).bind fun v1 =>
  (if v1 = 0 then
  some ((-1), z_typed, z_letters)
  else
  (if z_typed < 120 then
  (wr 120 z_letters z_typed p1).bind fun g4 =>
  some ((z_typed + 1), (z_typed + 1), g4)
  else
  some ((-3), z_typed, z_letters)))
-- HalfPlanks.clear()I
def fX8_clear (fu : Nat) (z_typed : Int32) : Option (Int32 × Int32) :=
  some (z_typed, 0)
-- HalfPlanks$Folk.leave()V
def fX0_leave_b17_body (fu : Nat) (r17 : Int32 → (Nat → Int32) → Int32 → Int32 → Int32 → Option ((Nat → Int32) × Int32 × Int32 × Int32)) (l1 : Int32) (z_told : Nat → Int32) (z_planks : Int32) (z_size : Int32) (z_sworn : Int32) : Option ((Nat → Int32) × Int32 × Int32 × Int32) :=
  (if 8 ≤ l1 then
  some (z_told, z_planks, z_size, z_sworn)
  else
  (wr 8 z_told l1 0).bind fun g2 =>
  r17 (l1 + 1) g2 z_planks z_size z_sworn)
def fX0_leave_b17 (fu : Nat) : Nat → Int32 → (Nat → Int32) → Int32 → Int32 → Int32 → Option ((Nat → Int32) × Int32 × Int32 × Int32)
  | 0, _, _, _, _, _ => none
  | n + 1, l1, z_told, z_planks, z_size, z_sworn => fX0_leave_b17_body fu (fX0_leave_b17 fu n) l1 z_told z_planks z_size z_sworn
def fX0_leave (fu : Nat) (z_told : Nat → Int32) (z_planks : Int32) (z_size : Int32) (z_sworn : Int32) : Option ((Nat → Int32) × Int32 × Int32 × Int32) :=
  fX0_leave_b17 fu fu 0 z_told 3 0 0
-- HalfPlanks$Reader.takeNumber()V
def fX6_takeNumber_b149 (fu : Nat) (z_length : Int32) (z_letters : Nat → Int32) (z_place : Int32) (s0 : Int32) (z_at : Int32) (z_value : Int32) (z_token : Int32) : Option (Int32 × Int32 × Int32) :=
  some (z_at, z_value, s0)
def fX6_takeNumber_b127 (fu : Nat) (z_length : Int32) (z_letters : Nat → Int32) (z_place : Int32) (s0 : Int32) (z_at : Int32) (z_value : Int32) (z_token : Int32) : Option (Int32 × Int32 × Int32) :=
  (if 99 < z_value then
  fX6_takeNumber_b149 fu z_length z_letters z_place (-3) z_at z_value z_token
  else
  (if s0 = 0 then
  fX6_takeNumber_b149 fu z_length z_letters z_place (-2) z_at z_value z_token
  else
  fX6_takeNumber_b149 fu z_length z_letters z_place (-3) z_at z_value z_token))
def fX6_takeNumber_b95 (fu : Nat) (z_length : Int32) (z_letters : Nat → Int32) (z_place : Int32) (z_at : Int32) (z_value : Int32) (z_token : Int32) : Option (Int32 × Int32 × Int32) :=
  (if (z_at - z_place) ≤ 1 then
  fX6_takeNumber_b127 fu z_length z_letters z_place 0 z_at z_value z_token
  else
  (rd 120 z_letters z_place).bind fun v5 =>
  (if v5 = 48 then
  fX6_takeNumber_b127 fu z_length z_letters z_place 1 z_at z_value z_token
  else
  fX6_takeNumber_b127 fu z_length z_letters z_place 0 z_at z_value z_token))
def fX6_takeNumber_b79 (fu : Nat) (z_length : Int32) (z_letters : Nat → Int32) (z_place : Int32) (r5 : Int32 → Int32 → Int32 → Option (Int32 × Int32 × Int32)) (s0 : Int32) (z_at : Int32) (z_value : Int32) (z_token : Int32) : Option (Int32 × Int32 × Int32) :=
  r5 (z_at + 1) s0 z_token
def fX6_takeNumber_b5_body (fu : Nat) (z_length : Int32) (z_letters : Nat → Int32) (z_place : Int32) (r5 : Int32 → Int32 → Int32 → Option (Int32 × Int32 × Int32)) (z_at : Int32) (z_value : Int32) (z_token : Int32) : Option (Int32 × Int32 × Int32) :=
  (if z_length ≤ z_at then
  fX6_takeNumber_b95 fu z_length z_letters z_place z_at z_value z_token
  else
  (rd 120 z_letters z_at).bind fun v7 =>
  (if v7 < 48 then
  fX6_takeNumber_b95 fu z_length z_letters z_place z_at z_value z_token
  else
  (rd 120 z_letters z_at).bind fun v9 =>
  (if 57 < v9 then
  fX6_takeNumber_b95 fu z_length z_letters z_place z_at z_value z_token
  else
  (if 10 ≤ z_value then
  fX6_takeNumber_b79 fu z_length z_letters z_place r5 100 z_at z_value z_token
  else
  (rd 120 z_letters z_at).bind fun v12 =>
  fX6_takeNumber_b79 fu z_length z_letters z_place r5 (((z_value * 10) + v12) - 48) z_at z_value z_token))))
def fX6_takeNumber_b5 (fu : Nat) (z_length : Int32) (z_letters : Nat → Int32) (z_place : Int32) : Nat → Int32 → Int32 → Int32 → Option (Int32 × Int32 × Int32)
  | 0, _, _, _ => none
  | n + 1, z_at, z_value, z_token => fX6_takeNumber_b5_body fu z_length z_letters z_place (fX6_takeNumber_b5 fu z_length z_letters z_place n) z_at z_value z_token
def fX6_takeNumber (fu : Nat) (z_length : Int32) (z_letters : Nat → Int32) (z_place : Int32) (z_at : Int32) (z_value : Int32) (z_token : Int32) : Option (Int32 × Int32 × Int32) :=
  fX6_takeNumber_b5 fu z_length z_letters z_place fu z_at 0 z_token
-- HalfPlanks$Reader.advance()V
def fX6_advance_b117 (fu : Nat) (z_length : Int32) (z_letters : Nat → Int32) (s0 : Int32) (z_at : Int32) (z_value : Int32) (z_place : Int32) (z_token : Int32) : Option (Int32 × Int32 × Int32 × Int32) :=
  some (z_at, z_value, z_place, s0)
def fX6_advance_b90 (fu : Nat) (z_length : Int32) (z_letters : Nat → Int32) (l1 : Int32) (z_at : Int32) (z_value : Int32) (z_place : Int32) (z_token : Int32) : Option (Int32 × Int32 × Int32 × Int32) :=
  (if (ixA 0 ((l1.toUInt32 % 65536).toInt32)) < 0 then
  fX6_advance_b117 fu z_length z_letters (-3) (z_at + 1) z_value z_place z_token
  else
  fX6_advance_b117 fu z_length z_letters l1 (z_at + 1) z_value z_place z_token)
def fX6_advance_b38 (fu : Nat) (z_length : Int32) (z_letters : Nat → Int32) (z_at : Int32) (z_value : Int32) (z_place : Int32) (z_token : Int32) : Option (Int32 × Int32 × Int32 × Int32) :=
  (if z_at < z_length then
  (rd 120 z_letters z_at).bind fun v3 =>
  (if v3 < 48 then
  fX6_advance_b90 fu z_length z_letters v3 z_at z_value z_at z_token
  else
  (if 57 < v3 then
  fX6_advance_b90 fu z_length z_letters v3 z_at z_value z_at z_token
  else
  (fX6_takeNumber fu z_length z_letters z_at z_at z_value z_token).bind fun (g8, g9, g10) =>
  some (g8, g9, z_at, g10)))
  else
  some (z_at, z_value, z_at, (-1)))
def fX6_advance_b0_body (fu : Nat) (z_length : Int32) (z_letters : Nat → Int32) (r0 : Int32 → Int32 → Int32 → Int32 → Option (Int32 × Int32 × Int32 × Int32)) (z_at : Int32) (z_value : Int32) (z_place : Int32) (z_token : Int32) : Option (Int32 × Int32 × Int32 × Int32) :=
  (if z_length ≤ z_at then
  fX6_advance_b38 fu z_length z_letters z_at z_value z_place z_token
  else
  (rd 120 z_letters z_at).bind fun v11 =>
  (if v11 = 32 then
  r0 (z_at + 1) z_value z_place z_token
  else
  fX6_advance_b38 fu z_length z_letters z_at z_value z_place z_token))
def fX6_advance_b0 (fu : Nat) (z_length : Int32) (z_letters : Nat → Int32) : Nat → Int32 → Int32 → Int32 → Int32 → Option (Int32 × Int32 × Int32 × Int32)
  | 0, _, _, _, _ => none
  | n + 1, z_at, z_value, z_place, z_token => fX6_advance_b0_body fu z_length z_letters (fX6_advance_b0 fu z_length z_letters n) z_at z_value z_place z_token
def fX6_advance (fu : Nat) (z_length : Int32) (z_letters : Nat → Int32) (z_at : Int32) (z_value : Int32) (z_place : Int32) (z_token : Int32) : Option (Int32 × Int32 × Int32 × Int32) :=
  fX6_advance_b0 fu z_length z_letters fu z_at z_value z_place z_token
-- HalfPlanks$Reader.readNumber(II)Z
def fX6_readNumber (fu : Nat) (z_length : Int32) (z_letters : Nat → Int32) (z_at : Int32) (z_value : Int32) (z_place : Int32) (z_token : Int32) (p1 : Int32) (p2 : Int32) : Option (Int32 × Int32 × Int32 × Int32 × Int32) :=
  (fX6_advance fu z_length z_letters z_at z_value z_place z_token).bind fun (g2, g3, g4, g5) =>
  (if g5 = (-2) then
  (fX8_within fu g3 p1 p2).bind fun v7 =>
  (if v7 = 0 then
  some (0, g2, g3, g4, g5)
  else
  some (1, g2, g3, g4, g5))
  else
  some (0, g2, g3, g4, g5))
-- HalfPlanks$Reader.readPlanks()Z
def fX6_readPlanks (fu : Nat) (z_length : Int32) (z_letters : Nat → Int32) (z_at : Int32) (z_value : Int32) (z_place : Int32) (z_token : Int32) (z_draft_planks : Int32) : Option (Int32 × Int32 × Int32 × Int32 × Int32 × Int32) :=
  (fX6_readNumber fu z_length z_letters z_at z_value z_place z_token 1 8).bind fun (v1, g2, g3, g4, g5) =>
  (if v1 = 0 then
  some (0, g2, g3, g4, g5, z_draft_planks)
  else
  some (1, g2, g3, g4, g5, g3))
-- HalfPlanks$Reader.readEnd()Z
def fX6_readEnd (fu : Nat) (z_length : Int32) (z_letters : Nat → Int32) (z_at : Int32) (z_value : Int32) (z_place : Int32) (z_token : Int32) : Option (Int32 × Int32 × Int32 × Int32 × Int32) :=
  (fX6_advance fu z_length z_letters z_at z_value z_place z_token).bind fun (g2, g3, g4, g5) =>
  (if g5 = 59 then
  some (1, g2, g3, g4, g5)
  else
  some (0, g2, g3, g4, g5))
-- HalfPlanks$Folk.join(IIII)V
def fX0_join_b71 (fu : Nat) (z_size : Int32) (z_bank : Nat → Int32) (z_kind : Nat → Int32) (z_word : Nat → Int32) (z_slow : Nat → Int32) (z_sworn : Int32) : Option (Int32 × (Nat → Int32) × (Nat → Int32) × (Nat → Int32) × (Nat → Int32) × Int32) :=
  some ((z_size + 1), z_bank, z_kind, z_word, z_slow, z_sworn)
def fX0_join (fu : Nat) (z_size : Int32) (z_bank : Nat → Int32) (z_kind : Nat → Int32) (z_word : Nat → Int32) (z_slow : Nat → Int32) (z_sworn : Int32) (p1 : Int32) (p2 : Int32) (p3 : Int32) (p4 : Int32) : Option (Int32 × (Nat → Int32) × (Nat → Int32) × (Nat → Int32) × (Nat → Int32) × Int32) :=
  (if z_size < 8 then
  (wr 8 z_bank z_size p1).bind fun g2 =>
  (wr 8 z_kind z_size p2).bind fun g3 =>
  (wr 8 z_word z_size p3).bind fun g4 =>
  (wr 8 z_slow z_size p4).bind fun g5 =>
  (if p2 = 3 then
  fX0_join_b71 fu z_size g2 g3 g4 g5 (z_sworn ||| ((1 : Int32) <<< (z_size &&& 31)))
  else
  fX0_join_b71 fu z_size g2 g3 g4 g5 z_sworn)
  else
  some (z_size, z_bank, z_kind, z_word, z_slow, z_sworn))
-- HalfPlanks$Reader.readPerson(I)Z
def fX6_readPerson_b41 (fu : Nat) (z_length : Int32) (z_letters : Nat → Int32) (l1 : Int32) (s0 : Int32) (z_draft_size : Int32) (z_at : Int32) (z_value : Int32) (z_place : Int32) (z_token : Int32) (z_draft_bank : Nat → Int32) (z_draft_kind : Nat → Int32) (z_draft_word : Nat → Int32) (z_draft_slow : Nat → Int32) (z_draft_sworn : Int32) : Option (Int32 × Int32 × Int32 × Int32 × Int32 × Int32 × (Nat → Int32) × (Nat → Int32) × (Nat → Int32) × (Nat → Int32) × Int32) :=
  (if s0 = 0 then
  some (0, z_draft_size, z_at, z_value, z_place, z_token, z_draft_bank, z_draft_kind, z_draft_word, z_draft_slow, z_draft_sworn)
  else
  (fX6_readNumber fu z_length z_letters z_at z_value z_place z_token 1 9).bind fun (v9, g10, g11, g12, g13) =>
  (if v9 = 0 then
  some (0, z_draft_size, g10, g11, g12, g13, z_draft_bank, z_draft_kind, z_draft_word, z_draft_slow, z_draft_sworn)
  else
  (fX6_readNumber fu z_length z_letters g10 g11 g12 g13 1 5).bind fun (v15, g16, g17, g18, g19) =>
  (if v15 = 0 then
  some (0, z_draft_size, g16, g17, g18, g19, z_draft_bank, z_draft_kind, z_draft_word, z_draft_slow, z_draft_sworn)
  else
  (fX0_join fu z_draft_size z_draft_bank z_draft_kind z_draft_word z_draft_slow z_draft_sworn l1 s0 g11 g17).bind fun (g22, g23, g24, g25, g26, g27) =>
  some (1, g22, g16, g17, g18, g19, g23, g24, g25, g26, g27))))
def fX6_readPerson (fu : Nat) (z_length : Int32) (z_letters : Nat → Int32) (z_draft_size : Int32) (z_at : Int32) (z_value : Int32) (z_place : Int32) (z_token : Int32) (z_draft_bank : Nat → Int32) (z_draft_kind : Nat → Int32) (z_draft_word : Nat → Int32) (z_draft_slow : Nat → Int32) (z_draft_sworn : Int32) (p1 : Int32) : Option (Int32 × Int32 × Int32 × Int32 × Int32 × Int32 × (Nat → Int32) × (Nat → Int32) × (Nat → Int32) × (Nat → Int32) × Int32) :=
  (if z_draft_size < 8 then
  (fX6_advance fu z_length z_letters z_at z_value z_place z_token).bind fun (g3, g4, g5, g6) =>
  (if 0 ≤ g6 then
  fX6_readPerson_b41 fu z_length z_letters p1 ((ixA 1 ((g6.toUInt32 % 65536).toInt32)) + 1) z_draft_size g3 g4 g5 g6 z_draft_bank z_draft_kind z_draft_word z_draft_slow z_draft_sworn
  else
  fX6_readPerson_b41 fu z_length z_letters p1 0 z_draft_size g3 g4 g5 g6 z_draft_bank z_draft_kind z_draft_word z_draft_slow z_draft_sworn)
  else
  some (0, z_draft_size, z_at, z_value, z_place, z_token, z_draft_bank, z_draft_kind, z_draft_word, z_draft_slow, z_draft_sworn))
-- HalfPlanks.has(II)Z
def fX8_has (fu : Nat) (p0 : Int32) (p1 : Int32) : Option (Int32) :=
  (if ((p0 >>> (p1 &&& 31)) &&& 1) = 0 then
  some (0)
  else
  some (1))
-- HalfPlanks$Reader.readPromise()Z
def fX6_readPromise (fu : Nat) (z_draft_size : Int32) (z_length : Int32) (z_letters : Nat → Int32) (z_draft_planks : Int32) (z_at : Int32) (z_value : Int32) (z_place : Int32) (z_token : Int32) (z_draft_told : Nat → Int32) : Option (Int32 × Int32 × Int32 × Int32 × Int32 × (Nat → Int32)) :=
  (fX6_readNumber fu z_length z_letters z_at z_value z_place z_token 0 (z_draft_size - 1)).bind fun (v1, g2, g3, g4, g5) =>
  (if v1 = 0 then
  some (0, g2, g3, g4, g5, z_draft_told)
  else
  (fX6_readNumber fu z_length z_letters g2 g3 g4 g5 0 (z_draft_planks - 1)).bind fun (v7, g8, g9, g10, g11) =>
  (if v7 = 0 then
  some (0, g8, g9, g10, g11, z_draft_told)
  else
  (rd 8 z_draft_told g9).bind fun v13 =>
  (fX8_has fu v13 g3).bind fun v14 =>
  (if v14 = 0 then
  (rd 8 z_draft_told g9).bind fun v16 =>
  (wr 8 z_draft_told g9 (v16 ||| ((1 : Int32) <<< (g3 &&& 31)))).bind fun g17 =>
  some (1, g8, g9, g10, g11, g17)
  else
  some (0, g8, g9, g10, g11, z_draft_told))))
-- HalfPlanks$Reader.readItem(I)Z
def fX6_readItem (fu : Nat) (z_length : Int32) (z_letters : Nat → Int32) (z_token : Int32) (z_draft_size : Int32) (z_at : Int32) (z_value : Int32) (z_place : Int32) (z_draft_planks : Int32) (z_draft_told : Nat → Int32) (z_draft_bank : Nat → Int32) (z_draft_kind : Nat → Int32) (z_draft_word : Nat → Int32) (z_draft_slow : Nat → Int32) (z_draft_sworn : Int32) (p1 : Int32) : Option (Int32 × Int32 × Int32 × Int32 × Int32 × Int32 × Int32 × (Nat → Int32) × (Nat → Int32) × (Nat → Int32) × (Nat → Int32) × (Nat → Int32) × Int32) :=
  (if z_token = 110 then
  (if p1 = 0 then
  (fX6_readPlanks fu z_length z_letters z_at z_value z_place z_token z_draft_planks).bind fun (v2, g3, g4, g5, g6, g7) =>
  (if v2 = 0 then
  some (0, g6, z_draft_size, g3, g4, g5, g7, z_draft_told, z_draft_bank, z_draft_kind, z_draft_word, z_draft_slow, z_draft_sworn)
  else
  (fX6_readEnd fu z_length z_letters g3 g4 g5 g6).bind fun (v9, g10, g11, g12, g13) =>
  (if v9 = 0 then
  some (0, g13, z_draft_size, g10, g11, g12, g7, z_draft_told, z_draft_bank, z_draft_kind, z_draft_word, z_draft_slow, z_draft_sworn)
  else
  some (1, g13, z_draft_size, g10, g11, g12, g7, z_draft_told, z_draft_bank, z_draft_kind, z_draft_word, z_draft_slow, z_draft_sworn)))
  else
  some (0, z_token, z_draft_size, z_at, z_value, z_place, z_draft_planks, z_draft_told, z_draft_bank, z_draft_kind, z_draft_word, z_draft_slow, z_draft_sworn))
  else if z_token = 117 then
  (fX6_readPerson fu z_length z_letters z_draft_size z_at z_value z_place z_token z_draft_bank z_draft_kind z_draft_word z_draft_slow z_draft_sworn 0).bind fun (v16, g17, g18, g19, g20, g21, g22, g23, g24, g25, g26) =>
  (if v16 = 0 then
  some (0, g21, g17, g18, g19, g20, z_draft_planks, z_draft_told, g22, g23, g24, g25, g26)
  else
  (fX6_readEnd fu z_length z_letters g18 g19 g20 g21).bind fun (v28, g29, g30, g31, g32) =>
  (if v28 = 0 then
  some (0, g32, g17, g29, g30, g31, z_draft_planks, z_draft_told, g22, g23, g24, g25, g26)
  else
  some (1, g32, g17, g29, g30, g31, z_draft_planks, z_draft_told, g22, g23, g24, g25, g26)))
  else if z_token = 118 then
  (fX6_readPerson fu z_length z_letters z_draft_size z_at z_value z_place z_token z_draft_bank z_draft_kind z_draft_word z_draft_slow z_draft_sworn 1).bind fun (v35, g36, g37, g38, g39, g40, g41, g42, g43, g44, g45) =>
  (if v35 = 0 then
  some (0, g40, g36, g37, g38, g39, z_draft_planks, z_draft_told, g41, g42, g43, g44, g45)
  else
  (fX6_readEnd fu z_length z_letters g37 g38 g39 g40).bind fun (v47, g48, g49, g50, g51) =>
  (if v47 = 0 then
  some (0, g51, g36, g48, g49, g50, z_draft_planks, z_draft_told, g41, g42, g43, g44, g45)
  else
  some (1, g51, g36, g48, g49, g50, z_draft_planks, z_draft_told, g41, g42, g43, g44, g45)))
  else if z_token = 120 then
  (fX6_readPromise fu z_draft_size z_length z_letters z_draft_planks z_at z_value z_place z_token z_draft_told).bind fun (v54, g55, g56, g57, g58, g59) =>
  (if v54 = 0 then
  some (0, g58, z_draft_size, g55, g56, g57, z_draft_planks, g59, z_draft_bank, z_draft_kind, z_draft_word, z_draft_slow, z_draft_sworn)
  else
  (fX6_readEnd fu z_length z_letters g55 g56 g57 g58).bind fun (v61, g62, g63, g64, g65) =>
  (if v61 = 0 then
  some (0, g65, z_draft_size, g62, g63, g64, z_draft_planks, g59, z_draft_bank, z_draft_kind, z_draft_word, z_draft_slow, z_draft_sworn)
  else
  some (1, g65, z_draft_size, g62, g63, g64, z_draft_planks, g59, z_draft_bank, z_draft_kind, z_draft_word, z_draft_slow, z_draft_sworn)))
  else some (0, z_token, z_draft_size, z_at, z_value, z_place, z_draft_planks, z_draft_told, z_draft_bank, z_draft_kind, z_draft_word, z_draft_slow, z_draft_sworn))
-- HalfPlanks$Reader.readAll(I)I
def fX6_readAll_b27_body (fu : Nat) (z_letters : Nat → Int32) (r27 : Int32 → (Nat → Int32) → Int32 → Int32 → Int32 → Int32 → Int32 → Int32 → Int32 → (Nat → Int32) → (Nat → Int32) → (Nat → Int32) → (Nat → Int32) → Int32 → Option (Int32 × (Nat → Int32) × Int32 × Int32 × Int32 × Int32 × Int32 × Int32 × Int32 × (Nat → Int32) × (Nat → Int32) × (Nat → Int32) × (Nat → Int32) × Int32)) (l2 : Int32) (z_draft_told : Nat → Int32) (z_length : Int32) (z_at : Int32) (z_value : Int32) (z_place : Int32) (z_token : Int32) (z_draft_size : Int32) (z_draft_planks : Int32) (z_draft_bank : Nat → Int32) (z_draft_kind : Nat → Int32) (z_draft_word : Nat → Int32) (z_draft_slow : Nat → Int32) (z_draft_sworn : Int32) : Option (Int32 × (Nat → Int32) × Int32 × Int32 × Int32 × Int32 × Int32 × Int32 × Int32 × (Nat → Int32) × (Nat → Int32) × (Nat → Int32) × (Nat → Int32) × Int32) :=
  (if z_length < l2 then
  some (((-10) - z_length), z_draft_told, z_length, z_at, z_value, z_place, z_token, z_draft_size, z_draft_planks, z_draft_bank, z_draft_kind, z_draft_word, z_draft_slow, z_draft_sworn)
  else
  (fX6_advance fu z_length z_letters z_at z_value z_place z_token).bind fun (g8, g9, g10, g11) =>
  (if g11 = (-1) then
  some (l2, z_draft_told, z_length, g8, g9, g10, g11, z_draft_size, z_draft_planks, z_draft_bank, z_draft_kind, z_draft_word, z_draft_slow, z_draft_sworn)
  else
  (fX6_readItem fu z_length z_letters g11 z_draft_size g8 g9 g10 z_draft_planks z_draft_told z_draft_bank z_draft_kind z_draft_word z_draft_slow z_draft_sworn l2).bind fun (v13, g14, g15, g16, g17, g18, g19, g20, g21, g22, g23, g24, g25) =>
  (if v13 = 0 then
  some (((-10) - g18), g20, z_length, g16, g17, g18, g14, g15, g19, g21, g22, g23, g24, g25)
  else
  r27 (l2 + 1) g20 z_length g16 g17 g18 g14 g15 g19 g21 g22 g23 g24 g25)))
def fX6_readAll_b27 (fu : Nat) (z_letters : Nat → Int32) : Nat → Int32 → (Nat → Int32) → Int32 → Int32 → Int32 → Int32 → Int32 → Int32 → Int32 → (Nat → Int32) → (Nat → Int32) → (Nat → Int32) → (Nat → Int32) → Int32 → Option (Int32 × (Nat → Int32) × Int32 × Int32 × Int32 × Int32 × Int32 × Int32 × Int32 × (Nat → Int32) × (Nat → Int32) × (Nat → Int32) × (Nat → Int32) × Int32)
  | 0, _, _, _, _, _, _, _, _, _, _, _, _, _, _ => none
  | n + 1, l2, z_draft_told, z_length, z_at, z_value, z_place, z_token, z_draft_size, z_draft_planks, z_draft_bank, z_draft_kind, z_draft_word, z_draft_slow, z_draft_sworn => fX6_readAll_b27_body fu z_letters (fX6_readAll_b27 fu z_letters n) l2 z_draft_told z_length z_at z_value z_place z_token z_draft_size z_draft_planks z_draft_bank z_draft_kind z_draft_word z_draft_slow z_draft_sworn
def fX6_readAll (fu : Nat) (z_letters : Nat → Int32) (z_draft_told : Nat → Int32) (z_length : Int32) (z_at : Int32) (z_value : Int32) (z_place : Int32) (z_token : Int32) (z_draft_size : Int32) (z_draft_planks : Int32) (z_draft_bank : Nat → Int32) (z_draft_kind : Nat → Int32) (z_draft_word : Nat → Int32) (z_draft_slow : Nat → Int32) (z_draft_sworn : Int32) (p1 : Int32) : Option (Int32 × (Nat → Int32) × Int32 × Int32 × Int32 × Int32 × Int32 × Int32 × Int32 × (Nat → Int32) × (Nat → Int32) × (Nat → Int32) × (Nat → Int32) × Int32) :=
  (fX0_leave fu z_draft_told z_draft_planks z_draft_size z_draft_sworn).bind fun (g2, g3, g4, g5) =>
  fX6_readAll_b27 fu z_letters fu 0 g2 (mn p1 120) 0 z_value z_place z_token g4 g3 z_draft_bank z_draft_kind z_draft_word z_draft_slow g5
-- HalfPlanks$Folk.become(LHalfPlanks$Folk;)V
def fX0_become (fu : Nat) (z_p1_planks : Int32) (z_p1_size : Int32) (z_p1_sworn : Int32) (z_p1_bank : Nat → Int32) (z_p1_kind : Nat → Int32) (z_p1_word : Nat → Int32) (z_p1_slow : Nat → Int32) (z_p1_told : Nat → Int32) (z_bank : Nat → Int32) (z_kind : Nat → Int32) (z_word : Nat → Int32) (z_slow : Nat → Int32) (z_told : Nat → Int32) (z_planks : Int32) (z_size : Int32) (z_sworn : Int32) : Option ((Nat → Int32) × (Nat → Int32) × (Nat → Int32) × (Nat → Int32) × (Nat → Int32) × Int32 × Int32 × Int32) :=
  some ((va_cpy z_p1_bank z_bank 0 0 8), (va_cpy z_p1_kind z_kind 0 0 8), (va_cpy z_p1_word z_word 0 0 8), (va_cpy z_p1_slow z_slow 0 0 8), (va_cpy z_p1_told z_told 0 0 8), z_p1_planks, z_p1_size, z_p1_sworn)
-- HalfPlanks$Folk.everyone()I
def fX0_everyone (fu : Nat) (z_size : Int32) : Option (Int32) :=
  some ((((1 : Int32) <<< (z_size &&& 31)) - 1))
-- HalfPlanks$Folk.holdBy(IIII)I
def fX0_holdBy (fu : Nat) (z_kind : Nat → Int32) (z_sworn : Int32) (p1 : Int32) (p2 : Int32) (p3 : Int32) (p4 : Int32) : Option (Int32) :=
  (rd 8 z_kind p1).bind fun v1 =>
  (if v1 = 2 then
  some ((mn p2 3))
  else if v1 = 3 then
  some (p2)
  else if v1 = 4 then
  (if (p3 &&& 1) = 1 then
  some ((2 * p2))
  else
  some (p2))
  else if v1 = 5 then
  (if (p4 &&& z_sworn) = 0 then
  some ((2 * p2))
  else
  some (0))
  else some (p2))
-- HalfPlanks$Strength.together(II)I
def fX7_together (fu : Nat) (p0 : Int32) (p1 : Int32) : Option (Int32) :=
  (if p0 ≤ 0 then
  some (0)
  else
  (if p1 ≤ 0 then
  some (0)
  else
  some ((p0 + p1))))
-- HalfPlanks$Strength.bestOfTwo(IIII)I
def fX7_bestOfTwo_b66 (fu : Nat) (z_folk_size : Int32) (z_folk_kind : Nat → Int32) (z_folk_sworn : Int32) (z_folk_bank : Nat → Int32) (z_folk_word : Nat → Int32) (r15 : Int32 → Int32 → Int32 → Int32 → Int32 → Int32 → Int32 → Int32 → Int32 → Option (Int32)) (l1 : Int32) (l2 : Int32) (l3 : Int32) (l4 : Int32) (l5 : Int32) (l6 : Int32) (l7 : Int32) (l8 : Int32) (l9 : Int32) (s0 : Int32) (s1 : Int32) : Option (Int32) :=
  (fX0_holdBy fu z_folk_kind z_folk_sworn s1 s0 l1 l2).bind fun v9 =>
  (rd 8 z_folk_kind l9).bind fun v10 =>
  (if v10 = 3 then
  r15 l1 l2 l3 l4 l5 l6 (mx l7 v9) (mx l8 (mn l7 v9)) (l9 + 1)
  else
  (rd 8 z_folk_bank l9).bind fun v12 =>
  (if v12 = 0 then
  r15 l1 l2 l3 l4 (mx l5 v9) l6 l7 l8 (l9 + 1)
  else
  r15 l1 l2 l3 l4 l5 (mx l6 v9) l7 l8 (l9 + 1)))
def fX7_bestOfTwo_b15_body (fu : Nat) (z_folk_size : Int32) (z_folk_kind : Nat → Int32) (z_folk_sworn : Int32) (z_folk_bank : Nat → Int32) (z_folk_word : Nat → Int32) (r15 : Int32 → Int32 → Int32 → Int32 → Int32 → Int32 → Int32 → Int32 → Int32 → Option (Int32)) (l1 : Int32) (l2 : Int32) (l3 : Int32) (l4 : Int32) (l5 : Int32) (l6 : Int32) (l7 : Int32) (l8 : Int32) (l9 : Int32) : Option (Int32) :=
  (if z_folk_size ≤ l9 then
  (fX7_together fu l5 l6).bind fun v2 =>
  (fX7_together fu l7 l8).bind fun v3 =>
  (fX7_together fu l7 (mx l5 l6)).bind fun v4 =>
  some ((mx (mx v2 v3) v4))
  else
  (fX8_has fu l2 l9).bind fun v5 =>
  (if v5 = 0 then
  r15 l1 l2 l3 l4 l5 l6 l7 l8 (l9 + 1)
  else
  (if l9 = l3 then
  fX7_bestOfTwo_b66 fu z_folk_size z_folk_kind z_folk_sworn z_folk_bank z_folk_word r15 l1 l2 l3 l4 l5 l6 l7 l8 l9 l4 l9
  else
  (rd 8 z_folk_word l9).bind fun v8 =>
  fX7_bestOfTwo_b66 fu z_folk_size z_folk_kind z_folk_sworn z_folk_bank z_folk_word r15 l1 l2 l3 l4 l5 l6 l7 l8 l9 v8 l9)))
def fX7_bestOfTwo_b15 (fu : Nat) (z_folk_size : Int32) (z_folk_kind : Nat → Int32) (z_folk_sworn : Int32) (z_folk_bank : Nat → Int32) (z_folk_word : Nat → Int32) : Nat → Int32 → Int32 → Int32 → Int32 → Int32 → Int32 → Int32 → Int32 → Int32 → Option (Int32)
  | 0, _, _, _, _, _, _, _, _, _ => none
  | n + 1, l1, l2, l3, l4, l5, l6, l7, l8, l9 => fX7_bestOfTwo_b15_body fu z_folk_size z_folk_kind z_folk_sworn z_folk_bank z_folk_word (fX7_bestOfTwo_b15 fu z_folk_size z_folk_kind z_folk_sworn z_folk_bank z_folk_word n) l1 l2 l3 l4 l5 l6 l7 l8 l9
def fX7_bestOfTwo (fu : Nat) (z_folk_size : Int32) (z_folk_kind : Nat → Int32) (z_folk_sworn : Int32) (z_folk_bank : Nat → Int32) (z_folk_word : Nat → Int32) (p1 : Int32) (p2 : Int32) (p3 : Int32) (p4 : Int32) : Option (Int32) :=
  fX7_bestOfTwo_b15 fu z_folk_size z_folk_kind z_folk_sworn z_folk_bank z_folk_word fu p1 p2 p3 p4 0 0 0 0 0
-- HalfPlanks$Strength.reckonAll()V
def fX7_reckonAll_b2_body (fu : Nat) (z_folk_size : Int32) (z_folk_kind : Nat → Int32) (z_folk_sworn : Int32) (z_folk_bank : Nat → Int32) (z_folk_word : Nat → Int32) (r2 : Int32 → (Nat → Int32) → Option ((Nat → Int32))) (l1 : Int32) (z_borne : Nat → Int32) : Option ((Nat → Int32)) :=
  (fX0_everyone fu z_folk_size).bind fun v1 =>
  (if v1 < l1 then
  some (z_borne)
  else
  (fX7_bestOfTwo fu z_folk_size z_folk_kind z_folk_sworn z_folk_bank z_folk_word 0 l1 (-1) 0).bind fun v3 =>
  (wr 512 z_borne l1 v3).bind fun g4 =>
  (fX7_bestOfTwo fu z_folk_size z_folk_kind z_folk_sworn z_folk_bank z_folk_word 1 l1 (-1) 0).bind fun v5 =>
  (wr 512 g4 (256 + l1) v5).bind fun g6 =>
  r2 (l1 + 1) g6)
def fX7_reckonAll_b2 (fu : Nat) (z_folk_size : Int32) (z_folk_kind : Nat → Int32) (z_folk_sworn : Int32) (z_folk_bank : Nat → Int32) (z_folk_word : Nat → Int32) : Nat → Int32 → (Nat → Int32) → Option ((Nat → Int32))
  | 0, _, _ => none
  | n + 1, l1, z_borne => fX7_reckonAll_b2_body fu z_folk_size z_folk_kind z_folk_sworn z_folk_bank z_folk_word (fX7_reckonAll_b2 fu z_folk_size z_folk_kind z_folk_sworn z_folk_bank z_folk_word n) l1 z_borne
def fX7_reckonAll (fu : Nat) (z_folk_size : Int32) (z_folk_kind : Nat → Int32) (z_folk_sworn : Int32) (z_folk_bank : Nat → Int32) (z_folk_word : Nat → Int32) (z_borne : Nat → Int32) : Option ((Nat → Int32)) :=
  fX7_reckonAll_b2 fu z_folk_size z_folk_kind z_folk_sworn z_folk_bank z_folk_word fu 0 z_borne
-- HalfPlanks$Promises.begin(LHalfPlanks$Folk;)V
def fX5_begin_b12_body (fu : Nat) (z_p1_told : Nat → Int32) (r12 : Int32 → (Nat → Int32) → (Nat → Int32) → Int32 → Int32 → Option ((Nat → Int32) × (Nat → Int32) × Int32 × Int32)) (l2 : Int32) (z_came : Nat → Int32) (z_under : Nat → Int32) (z_day : Int32) (z_crossed : Int32) : Option ((Nat → Int32) × (Nat → Int32) × Int32 × Int32) :=
  (if 8 ≤ l2 then
  some (z_came, z_under, z_day, z_crossed)
  else
  (rd 8 z_p1_told l2).bind fun v2 =>
  (wr 8 z_came l2 v2).bind fun g3 =>
  (wr 8 z_under l2 0).bind fun g4 =>
  r12 (l2 + 1) g3 g4 z_day z_crossed)
def fX5_begin_b12 (fu : Nat) (z_p1_told : Nat → Int32) : Nat → Int32 → (Nat → Int32) → (Nat → Int32) → Int32 → Int32 → Option ((Nat → Int32) × (Nat → Int32) × Int32 × Int32)
  | 0, _, _, _, _, _ => none
  | n + 1, l2, z_came, z_under, z_day, z_crossed => fX5_begin_b12_body fu z_p1_told (fX5_begin_b12 fu z_p1_told n) l2 z_came z_under z_day z_crossed
def fX5_begin (fu : Nat) (z_p1_told : Nat → Int32) (z_came : Nat → Int32) (z_under : Nat → Int32) (z_day : Int32) (z_crossed : Int32) : Option ((Nat → Int32) × (Nat → Int32) × Int32 × Int32) :=
  fX5_begin_b12 fu z_p1_told fu 0 z_came z_under 0 0
-- HalfPlanks$History.lose()V
def fX3_lose (fu : Nat) (z_known : Int32) : Option (Int32) :=
  some (0)
-- HalfPlanks.gorge()I
def fX8_gorge_b69_body (fu : Nat) (z_letters : Nat → Int32) (r69 : Int32 → Int32 → Int32 → (Nat → Int32) → Int32 → Int32 → Int32 → Int32 → Int32 → Int32 → Int32 → (Nat → Int32) → (Nat → Int32) → (Nat → Int32) → (Nat → Int32) → Int32 → (Nat → Int32) → (Nat → Int32) → (Nat → Int32) → (Nat → Int32) → (Nat → Int32) → Int32 → Int32 → (Nat → Int32) → (Nat → Int32) → (Nat → Int32) → (Nat → Int32) → Int32 → Int32 → Int32 → Int32 → Int32 → Option (Int32 × Int32 × (Nat → Int32) × Int32 × Int32 × Int32 × Int32 × Int32 × Int32 × Int32 × (Nat → Int32) × (Nat → Int32) × (Nat → Int32) × (Nat → Int32) × Int32 × (Nat → Int32) × (Nat → Int32) × (Nat → Int32) × (Nat → Int32) × (Nat → Int32) × Int32 × Int32 × (Nat → Int32) × (Nat → Int32) × (Nat → Int32) × (Nat → Int32) × Int32 × Int32 × Int32 × Int32 × Int32)) (l1 : Int32) (l2 : Int32) (z_typed : Int32) (z_draft_told : Nat → Int32) (z_reader_length : Int32) (z_reader_at : Int32) (z_reader_value : Int32) (z_reader_place : Int32) (z_reader_token : Int32) (z_draft_size : Int32) (z_draft_planks : Int32) (z_draft_bank : Nat → Int32) (z_draft_kind : Nat → Int32) (z_draft_word : Nat → Int32) (z_draft_slow : Nat → Int32) (z_draft_sworn : Int32) (z_folk_bank : Nat → Int32) (z_folk_kind : Nat → Int32) (z_folk_word : Nat → Int32) (z_folk_slow : Nat → Int32) (z_folk_told : Nat → Int32) (z_folk_size : Int32) (z_folk_sworn : Int32) (z_strength_borne : Nat → Int32) (z_present_came : Nat → Int32) (z_present_under : Nat → Int32) (z_kept : Nat → Int32) (z_folk_planks : Int32) (z_present_day : Int32) (z_present_crossed : Int32) (z_history_known : Int32) (z_guesser_seen : Int32) : Option (Int32 × Int32 × (Nat → Int32) × Int32 × Int32 × Int32 × Int32 × Int32 × Int32 × Int32 × (Nat → Int32) × (Nat → Int32) × (Nat → Int32) × (Nat → Int32) × Int32 × (Nat → Int32) × (Nat → Int32) × (Nat → Int32) × (Nat → Int32) × (Nat → Int32) × Int32 × Int32 × (Nat → Int32) × (Nat → Int32) × (Nat → Int32) × (Nat → Int32) × Int32 × Int32 × Int32 × Int32 × Int32) :=
  (if 2 ≤ l2 then
  some (l1, z_typed, z_draft_told, z_reader_length, z_reader_at, z_reader_value, z_reader_place, z_reader_token, z_draft_size, z_draft_planks, z_draft_bank, z_draft_kind, z_draft_word, z_draft_slow, z_draft_sworn, z_folk_bank, z_folk_kind, z_folk_word, z_folk_slow, z_folk_told, z_folk_size, z_folk_sworn, z_strength_borne, z_present_came, z_present_under, z_kept, z_folk_planks, z_present_day, z_present_crossed, z_history_known, z_guesser_seen)
  else
  (wr 2 z_kept l2 (vp_nar .boolean 0)).bind fun g35 =>
  r69 l1 (l2 + 1) z_typed z_draft_told z_reader_length z_reader_at z_reader_value z_reader_place z_reader_token z_draft_size z_draft_planks z_draft_bank z_draft_kind z_draft_word z_draft_slow z_draft_sworn z_folk_bank z_folk_kind z_folk_word z_folk_slow z_folk_told z_folk_size z_folk_sworn z_strength_borne z_present_came z_present_under g35 z_folk_planks z_present_day z_present_crossed z_history_known z_guesser_seen)
def fX8_gorge_b69 (fu : Nat) (z_letters : Nat → Int32) : Nat → Int32 → Int32 → Int32 → (Nat → Int32) → Int32 → Int32 → Int32 → Int32 → Int32 → Int32 → Int32 → (Nat → Int32) → (Nat → Int32) → (Nat → Int32) → (Nat → Int32) → Int32 → (Nat → Int32) → (Nat → Int32) → (Nat → Int32) → (Nat → Int32) → (Nat → Int32) → Int32 → Int32 → (Nat → Int32) → (Nat → Int32) → (Nat → Int32) → (Nat → Int32) → Int32 → Int32 → Int32 → Int32 → Int32 → Option (Int32 × Int32 × (Nat → Int32) × Int32 × Int32 × Int32 × Int32 × Int32 × Int32 × Int32 × (Nat → Int32) × (Nat → Int32) × (Nat → Int32) × (Nat → Int32) × Int32 × (Nat → Int32) × (Nat → Int32) × (Nat → Int32) × (Nat → Int32) × (Nat → Int32) × Int32 × Int32 × (Nat → Int32) × (Nat → Int32) × (Nat → Int32) × (Nat → Int32) × Int32 × Int32 × Int32 × Int32 × Int32)
  | 0, _, _, _, _, _, _, _, _, _, _, _, _, _, _, _, _, _, _, _, _, _, _, _, _, _, _, _, _, _, _, _, _ => none
  | n + 1, l1, l2, z_typed, z_draft_told, z_reader_length, z_reader_at, z_reader_value, z_reader_place, z_reader_token, z_draft_size, z_draft_planks, z_draft_bank, z_draft_kind, z_draft_word, z_draft_slow, z_draft_sworn, z_folk_bank, z_folk_kind, z_folk_word, z_folk_slow, z_folk_told, z_folk_size, z_folk_sworn, z_strength_borne, z_present_came, z_present_under, z_kept, z_folk_planks, z_present_day, z_present_crossed, z_history_known, z_guesser_seen => fX8_gorge_b69_body fu z_letters (fX8_gorge_b69 fu z_letters n) l1 l2 z_typed z_draft_told z_reader_length z_reader_at z_reader_value z_reader_place z_reader_token z_draft_size z_draft_planks z_draft_bank z_draft_kind z_draft_word z_draft_slow z_draft_sworn z_folk_bank z_folk_kind z_folk_word z_folk_slow z_folk_told z_folk_size z_folk_sworn z_strength_borne z_present_came z_present_under z_kept z_folk_planks z_present_day z_present_crossed z_history_known z_guesser_seen
def fX8_gorge (fu : Nat) (z_letters : Nat → Int32) (z_typed : Int32) (z_draft_told : Nat → Int32) (z_reader_length : Int32) (z_reader_at : Int32) (z_reader_value : Int32) (z_reader_place : Int32) (z_reader_token : Int32) (z_draft_size : Int32) (z_draft_planks : Int32) (z_draft_bank : Nat → Int32) (z_draft_kind : Nat → Int32) (z_draft_word : Nat → Int32) (z_draft_slow : Nat → Int32) (z_draft_sworn : Int32) (z_folk_bank : Nat → Int32) (z_folk_kind : Nat → Int32) (z_folk_word : Nat → Int32) (z_folk_slow : Nat → Int32) (z_folk_told : Nat → Int32) (z_folk_size : Int32) (z_folk_sworn : Int32) (z_strength_borne : Nat → Int32) (z_present_came : Nat → Int32) (z_present_under : Nat → Int32) (z_kept : Nat → Int32) (z_folk_planks : Int32) (z_present_day : Int32) (z_present_crossed : Int32) (z_history_known : Int32) (z_guesser_seen : Int32) : Option (Int32 × Int32 × (Nat → Int32) × Int32 × Int32 × Int32 × Int32 × Int32 × Int32 × Int32 × (Nat → Int32) × (Nat → Int32) × (Nat → Int32) × (Nat → Int32) × Int32 × (Nat → Int32) × (Nat → Int32) × (Nat → Int32) × (Nat → Int32) × (Nat → Int32) × Int32 × Int32 × (Nat → Int32) × (Nat → Int32) × (Nat → Int32) × (Nat → Int32) × Int32 × Int32 × Int32 × Int32 × Int32) :=
  (fX6_readAll fu z_letters z_draft_told z_reader_length z_reader_at z_reader_value z_reader_place z_reader_token z_draft_size z_draft_planks z_draft_bank z_draft_kind z_draft_word z_draft_slow z_draft_sworn z_typed).bind fun (v1, g2, g3, g4, g5, g6, g7, g8, g9, g10, g11, g12, g13, g14) =>
  (if 0 ≤ v1 then
  (fX0_become fu g9 g8 g14 g10 g11 g12 g13 g2 z_folk_bank z_folk_kind z_folk_word z_folk_slow z_folk_told z_folk_planks z_folk_size z_folk_sworn).bind fun (g17, g18, g19, g20, g21, g22, g23, g24) =>
  (fX7_reckonAll fu g23 g18 g24 g17 g19 z_strength_borne).bind fun g26 =>
  (fX5_begin fu g21 z_present_came z_present_under z_present_day z_present_crossed).bind fun (g28, g29, g30, g31) =>
  (fX3_lose fu z_history_known).bind fun g33 =>
  fX8_gorge_b69 fu z_letters fu v1 0 0 g2 g3 g4 g5 g6 g7 g8 g9 g10 g11 g12 g13 g14 g17 g18 g19 g20 g21 g23 g24 g26 g28 g29 z_kept g22 g30 g31 g33 0
  else
  some (v1, z_typed, g2, g3, g4, g5, g6, g7, g8, g9, g10, g11, g12, g13, g14, z_folk_bank, z_folk_kind, z_folk_word, z_folk_slow, z_folk_told, z_folk_size, z_folk_sworn, z_strength_borne, z_present_came, z_present_under, z_kept, z_folk_planks, z_present_day, z_present_crossed, z_history_known, z_guesser_seen))
-- HalfPlanks$Folk.hasPerson(I)Z
def fX0_hasPerson (fu : Nat) (z_size : Int32) (p1 : Int32) : Option (Int32) :=
  (if p1 < 0 then
  some (0)
  else
  (if z_size ≤ p1 then
  some (0)
  else
  some (1)))
-- HalfPlanks.planksOf([II)I
def fX8_planksOf_b5_body (fu : Nat) (z_folk_planks : Int32) (z_p1 : Nat → Int32) (r5 : Int32 → Int32 → Int32 → Option (Int32)) (l2 : Int32) (l3 : Int32) (l4 : Int32) : Option (Int32) :=
  (if z_folk_planks ≤ l4 then
  some (l3)
  else
  (rd 8 z_p1 l4).bind fun v2 =>
  (fX8_has fu v2 l2).bind fun v3 =>
  (if v3 = 0 then
  r5 l2 l3 (l4 + 1)
  else
  r5 l2 (l3 ||| ((1 : Int32) <<< (l4 &&& 31))) (l4 + 1)))
def fX8_planksOf_b5 (fu : Nat) (z_folk_planks : Int32) (z_p1 : Nat → Int32) : Nat → Int32 → Int32 → Int32 → Option (Int32)
  | 0, _, _, _ => none
  | n + 1, l2, l3, l4 => fX8_planksOf_b5_body fu z_folk_planks z_p1 (fX8_planksOf_b5 fu z_folk_planks z_p1 n) l2 l3 l4
def fX8_planksOf (fu : Nat) (z_folk_planks : Int32) (z_p1 : Nat → Int32) (p2 : Int32) : Option (Int32) :=
  fX8_planksOf_b5 fu z_folk_planks z_p1 fu p2 0 0
-- HalfPlanks$Strength.of(II)I
def fX7_of (fu : Nat) (z_borne : Nat → Int32) (p1 : Int32) (p2 : Int32) : Option (Int32) :=
  (rd 512 z_borne (((p1 &&& 1) * 256) + (p2 &&& 255))).bind fun v1 =>
  some (v1)
-- HalfPlanks$Strength.falling(LHalfPlanks$Promises;I)I
def fX7_falling_b5_body (fu : Nat) (z_folk_planks : Int32) (z_p1_came : Nat → Int32) (z_borne : Nat → Int32) (r5 : Int32 → Int32 → Int32 → Option (Int32)) (l2 : Int32) (l3 : Int32) (l4 : Int32) : Option (Int32) :=
  (if z_folk_planks ≤ l4 then
  some (l3)
  else
  (rd 8 z_p1_came l4).bind fun v2 =>
  (fX7_of fu z_borne l4 v2).bind fun v3 =>
  (if v3 ≤ 0 then
  r5 l2 l3 (l4 + 1)
  else
  (rd 8 z_p1_came l4).bind fun v5 =>
  (fX7_of fu z_borne l4 (v5 &&& (((1 : Int32) <<< (l2 &&& 31)) ^^^ (-1)))).bind fun v6 =>
  (if v6 = 0 then
  r5 l2 (l3 ||| ((1 : Int32) <<< (l4 &&& 31))) (l4 + 1)
  else
  r5 l2 l3 (l4 + 1))))
def fX7_falling_b5 (fu : Nat) (z_folk_planks : Int32) (z_p1_came : Nat → Int32) (z_borne : Nat → Int32) : Nat → Int32 → Int32 → Int32 → Option (Int32)
  | 0, _, _, _ => none
  | n + 1, l2, l3, l4 => fX7_falling_b5_body fu z_folk_planks z_p1_came z_borne (fX7_falling_b5 fu z_folk_planks z_p1_came z_borne n) l2 l3 l4
def fX7_falling (fu : Nat) (z_folk_planks : Int32) (z_p1_came : Nat → Int32) (z_borne : Nat → Int32) (p2 : Int32) : Option (Int32) :=
  fX7_falling_b5 fu z_folk_planks z_p1_came z_borne fu p2 0 0
-- HalfPlanks$Strength.bridge(LHalfPlanks$Promises;I)I
def fX7_bridge_b19_body (fu : Nat) (z_p1_came : Nat → Int32) (z_borne : Nat → Int32) (z_folk_planks : Int32) (r19 : Int32 → Int32 → Int32 → Option (Int32)) (l2 : Int32) (l3 : Int32) (l4 : Int32) : Option (Int32) :=
  (if z_folk_planks ≤ l4 then
  some (l3)
  else
  (if l3 ≤ 0 then
  some (l3)
  else
  (rd 8 z_p1_came l4).bind fun v5 =>
  (fX7_of fu z_borne l4 (v5 &&& (l2 ^^^ (-1)))).bind fun v6 =>
  r19 l2 (mn l3 v6) (l4 + 1)))
def fX7_bridge_b19 (fu : Nat) (z_p1_came : Nat → Int32) (z_borne : Nat → Int32) (z_folk_planks : Int32) : Nat → Int32 → Int32 → Int32 → Option (Int32)
  | 0, _, _, _ => none
  | n + 1, l2, l3, l4 => fX7_bridge_b19_body fu z_p1_came z_borne z_folk_planks (fX7_bridge_b19 fu z_p1_came z_borne z_folk_planks n) l2 l3 l4
def fX7_bridge (fu : Nat) (z_p1_came : Nat → Int32) (z_borne : Nat → Int32) (z_folk_planks : Int32) (p2 : Int32) : Option (Int32) :=
  (rd 8 z_p1_came 0).bind fun v1 =>
  (fX7_of fu z_borne 0 (v1 &&& (p2 ^^^ (-1)))).bind fun v2 =>
  fX7_bridge_b19 fu z_p1_came z_borne z_folk_planks fu p2 v2 1
-- HalfPlanks.person(II)I
def fX8_person (fu : Nat) (z_folk_size : Int32) (z_present_came : Nat → Int32) (z_strength_borne : Nat → Int32) (z_folk_planks : Int32) (z_present_under : Nat → Int32) (z_folk_slow : Nat → Int32) (z_folk_word : Nat → Int32) (z_folk_kind : Nat → Int32) (z_folk_bank : Nat → Int32) (p1 : Int32) (p2 : Int32) : Option (Int32) :=
  (fX0_hasPerson fu z_folk_size p1).bind fun v1 =>
  (if v1 = 0 then
  some ((-1))
  else
  (if p2 = 0 then
  (rd 8 z_folk_bank p1).bind fun v3 =>
  some (v3)
  else if p2 = 1 then
  (rd 8 z_folk_kind p1).bind fun v5 =>
  some (v5)
  else if p2 = 2 then
  (rd 8 z_folk_word p1).bind fun v7 =>
  some (v7)
  else if p2 = 3 then
  (rd 8 z_folk_slow p1).bind fun v9 =>
  some (v9)
  else if p2 = 4 then
  (fX8_planksOf fu z_folk_planks z_present_came p1).bind fun v11 =>
  some (v11)
  else if p2 = 5 then
  (fX8_planksOf fu z_folk_planks z_present_under p1).bind fun v13 =>
  some (v13)
  else if p2 = 6 then
  (fX7_falling fu z_folk_planks z_present_came z_strength_borne p1).bind fun v15 =>
  some (v15)
  else if p2 = 7 then
  (fX7_bridge fu z_present_came z_strength_borne z_folk_planks 0).bind fun v17 =>
  (fX7_bridge fu z_present_came z_strength_borne z_folk_planks ((1 : Int32) <<< (p1 &&& 31))).bind fun v18 =>
  some ((mx 0 (v17 - v18)))
  else some ((-1))))
-- HalfPlanks$Folk.hasPlank(I)Z
def fX0_hasPlank (fu : Nat) (z_planks : Int32) (p1 : Int32) : Option (Int32) :=
  (if p1 < 0 then
  some (0)
  else
  (if z_planks ≤ p1 then
  some (0)
  else
  some (1)))
-- HalfPlanks$Strength.standing(III)I
def fX7_standing_b51 (fu : Nat) (z_folk_size : Int32) (z_folk_bank : Nat → Int32) (z_folk_kind : Nat → Int32) (z_folk_word : Nat → Int32) (z_folk_sworn : Int32) (r6 : Int32 → Int32 → Int32 → Int32 → Int32 → Option (Int32)) (l1 : Int32) (l2 : Int32) (l3 : Int32) (l4 : Int32) (l5 : Int32) (s0 : Int32) : Option (Int32) :=
  (fX8_has fu l2 l5).bind fun v4 =>
  (if v4 = 0 then
  r6 l1 l2 l3 l4 (l5 + 1)
  else
  (if s0 = 0 then
  r6 l1 l2 l3 l4 (l5 + 1)
  else
  (rd 8 z_folk_word l5).bind fun v7 =>
  (fX0_holdBy fu z_folk_kind z_folk_sworn l5 v7 l1 l2).bind fun v8 =>
  (if v8 ≤ 0 then
  r6 l1 l2 l3 l4 (l5 + 1)
  else
  r6 l1 l2 l3 (l4 ||| ((1 : Int32) <<< (l5 &&& 31))) (l5 + 1))))
def fX7_standing_b6_body (fu : Nat) (z_folk_size : Int32) (z_folk_bank : Nat → Int32) (z_folk_kind : Nat → Int32) (z_folk_word : Nat → Int32) (z_folk_sworn : Int32) (r6 : Int32 → Int32 → Int32 → Int32 → Int32 → Option (Int32)) (l1 : Int32) (l2 : Int32) (l3 : Int32) (l4 : Int32) (l5 : Int32) : Option (Int32) :=
  (if z_folk_size ≤ l5 then
  some (l4)
  else
  (rd 8 z_folk_bank l5).bind fun v2 =>
  (if v2 = l3 then
  fX7_standing_b51 fu z_folk_size z_folk_bank z_folk_kind z_folk_word z_folk_sworn r6 l1 l2 l3 l4 l5 1
  else
  (rd 8 z_folk_kind l5).bind fun v10 =>
  (if v10 = 3 then
  fX7_standing_b51 fu z_folk_size z_folk_bank z_folk_kind z_folk_word z_folk_sworn r6 l1 l2 l3 l4 l5 1
  else
  fX7_standing_b51 fu z_folk_size z_folk_bank z_folk_kind z_folk_word z_folk_sworn r6 l1 l2 l3 l4 l5 0)))
def fX7_standing_b6 (fu : Nat) (z_folk_size : Int32) (z_folk_bank : Nat → Int32) (z_folk_kind : Nat → Int32) (z_folk_word : Nat → Int32) (z_folk_sworn : Int32) : Nat → Int32 → Int32 → Int32 → Int32 → Int32 → Option (Int32)
  | 0, _, _, _, _, _ => none
  | n + 1, l1, l2, l3, l4, l5 => fX7_standing_b6_body fu z_folk_size z_folk_bank z_folk_kind z_folk_word z_folk_sworn (fX7_standing_b6 fu z_folk_size z_folk_bank z_folk_kind z_folk_word z_folk_sworn n) l1 l2 l3 l4 l5
def fX7_standing (fu : Nat) (z_folk_size : Int32) (z_folk_bank : Nat → Int32) (z_folk_kind : Nat → Int32) (z_folk_word : Nat → Int32) (z_folk_sworn : Int32) (p1 : Int32) (p2 : Int32) (p3 : Int32) : Option (Int32) :=
  fX7_standing_b6 fu z_folk_size z_folk_bank z_folk_kind z_folk_word z_folk_sworn fu p1 p2 p3 0 0
-- HalfPlanks.plank(II)I
def fX8_plank (fu : Nat) (z_folk_planks : Int32) (z_present_came : Nat → Int32) (z_folk_size : Int32) (z_folk_bank : Nat → Int32) (z_folk_kind : Nat → Int32) (z_folk_word : Nat → Int32) (z_folk_sworn : Int32) (z_strength_borne : Nat → Int32) (p1 : Int32) (p2 : Int32) : Option (Int32) :=
  (fX0_hasPlank fu z_folk_planks p1).bind fun v1 =>
  (if v1 = 0 then
  some ((-1))
  else
  (if p2 = 0 then
  (rd 8 z_present_came p1).bind fun v3 =>
  (fX7_of fu z_strength_borne p1 v3).bind fun v4 =>
  some (v4)
  else if p2 = 1 then
  (rd 8 z_present_came p1).bind fun v6 =>
  (fX7_standing fu z_folk_size z_folk_bank z_folk_kind z_folk_word z_folk_sworn p1 v6 0).bind fun v7 =>
  some (v7)
  else if p2 = 2 then
  (rd 8 z_present_came p1).bind fun v9 =>
  (fX7_standing fu z_folk_size z_folk_bank z_folk_kind z_folk_word z_folk_sworn p1 v9 1).bind fun v10 =>
  some (v10)
  else some ((-1))))
-- HalfPlanks.hold(II)I
def fX8_hold (fu : Nat) (z_folk_size : Int32) (z_folk_planks : Int32) (z_folk_word : Nat → Int32) (z_present_came : Nat → Int32) (z_folk_kind : Nat → Int32) (z_folk_sworn : Int32) (p1 : Int32) (p2 : Int32) : Option (Int32) :=
  (fX0_hasPerson fu z_folk_size p1).bind fun v1 =>
  (if v1 = 0 then
  some ((-1))
  else
  (fX0_hasPlank fu z_folk_planks p2).bind fun v3 =>
  (if v3 = 0 then
  some ((-1))
  else
  (rd 8 z_folk_word p1).bind fun v5 =>
  (rd 8 z_present_came p2).bind fun v6 =>
  (fX0_holdBy fu z_folk_kind z_folk_sworn p1 v5 p2 v6).bind fun v7 =>
  some (v7)))
-- HalfPlanks$Strength.lying(LHalfPlanks$Promises;)I
def fX7_lying_b4_body (fu : Nat) (z_folk_planks : Int32) (z_p1_came : Nat → Int32) (z_borne : Nat → Int32) (r4 : Int32 → Int32 → Option (Int32)) (l2 : Int32) (l3 : Int32) : Option (Int32) :=
  (if z_folk_planks ≤ l3 then
  some (l2)
  else
  (rd 8 z_p1_came l3).bind fun v2 =>
  (fX7_of fu z_borne l3 v2).bind fun v3 =>
  (if v3 ≤ 0 then
  r4 l2 (l3 + 1)
  else
  r4 (l2 ||| ((1 : Int32) <<< (l3 &&& 31))) (l3 + 1)))
def fX7_lying_b4 (fu : Nat) (z_folk_planks : Int32) (z_p1_came : Nat → Int32) (z_borne : Nat → Int32) : Nat → Int32 → Int32 → Option (Int32)
  | 0, _, _ => none
  | n + 1, l2, l3 => fX7_lying_b4_body fu z_folk_planks z_p1_came z_borne (fX7_lying_b4 fu z_folk_planks z_p1_came z_borne n) l2 l3
def fX7_lying (fu : Nat) (z_folk_planks : Int32) (z_p1_came : Nat → Int32) (z_borne : Nat → Int32) : Option (Int32) :=
  fX7_lying_b4 fu z_folk_planks z_p1_came z_borne fu 0 0
-- java/lang/Integer.bitCount(I)I
def fJ6_bitCount_0f7a4 (fu : Nat) (p0 : Int32) : Option (Int32) :=
  some (((((((((p0 - ((p0.toUInt32 >>> ((1 : Int32).toUInt32 &&& Int32.toUInt32 31)).toInt32 &&& 1431655765)) &&& 858993459) + (((p0 - ((p0.toUInt32 >>> ((1 : Int32).toUInt32 &&& Int32.toUInt32 31)).toInt32 &&& 1431655765)).toUInt32 >>> ((2 : Int32).toUInt32 &&& Int32.toUInt32 31)).toInt32 &&& 858993459)) + ((((p0 - ((p0.toUInt32 >>> ((1 : Int32).toUInt32 &&& Int32.toUInt32 31)).toInt32 &&& 1431655765)) &&& 858993459) + (((p0 - ((p0.toUInt32 >>> ((1 : Int32).toUInt32 &&& Int32.toUInt32 31)).toInt32 &&& 1431655765)).toUInt32 >>> ((2 : Int32).toUInt32 &&& Int32.toUInt32 31)).toInt32 &&& 858993459)).toUInt32 >>> ((4 : Int32).toUInt32 &&& Int32.toUInt32 31)).toInt32) &&& 252645135) + ((((((p0 - ((p0.toUInt32 >>> ((1 : Int32).toUInt32 &&& Int32.toUInt32 31)).toInt32 &&& 1431655765)) &&& 858993459) + (((p0 - ((p0.toUInt32 >>> ((1 : Int32).toUInt32 &&& Int32.toUInt32 31)).toInt32 &&& 1431655765)).toUInt32 >>> ((2 : Int32).toUInt32 &&& Int32.toUInt32 31)).toInt32 &&& 858993459)) + ((((p0 - ((p0.toUInt32 >>> ((1 : Int32).toUInt32 &&& Int32.toUInt32 31)).toInt32 &&& 1431655765)) &&& 858993459) + (((p0 - ((p0.toUInt32 >>> ((1 : Int32).toUInt32 &&& Int32.toUInt32 31)).toInt32 &&& 1431655765)).toUInt32 >>> ((2 : Int32).toUInt32 &&& Int32.toUInt32 31)).toInt32 &&& 858993459)).toUInt32 >>> ((4 : Int32).toUInt32 &&& Int32.toUInt32 31)).toInt32) &&& 252645135).toUInt32 >>> ((8 : Int32).toUInt32 &&& Int32.toUInt32 31)).toInt32) + (((((((p0 - ((p0.toUInt32 >>> ((1 : Int32).toUInt32 &&& Int32.toUInt32 31)).toInt32 &&& 1431655765)) &&& 858993459) + (((p0 - ((p0.toUInt32 >>> ((1 : Int32).toUInt32 &&& Int32.toUInt32 31)).toInt32 &&& 1431655765)).toUInt32 >>> ((2 : Int32).toUInt32 &&& Int32.toUInt32 31)).toInt32 &&& 858993459)) + ((((p0 - ((p0.toUInt32 >>> ((1 : Int32).toUInt32 &&& Int32.toUInt32 31)).toInt32 &&& 1431655765)) &&& 858993459) + (((p0 - ((p0.toUInt32 >>> ((1 : Int32).toUInt32 &&& Int32.toUInt32 31)).toInt32 &&& 1431655765)).toUInt32 >>> ((2 : Int32).toUInt32 &&& Int32.toUInt32 31)).toInt32 &&& 858993459)).toUInt32 >>> ((4 : Int32).toUInt32 &&& Int32.toUInt32 31)).toInt32) &&& 252645135) + ((((((p0 - ((p0.toUInt32 >>> ((1 : Int32).toUInt32 &&& Int32.toUInt32 31)).toInt32 &&& 1431655765)) &&& 858993459) + (((p0 - ((p0.toUInt32 >>> ((1 : Int32).toUInt32 &&& Int32.toUInt32 31)).toInt32 &&& 1431655765)).toUInt32 >>> ((2 : Int32).toUInt32 &&& Int32.toUInt32 31)).toInt32 &&& 858993459)) + ((((p0 - ((p0.toUInt32 >>> ((1 : Int32).toUInt32 &&& Int32.toUInt32 31)).toInt32 &&& 1431655765)) &&& 858993459) + (((p0 - ((p0.toUInt32 >>> ((1 : Int32).toUInt32 &&& Int32.toUInt32 31)).toInt32 &&& 1431655765)).toUInt32 >>> ((2 : Int32).toUInt32 &&& Int32.toUInt32 31)).toInt32 &&& 858993459)).toUInt32 >>> ((4 : Int32).toUInt32 &&& Int32.toUInt32 31)).toInt32) &&& 252645135).toUInt32 >>> ((8 : Int32).toUInt32 &&& Int32.toUInt32 31)).toInt32).toUInt32 >>> ((16 : Int32).toUInt32 &&& Int32.toUInt32 31)).toInt32) &&& 63))
-- HalfPlanks$Promises.lettersUnderWay()I
def fX5_lettersUnderWay_b4_body (fu : Nat) (z_under : Nat → Int32) (r4 : Int32 → Int32 → Option (Int32)) (l1 : Int32) (l2 : Int32) : Option (Int32) :=
  (if 8 ≤ l2 then
  some (l1)
  else
  (rd 8 z_under l2).bind fun v2 =>
  (fJ6_bitCount_0f7a4 fu v2).bind fun v3 =>
  r4 (l1 + v3) (l2 + 1))
def fX5_lettersUnderWay_b4 (fu : Nat) (z_under : Nat → Int32) : Nat → Int32 → Int32 → Option (Int32)
  | 0, _, _ => none
  | n + 1, l1, l2 => fX5_lettersUnderWay_b4_body fu z_under (fX5_lettersUnderWay_b4 fu z_under n) l1 l2
def fX5_lettersUnderWay (fu : Nat) (z_under : Nat → Int32) : Option (Int32) :=
  fX5_lettersUnderWay_b4 fu z_under fu 0 0
-- HalfPlanks.now(I)I
def fX8_now (fu : Nat) (z_history_known : Int32) (z_present_under : Nat → Int32) (z_present_crossed : Int32) (z_folk_planks : Int32) (z_present_came : Nat → Int32) (z_strength_borne : Nat → Int32) (z_present_day : Int32) (p1 : Int32) : Option (Int32) :=
  (if p1 = 0 then
  some (z_present_day)
  else if p1 = 1 then
  (fX7_bridge fu z_present_came z_strength_borne z_folk_planks 0).bind fun v2 =>
  some (v2)
  else if p1 = 2 then
  (fX7_lying fu z_folk_planks z_present_came z_strength_borne).bind fun v4 =>
  some (v4)
  else if p1 = 3 then
  some (z_present_crossed)
  else if p1 = 4 then
  (fX5_lettersUnderWay fu z_present_under).bind fun v7 =>
  some (v7)
  else if p1 = 5 then
  some (z_history_known)
  else some ((-1)))
-- HalfPlanks$Promises.gave(II)Z
def fX5_gave (fu : Nat) (z_came : Nat → Int32) (z_under : Nat → Int32) (p1 : Int32) (p2 : Int32) : Option (Int32) :=
  (rd 8 z_came p2).bind fun v1 =>
  (rd 8 z_under p2).bind fun v2 =>
  (fX8_has fu (v1 ||| v2) p1).bind fun v3 =>
  (zb v3).bind fun v4 =>
  some (v3)
-- HalfPlanks$Promises.become(LHalfPlanks$Promises;)V
def fX5_become (fu : Nat) (z_p1_day : Int32) (z_p1_crossed : Int32) (z_p1_came : Nat → Int32) (z_p1_under : Nat → Int32) (z_p1_due : Nat → Int32) (z_came : Nat → Int32) (z_under : Nat → Int32) (z_due : Nat → Int32) (z_day : Int32) (z_crossed : Int32) : Option ((Nat → Int32) × (Nat → Int32) × (Nat → Int32) × Int32 × Int32) :=
  some ((va_cpy z_p1_came z_came 0 0 8), (va_cpy z_p1_under z_under 0 0 8), (va_cpy z_p1_due z_due 0 0 64), z_p1_day, z_p1_crossed)
-- HalfPlanks$History.remember(LHalfPlanks$Promises;)V
def fX3_remember_b35 (fu : Nat) (gj : Nat) (z_p1_day : Int32) (z_p1_crossed : Int32) (z_p1_came : Nat → Int32) (z_p1_under : Nat → Int32) (z_p1_due : Nat → Int32) (s0 : Int32) (z_top : Int32) (z_ring_came : Nat → Int32) (z_ring_under : Nat → Int32) (z_ring_due : Nat → Int32) (z_known : Int32) (z_ring_day : Int32) (z_ring_crossed : Int32) : Option (Int32 × (Nat → Int32) × (Nat → Int32) × (Nat → Int32) × Int32 × Int32 × Int32) :=
  some (s0, z_ring_came, z_ring_under, z_ring_due, (mn (z_known + 1) 10), z_ring_day, z_ring_crossed)
def fX3_remember (fu : Nat) (gj : Nat) (z_p1_day : Int32) (z_p1_crossed : Int32) (z_p1_came : Nat → Int32) (z_p1_under : Nat → Int32) (z_p1_due : Nat → Int32) (z_top : Int32) (z_ring_came : Nat → Int32) (z_ring_under : Nat → Int32) (z_ring_due : Nat → Int32) (z_known : Int32) (z_ring_day : Int32) (z_ring_crossed : Int32) : Option (Int32 × (Nat → Int32) × (Nat → Int32) × (Nat → Int32) × Int32 × Int32 × Int32) :=
  (rj 10 z_top gj).bind fun j1 =>
  (fX5_become fu z_p1_day z_p1_crossed z_p1_came z_p1_under z_p1_due z_ring_came z_ring_under z_ring_due z_ring_day z_ring_crossed).bind fun (g3, g4, g5, g6, g7) =>
  (if 10 ≤ (z_top + 1) then
  fX3_remember_b35 fu gj z_p1_day z_p1_crossed z_p1_came z_p1_under z_p1_due 0 z_top g3 g4 g5 z_known g6 g7
  else
  fX3_remember_b35 fu gj z_p1_day z_p1_crossed z_p1_came z_p1_under z_p1_due (z_top + 1) z_top g3 g4 g5 z_known g6 g7)
-- HalfPlanks$Promises.meetsAnother(LHalfPlanks$Folk;II)Z
def fX5_meetsAnother_b3_body (fu : Nat) (z_p1_size : Int32) (z_under : Nat → Int32) (z_p1_bank : Nat → Int32) (r3 : Int32 → Int32 → Int32 → Option (Int32)) (l2 : Int32) (l3 : Int32) (l4 : Int32) : Option (Int32) :=
  (if z_p1_size ≤ l4 then
  some (0)
  else
  (rd 8 z_under l3).bind fun v2 =>
  (fX8_has fu v2 l4).bind fun v3 =>
  (if v3 = 0 then
  r3 l2 l3 (l4 + 1)
  else
  (rd 8 z_p1_bank l4).bind fun v5 =>
  (rd 8 z_p1_bank l2).bind fun v6 =>
  (if v5 = v6 then
  r3 l2 l3 (l4 + 1)
  else
  some (1))))
def fX5_meetsAnother_b3 (fu : Nat) (z_p1_size : Int32) (z_under : Nat → Int32) (z_p1_bank : Nat → Int32) : Nat → Int32 → Int32 → Int32 → Option (Int32)
  | 0, _, _, _ => none
  | n + 1, l2, l3, l4 => fX5_meetsAnother_b3_body fu z_p1_size z_under z_p1_bank (fX5_meetsAnother_b3 fu z_p1_size z_under z_p1_bank n) l2 l3 l4
def fX5_meetsAnother (fu : Nat) (z_p1_size : Int32) (z_under : Nat → Int32) (z_p1_bank : Nat → Int32) (p2 : Int32) (p3 : Int32) : Option (Int32) :=
  fX5_meetsAnother_b3 fu z_p1_size z_under z_p1_bank fu p2 p3 0
-- HalfPlanks$Promises.post(LHalfPlanks$Folk;II)I
def fX5_post_b26 (fu : Nat) (z_day : Int32) (z_p1_slow : Nat → Int32) (z_p1_size : Int32) (z_p1_bank : Nat → Int32) (l2 : Int32) (l3 : Int32) (s0 : Int32) (s1 : Int32) (z_under : Nat → Int32) (z_due : Nat → Int32) : Option (Int32 × (Nat → Int32) × (Nat → Int32)) :=
  (rd 8 z_under l3).bind fun v4 =>
  (wr 8 z_under l3 (v4 ||| ((1 : Int32) <<< (l2 &&& 31)))).bind fun g5 =>
  (wr 64 z_due ((l3 * 8) + l2) (s1 + s0)).bind fun g6 =>
  some ((s1 + s0), g5, g6)
def fX5_post (fu : Nat) (z_day : Int32) (z_p1_slow : Nat → Int32) (z_p1_size : Int32) (z_p1_bank : Nat → Int32) (z_under : Nat → Int32) (z_due : Nat → Int32) (p2 : Int32) (p3 : Int32) : Option (Int32 × (Nat → Int32) × (Nat → Int32)) :=
  (rd 8 z_p1_slow p2).bind fun v1 =>
  (fX5_meetsAnother fu z_p1_size z_under z_p1_bank p2 p3).bind fun v2 =>
  (if v2 = 0 then
  fX5_post_b26 fu z_day z_p1_slow z_p1_size z_p1_bank p2 p3 0 (z_day + v1) z_under z_due
  else
  fX5_post_b26 fu z_day z_p1_slow z_p1_size z_p1_bank p2 p3 1 (z_day + v1) z_under z_due)
-- HalfPlanks.promises(II)I
def fX8_promises (fu : Nat) (gj : Nat) (z_folk_size : Int32) (z_folk_planks : Int32) (z_present_came : Nat → Int32) (z_present_day : Int32) (z_present_crossed : Int32) (z_folk_slow : Nat → Int32) (z_folk_bank : Nat → Int32) (z_present_under : Nat → Int32) (z_history_top : Int32) (z_history_ring_came : Nat → Int32) (z_history_ring_under : Nat → Int32) (z_present_due : Nat → Int32) (z_history_ring_due : Nat → Int32) (z_history_known : Int32) (z_history_ring_day : Int32) (z_history_ring_crossed : Int32) (p1 : Int32) (p2 : Int32) : Option (Int32 × (Nat → Int32) × Int32 × (Nat → Int32) × (Nat → Int32) × (Nat → Int32) × (Nat → Int32) × Int32 × Int32 × Int32) :=
  (fX0_hasPerson fu z_folk_size p1).bind fun v1 =>
  (if v1 = 0 then
  some ((-1), z_present_under, z_history_top, z_history_ring_came, z_history_ring_under, z_present_due, z_history_ring_due, z_history_known, z_history_ring_day, z_history_ring_crossed)
  else
  (fX0_hasPlank fu z_folk_planks p2).bind fun v3 =>
  (if v3 = 0 then
  some ((-1), z_present_under, z_history_top, z_history_ring_came, z_history_ring_under, z_present_due, z_history_ring_due, z_history_known, z_history_ring_day, z_history_ring_crossed)
  else
  (fX5_gave fu z_present_came z_present_under p1 p2).bind fun v5 =>
  (if v5 = 0 then
  (fX3_remember fu gj z_present_day z_present_crossed z_present_came z_present_under z_present_due z_history_top z_history_ring_came z_history_ring_under z_history_ring_due z_history_known z_history_ring_day z_history_ring_crossed).bind fun (g8, g9, g10, g11, g12, g13, g14) =>
  (fX5_post fu z_present_day z_folk_slow z_folk_size z_folk_bank z_present_under z_present_due p1 p2).bind fun (v15, g16, g17) =>
  some (v15, g16, g8, g9, g10, g17, g11, g12, g13, g14)
  else
  some ((-2), z_present_under, z_history_top, z_history_ring_came, z_history_ring_under, z_present_due, z_history_ring_due, z_history_known, z_history_ring_day, z_history_ring_crossed))))
-- HalfPlanks$Promises.drop(II)V
def fX5_drop (fu : Nat) (z_came : Nat → Int32) (z_under : Nat → Int32) (p1 : Int32) (p2 : Int32) : Option ((Nat → Int32) × (Nat → Int32)) :=
  (rd 8 z_came p2).bind fun v1 =>
  (wr 8 z_came p2 (v1 &&& (((1 : Int32) <<< (p1 &&& 31)) ^^^ (-1)))).bind fun g2 =>
  (rd 8 z_under p2).bind fun v3 =>
  (wr 8 z_under p2 (v3 &&& (((1 : Int32) <<< (p1 &&& 31)) ^^^ (-1)))).bind fun g4 =>
  some (g2, g4)
-- HalfPlanks.breaks(II)I
def fX8_breaks (fu : Nat) (gj : Nat) (z_folk_size : Int32) (z_folk_planks : Int32) (z_present_day : Int32) (z_present_crossed : Int32) (z_present_due : Nat → Int32) (z_strength_borne : Nat → Int32) (z_present_came : Nat → Int32) (z_present_under : Nat → Int32) (z_history_top : Int32) (z_history_ring_came : Nat → Int32) (z_history_ring_under : Nat → Int32) (z_history_ring_due : Nat → Int32) (z_history_known : Int32) (z_history_ring_day : Int32) (z_history_ring_crossed : Int32) (p1 : Int32) (p2 : Int32) : Option (Int32 × (Nat → Int32) × (Nat → Int32) × Int32 × (Nat → Int32) × (Nat → Int32) × (Nat → Int32) × Int32 × Int32 × Int32) :=
  (fX0_hasPerson fu z_folk_size p1).bind fun v1 =>
  (if v1 = 0 then
  some ((-1), z_present_came, z_present_under, z_history_top, z_history_ring_came, z_history_ring_under, z_history_ring_due, z_history_known, z_history_ring_day, z_history_ring_crossed)
  else
  (fX0_hasPlank fu z_folk_planks p2).bind fun v3 =>
  (if v3 = 0 then
  some ((-1), z_present_came, z_present_under, z_history_top, z_history_ring_came, z_history_ring_under, z_history_ring_due, z_history_known, z_history_ring_day, z_history_ring_crossed)
  else
  (fX5_gave fu z_present_came z_present_under p1 p2).bind fun v5 =>
  (if v5 = 0 then
  some ((-2), z_present_came, z_present_under, z_history_top, z_history_ring_came, z_history_ring_under, z_history_ring_due, z_history_known, z_history_ring_day, z_history_ring_crossed)
  else
  (fX3_remember fu gj z_present_day z_present_crossed z_present_came z_present_under z_present_due z_history_top z_history_ring_came z_history_ring_under z_history_ring_due z_history_known z_history_ring_day z_history_ring_crossed).bind fun (g8, g9, g10, g11, g12, g13, g14) =>
  (fX5_drop fu z_present_came z_present_under p1 p2).bind fun (g16, g17) =>
  (fX7_bridge fu g16 z_strength_borne z_folk_planks 0).bind fun v18 =>
  some (v18, g16, g17, g8, g9, g10, g11, g12, g13, g14))))
-- HalfPlanks$Promises.cameBy(II)I
def fX5_cameBy_b21_body (fu : Nat) (z_came : Nat → Int32) (z_under : Nat → Int32) (z_due : Nat → Int32) (r21 : Int32 → Int32 → Int32 → Int32 → Option (Int32)) (l1 : Int32) (l2 : Int32) (l3 : Int32) (l4 : Int32) : Option (Int32) :=
  (if 8 ≤ l4 then
  some (l3)
  else
  (rd 8 z_under l1).bind fun v5 =>
  (fX8_has fu v5 l4).bind fun v6 =>
  (if v6 = 0 then
  r21 l1 l2 l3 (l4 + 1)
  else
  (rd 64 z_due ((l1 * 8) + l4)).bind fun v8 =>
  (if l2 < v8 then
  r21 l1 l2 l3 (l4 + 1)
  else
  r21 l1 l2 (l3 ||| ((1 : Int32) <<< (l4 &&& 31))) (l4 + 1))))
def fX5_cameBy_b21 (fu : Nat) (z_came : Nat → Int32) (z_under : Nat → Int32) (z_due : Nat → Int32) : Nat → Int32 → Int32 → Int32 → Int32 → Option (Int32)
  | 0, _, _, _, _ => none
  | n + 1, l1, l2, l3, l4 => fX5_cameBy_b21_body fu z_came z_under z_due (fX5_cameBy_b21 fu z_came z_under z_due n) l1 l2 l3 l4
def fX5_cameBy (fu : Nat) (z_came : Nat → Int32) (z_under : Nat → Int32) (z_due : Nat → Int32) (p1 : Int32) (p2 : Int32) : Option (Int32) :=
  (rd 8 z_came p1).bind fun v1 =>
  (rd 8 z_under p1).bind fun v2 =>
  (if v2 = 0 then
  some (v1)
  else
  fX5_cameBy_b21 fu z_came z_under z_due fu p1 p2 v1 0)
-- HalfPlanks$Promises.pass()I
def fX5_pass_b14_body (fu : Nat) (z_due : Nat → Int32) (r14 : Int32 → Int32 → Int32 → (Nat → Int32) → (Nat → Int32) → Option (Int32 × Int32 × (Nat → Int32) × (Nat → Int32))) (l1 : Int32) (l2 : Int32) (z_day : Int32) (z_came : Nat → Int32) (z_under : Nat → Int32) : Option (Int32 × Int32 × (Nat → Int32) × (Nat → Int32)) :=
  (if 8 ≤ l2 then
  some (l1, z_day, z_came, z_under)
  else
  (fX5_cameBy fu z_came z_under z_due l2 z_day).bind fun v2 =>
  (rd 8 z_came l2).bind fun v3 =>
  (fJ6_bitCount_0f7a4 fu (v2 &&& (v3 ^^^ (-1)))).bind fun v4 =>
  (wr 8 z_came l2 v2).bind fun g5 =>
  (rd 8 z_under l2).bind fun v6 =>
  (wr 8 z_under l2 (v6 &&& (v2 ^^^ (-1)))).bind fun g7 =>
  r14 (l1 + v4) (l2 + 1) z_day g5 g7)
def fX5_pass_b14 (fu : Nat) (z_due : Nat → Int32) : Nat → Int32 → Int32 → Int32 → (Nat → Int32) → (Nat → Int32) → Option (Int32 × Int32 × (Nat → Int32) × (Nat → Int32))
  | 0, _, _, _, _, _ => none
  | n + 1, l1, l2, z_day, z_came, z_under => fX5_pass_b14_body fu z_due (fX5_pass_b14 fu z_due n) l1 l2 z_day z_came z_under
def fX5_pass (fu : Nat) (z_due : Nat → Int32) (z_day : Int32) (z_came : Nat → Int32) (z_under : Nat → Int32) : Option (Int32 × Int32 × (Nat → Int32) × (Nat → Int32)) :=
  fX5_pass_b14 fu z_due fu 0 0 (z_day + 1) z_came z_under
-- HalfPlanks.days()I
def fX8_days (fu : Nat) (gj : Nat) (z_present_crossed : Int32) (z_present_due : Nat → Int32) (z_present_day : Int32) (z_history_top : Int32) (z_present_came : Nat → Int32) (z_history_ring_came : Nat → Int32) (z_present_under : Nat → Int32) (z_history_ring_under : Nat → Int32) (z_history_ring_due : Nat → Int32) (z_history_known : Int32) (z_history_ring_day : Int32) (z_history_ring_crossed : Int32) : Option (Int32 × Int32 × Int32 × (Nat → Int32) × (Nat → Int32) × (Nat → Int32) × (Nat → Int32) × (Nat → Int32) × Int32 × Int32 × Int32) :=
  (if z_present_day < 999 then
  (fX3_remember fu gj z_present_day z_present_crossed z_present_came z_present_under z_present_due z_history_top z_history_ring_came z_history_ring_under z_history_ring_due z_history_known z_history_ring_day z_history_ring_crossed).bind fun (g3, g4, g5, g6, g7, g8, g9) =>
  (fX5_pass fu z_present_due z_present_day z_present_came z_present_under).bind fun (v10, g11, g12, g13) =>
  some (v10, g11, g3, g12, g4, g13, g5, g6, g7, g8, g9)
  else
  some ((-2), z_present_day, z_history_top, z_present_came, z_history_ring_came, z_present_under, z_history_ring_under, z_history_ring_due, z_history_known, z_history_ring_day, z_history_ring_crossed))
-- HalfPlanks.isLoad(I)Z
def fX8_isLoad (fu : Nat) (p0 : Int32) : Option (Int32) :=
  (fX8_within fu p0 1 36).bind fun v1 =>
  (zb v1).bind fun v2 =>
  some (v1)
-- HalfPlanks.crosses(I)I
def fX8_crosses (fu : Nat) (gj : Nat) (z_present_came : Nat → Int32) (z_strength_borne : Nat → Int32) (z_folk_planks : Int32) (z_present_day : Int32) (z_present_under : Nat → Int32) (z_present_due : Nat → Int32) (z_present_crossed : Int32) (z_history_top : Int32) (z_history_ring_came : Nat → Int32) (z_history_ring_under : Nat → Int32) (z_history_ring_due : Nat → Int32) (z_history_known : Int32) (z_history_ring_day : Int32) (z_history_ring_crossed : Int32) (p1 : Int32) : Option (Int32 × Int32 × Int32 × (Nat → Int32) × (Nat → Int32) × (Nat → Int32) × Int32 × Int32 × Int32) :=
  (fX8_isLoad fu p1).bind fun v1 =>
  (if v1 = 0 then
  some ((-1), z_present_crossed, z_history_top, z_history_ring_came, z_history_ring_under, z_history_ring_due, z_history_known, z_history_ring_day, z_history_ring_crossed)
  else
  (if 999 ≤ z_present_crossed then
  some ((-2), z_present_crossed, z_history_top, z_history_ring_came, z_history_ring_under, z_history_ring_due, z_history_known, z_history_ring_day, z_history_ring_crossed)
  else
  (fX7_bridge fu z_present_came z_strength_borne z_folk_planks 0).bind fun v4 =>
  (if p1 ≤ v4 then
  (fX3_remember fu gj z_present_day z_present_crossed z_present_came z_present_under z_present_due z_history_top z_history_ring_came z_history_ring_under z_history_ring_due z_history_known z_history_ring_day z_history_ring_crossed).bind fun (g7, g8, g9, g10, g11, g12, g13) =>
  some ((z_present_crossed + 1), (z_present_crossed + 1), g7, g8, g9, g10, g11, g12, g13)
  else
  some ((-2), z_present_crossed, z_history_top, z_history_ring_came, z_history_ring_under, z_history_ring_due, z_history_known, z_history_ring_day, z_history_ring_crossed))))
-- HalfPlanks$History.restore(LHalfPlanks$Promises;)V
def fX3_restore_b27 (fu : Nat) (gj : Nat) (z_ring_day : Int32) (z_ring_crossed : Int32) (z_ring_came : Nat → Int32) (z_ring_under : Nat → Int32) (z_ring_due : Nat → Int32) (s0 : Int32) (z_known : Int32) (z_top : Int32) (z_p1_came : Nat → Int32) (z_p1_under : Nat → Int32) (z_p1_due : Nat → Int32) (z_p1_day : Int32) (z_p1_crossed : Int32) : Option (Int32 × Int32 × (Nat → Int32) × (Nat → Int32) × (Nat → Int32) × Int32 × Int32) :=
  (rj 10 s0 gj).bind fun j3 =>
  (fX5_become fu z_ring_day z_ring_crossed z_ring_came z_ring_under z_ring_due z_p1_came z_p1_under z_p1_due z_p1_day z_p1_crossed).bind fun (g5, g6, g7, g8, g9) =>
  some ((z_known - 1), s0, g5, g6, g7, g8, g9)
def fX3_restore (fu : Nat) (gj : Nat) (z_ring_day : Int32) (z_ring_crossed : Int32) (z_ring_came : Nat → Int32) (z_ring_under : Nat → Int32) (z_ring_due : Nat → Int32) (z_known : Int32) (z_top : Int32) (z_p1_came : Nat → Int32) (z_p1_under : Nat → Int32) (z_p1_due : Nat → Int32) (z_p1_day : Int32) (z_p1_crossed : Int32) : Option (Int32 × Int32 × (Nat → Int32) × (Nat → Int32) × (Nat → Int32) × Int32 × Int32) :=
  (if 0 < z_known then
  (if z_top ≤ 0 then
  fX3_restore_b27 fu gj z_ring_day z_ring_crossed z_ring_came z_ring_under z_ring_due 9 z_known z_top z_p1_came z_p1_under z_p1_due z_p1_day z_p1_crossed
  else
  fX3_restore_b27 fu gj z_ring_day z_ring_crossed z_ring_came z_ring_under z_ring_due (z_top - 1) z_known z_top z_p1_came z_p1_under z_p1_due z_p1_day z_p1_crossed)
  else
  some (z_known, z_top, z_p1_came, z_p1_under, z_p1_due, z_p1_day, z_p1_crossed))
-- HalfPlanks.undo()I
def fX8_undo (fu : Nat) (gj : Nat) (z_history_ring_day : Int32) (z_history_ring_crossed : Int32) (z_history_ring_came : Nat → Int32) (z_history_ring_under : Nat → Int32) (z_history_ring_due : Nat → Int32) (z_history_known : Int32) (z_history_top : Int32) (z_present_came : Nat → Int32) (z_present_under : Nat → Int32) (z_present_due : Nat → Int32) (z_present_day : Int32) (z_present_crossed : Int32) : Option (Int32 × Int32 × Int32 × (Nat → Int32) × (Nat → Int32) × (Nat → Int32) × Int32 × Int32) :=
  (if 0 < z_history_known then
  (fX3_restore fu gj z_history_ring_day z_history_ring_crossed z_history_ring_came z_history_ring_under z_history_ring_due z_history_known z_history_top z_present_came z_present_under z_present_due z_present_day z_present_crossed).bind fun (g3, g4, g5, g6, g7, g8, g9) =>
  some (g3, g3, g4, g5, g6, g7, g8, g9)
  else
  some ((-2), z_history_known, z_history_top, z_present_came, z_present_under, z_present_due, z_present_day, z_present_crossed))
-- HalfPlanks$Planner.bearsBehind(II)Z
def fX4_bearsBehind_b2_body (fu : Nat) (z_folk_planks : Int32) (z_present_day : Int32) (z_present_came : Nat → Int32) (z_present_under : Nat → Int32) (z_present_due : Nat → Int32) (z_strength_borne : Nat → Int32) (r2 : Int32 → Int32 → Int32 → Option (Int32)) (l1 : Int32) (l2 : Int32) (l3 : Int32) : Option (Int32) :=
  (if z_folk_planks ≤ l3 then
  some (1)
  else
  (fX5_cameBy fu z_present_came z_present_under z_present_due l3 (z_present_day + l1)).bind fun v2 =>
  (fX7_of fu z_strength_borne l3 v2).bind fun v3 =>
  (if l2 ≤ v3 then
  r2 l1 l2 (l3 + 1)
  else
  some (0)))
def fX4_bearsBehind_b2 (fu : Nat) (z_folk_planks : Int32) (z_present_day : Int32) (z_present_came : Nat → Int32) (z_present_under : Nat → Int32) (z_present_due : Nat → Int32) (z_strength_borne : Nat → Int32) : Nat → Int32 → Int32 → Int32 → Option (Int32)
  | 0, _, _, _ => none
  | n + 1, l1, l2, l3 => fX4_bearsBehind_b2_body fu z_folk_planks z_present_day z_present_came z_present_under z_present_due z_strength_borne (fX4_bearsBehind_b2 fu z_folk_planks z_present_day z_present_came z_present_under z_present_due z_strength_borne n) l1 l2 l3
def fX4_bearsBehind (fu : Nat) (z_folk_planks : Int32) (z_present_day : Int32) (z_present_came : Nat → Int32) (z_present_under : Nat → Int32) (z_present_due : Nat → Int32) (z_strength_borne : Nat → Int32) (p1 : Int32) (p2 : Int32) : Option (Int32) :=
  fX4_bearsBehind_b2 fu z_folk_planks z_present_day z_present_came z_present_under z_present_due z_strength_borne fu p1 p2 0
-- HalfPlanks$Planner.firstBorne(I)I
def fX4_firstBorne_b2_body (fu : Nat) (z_folk_planks : Int32) (z_present_day : Int32) (z_present_came : Nat → Int32) (z_present_under : Nat → Int32) (z_present_due : Nat → Int32) (z_strength_borne : Nat → Int32) (r2 : Int32 → Int32 → Option (Int32)) (l1 : Int32) (l2 : Int32) : Option (Int32) :=
  (if 20 < l2 then
  some ((-9))
  else
  (fX4_bearsBehind fu z_folk_planks z_present_day z_present_came z_present_under z_present_due z_strength_borne l2 l1).bind fun v2 =>
  (if v2 = 0 then
  r2 l1 (l2 + 1)
  else
  some (l2)))
def fX4_firstBorne_b2 (fu : Nat) (z_folk_planks : Int32) (z_present_day : Int32) (z_present_came : Nat → Int32) (z_present_under : Nat → Int32) (z_present_due : Nat → Int32) (z_strength_borne : Nat → Int32) : Nat → Int32 → Int32 → Option (Int32)
  | 0, _, _ => none
  | n + 1, l1, l2 => fX4_firstBorne_b2_body fu z_folk_planks z_present_day z_present_came z_present_under z_present_due z_strength_borne (fX4_firstBorne_b2 fu z_folk_planks z_present_day z_present_came z_present_under z_present_due z_strength_borne n) l1 l2
def fX4_firstBorne (fu : Nat) (z_folk_planks : Int32) (z_present_day : Int32) (z_present_came : Nat → Int32) (z_present_under : Nat → Int32) (z_present_due : Nat → Int32) (z_strength_borne : Nat → Int32) (p1 : Int32) : Option (Int32) :=
  fX4_firstBorne_b2 fu z_folk_planks z_present_day z_present_came z_present_under z_present_due z_strength_borne fu p1 0
-- HalfPlanks.when(I)I
def fX8_when (fu : Nat) (z_folk_planks : Int32) (z_present_day : Int32) (z_present_came : Nat → Int32) (z_present_under : Nat → Int32) (z_present_due : Nat → Int32) (z_strength_borne : Nat → Int32) (p1 : Int32) : Option (Int32) :=
  (fX8_isLoad fu p1).bind fun v1 =>
  (if v1 = 0 then
  some ((-1))
  else
  (fX4_firstBorne fu z_folk_planks z_present_day z_present_came z_present_under z_present_due z_strength_borne p1).bind fun v3 =>
  some (v3))
-- HalfPlanks$Planner.fewestAdded(IIII)I
def fX4_fewestAdded_b77_body (fu : Nat) (z_strength_borne : Nat → Int32) (z_folk_size : Int32) (r22 : Int32 → Int32 → Int32 → Int32 → Int32 → Int32 → Option (Int32)) (r77 : Int32 → Int32 → Int32 → Int32 → Int32 → Int32 → Int32 → Int32 → Option (Int32)) (l1 : Int32) (l2 : Int32) (l3 : Int32) (l4 : Int32) (l5 : Int32) (l6 : Int32) (l7 : Int32) (l8 : Int32) : Option (Int32) :=
  (if z_folk_size ≤ l8 then
  r22 l1 l2 l3 l4 l5 (l6 + 1)
  else
  (if l5 = (-9) then
  (fX8_has fu l4 l8).bind fun v10 =>
  (if v10 = 0 then
  r77 l1 l2 l3 l4 l5 l6 l7 (l8 + 1)
  else
  (fX7_of fu z_strength_borne l2 (l7 ||| ((1 : Int32) <<< (l8 &&& 31)))).bind fun v12 =>
  (if v12 < l1 then
  r77 l1 l2 l3 l4 l5 l6 l7 (l8 + 1)
  else
  r77 l1 l2 l3 l4 2 l6 l7 (l8 + 1)))
  else
  r22 l1 l2 l3 l4 l5 (l6 + 1)))
def fX4_fewestAdded_b77 (fu : Nat) (z_strength_borne : Nat → Int32) (z_folk_size : Int32) (r22 : Int32 → Int32 → Int32 → Int32 → Int32 → Int32 → Option (Int32)) : Nat → Int32 → Int32 → Int32 → Int32 → Int32 → Int32 → Int32 → Int32 → Option (Int32)
  | 0, _, _, _, _, _, _, _, _ => none
  | n + 1, l1, l2, l3, l4, l5, l6, l7, l8 => fX4_fewestAdded_b77_body fu z_strength_borne z_folk_size r22 (fX4_fewestAdded_b77 fu z_strength_borne z_folk_size r22 n) l1 l2 l3 l4 l5 l6 l7 l8
def fX4_fewestAdded_b22_body (fu : Nat) (z_strength_borne : Nat → Int32) (z_folk_size : Int32) (r22 : Int32 → Int32 → Int32 → Int32 → Int32 → Int32 → Option (Int32)) (l1 : Int32) (l2 : Int32) (l3 : Int32) (l4 : Int32) (l5 : Int32) (l6 : Int32) : Option (Int32) :=
  (if z_folk_size ≤ l6 then
  some (l5)
  else
  (fX8_has fu l4 l6).bind fun v4 =>
  (if v4 = 0 then
  r22 l1 l2 l3 l4 l5 (l6 + 1)
  else
  (fX7_of fu z_strength_borne l2 (l3 ||| ((1 : Int32) <<< (l6 &&& 31)))).bind fun v6 =>
  (if v6 < l1 then
  fX4_fewestAdded_b77 fu z_strength_borne z_folk_size r22 fu l1 l2 l3 l4 l5 l6 (l3 ||| ((1 : Int32) <<< (l6 &&& 31))) (l6 + 1)
  else
  some (1))))
def fX4_fewestAdded_b22 (fu : Nat) (z_strength_borne : Nat → Int32) (z_folk_size : Int32) : Nat → Int32 → Int32 → Int32 → Int32 → Int32 → Int32 → Option (Int32)
  | 0, _, _, _, _, _, _ => none
  | n + 1, l1, l2, l3, l4, l5, l6 => fX4_fewestAdded_b22_body fu z_strength_borne z_folk_size (fX4_fewestAdded_b22 fu z_strength_borne z_folk_size n) l1 l2 l3 l4 l5 l6
def fX4_fewestAdded (fu : Nat) (z_strength_borne : Nat → Int32) (z_folk_size : Int32) (p1 : Int32) (p2 : Int32) (p3 : Int32) (p4 : Int32) : Option (Int32) :=
  (fX7_of fu z_strength_borne p2 p3).bind fun v1 =>
  (if v1 < p1 then
  fX4_fewestAdded_b22 fu z_strength_borne z_folk_size fu p1 p2 p3 p4 (-9) 0
  else
  some (0))
-- HalfPlanks$Planner.moreFor(II)I
def fX4_moreFor (fu : Nat) (z_present_came : Nat → Int32) (z_present_under : Nat → Int32) (z_folk_size : Int32) (z_strength_borne : Nat → Int32) (p1 : Int32) (p2 : Int32) : Option (Int32) :=
  (rd 8 z_present_came p2).bind fun v1 =>
  (rd 8 z_present_under p2).bind fun v2 =>
  (fX0_everyone fu z_folk_size).bind fun v3 =>
  (fX4_fewestAdded fu z_strength_borne z_folk_size p1 p2 (v1 ||| v2) (v3 &&& ((v1 ||| v2) ^^^ (-1)))).bind fun v4 =>
  some (v4)
-- HalfPlanks$Planner.moreForAll(I)I
def fX4_moreForAll_b4_body (fu : Nat) (z_folk_planks : Int32) (z_present_came : Nat → Int32) (z_present_under : Nat → Int32) (z_folk_size : Int32) (z_strength_borne : Nat → Int32) (r4 : Int32 → Int32 → Int32 → Option (Int32)) (l1 : Int32) (l2 : Int32) (l3 : Int32) : Option (Int32) :=
  (if z_folk_planks ≤ l3 then
  some (l2)
  else
  (fX4_moreFor fu z_present_came z_present_under z_folk_size z_strength_borne l1 l3).bind fun v2 =>
  (if v2 = (-9) then
  some ((-9))
  else
  r4 l1 (l2 + v2) (l3 + 1)))
def fX4_moreForAll_b4 (fu : Nat) (z_folk_planks : Int32) (z_present_came : Nat → Int32) (z_present_under : Nat → Int32) (z_folk_size : Int32) (z_strength_borne : Nat → Int32) : Nat → Int32 → Int32 → Int32 → Option (Int32)
  | 0, _, _, _ => none
  | n + 1, l1, l2, l3 => fX4_moreForAll_b4_body fu z_folk_planks z_present_came z_present_under z_folk_size z_strength_borne (fX4_moreForAll_b4 fu z_folk_planks z_present_came z_present_under z_folk_size z_strength_borne n) l1 l2 l3
def fX4_moreForAll (fu : Nat) (z_folk_planks : Int32) (z_present_came : Nat → Int32) (z_present_under : Nat → Int32) (z_folk_size : Int32) (z_strength_borne : Nat → Int32) (p1 : Int32) : Option (Int32) :=
  fX4_moreForAll_b4 fu z_folk_planks z_present_came z_present_under z_folk_size z_strength_borne fu p1 0 0
-- HalfPlanks.fewest(II)I
def fX8_fewest (fu : Nat) (z_folk_planks : Int32) (z_present_came : Nat → Int32) (z_present_under : Nat → Int32) (z_folk_size : Int32) (z_strength_borne : Nat → Int32) (p1 : Int32) (p2 : Int32) : Option (Int32) :=
  (fX8_isLoad fu p1).bind fun v1 =>
  (if v1 = 0 then
  some ((-1))
  else
  (if p2 = (-1) then
  (fX4_moreForAll fu z_folk_planks z_present_came z_present_under z_folk_size z_strength_borne p1).bind fun v7 =>
  some (v7)
  else
  (fX0_hasPlank fu z_folk_planks p2).bind fun v4 =>
  (if v4 = 0 then
  some ((-1))
  else
  (fX4_moreFor fu z_present_came z_present_under z_folk_size z_strength_borne p1 p2).bind fun v6 =>
  some (v6))))
-- HalfPlanks$Planner.quickEnough(I)I
def fX4_quickEnough_b4_body (fu : Nat) (z_folk_size : Int32) (z_folk_slow : Nat → Int32) (r4 : Int32 → Int32 → Int32 → Option (Int32)) (l1 : Int32) (l2 : Int32) (l3 : Int32) : Option (Int32) :=
  (if z_folk_size ≤ l3 then
  some (l2)
  else
  (rd 8 z_folk_slow l3).bind fun v2 =>
  (if l1 < v2 then
  r4 l1 l2 (l3 + 1)
  else
  r4 l1 (l2 ||| ((1 : Int32) <<< (l3 &&& 31))) (l3 + 1)))
def fX4_quickEnough_b4 (fu : Nat) (z_folk_size : Int32) (z_folk_slow : Nat → Int32) : Nat → Int32 → Int32 → Int32 → Option (Int32)
  | 0, _, _, _ => none
  | n + 1, l1, l2, l3 => fX4_quickEnough_b4_body fu z_folk_size z_folk_slow (fX4_quickEnough_b4 fu z_folk_size z_folk_slow n) l1 l2 l3
def fX4_quickEnough (fu : Nat) (z_folk_size : Int32) (z_folk_slow : Nat → Int32) (p1 : Int32) : Option (Int32) :=
  fX4_quickEnough_b4 fu z_folk_size z_folk_slow fu p1 0 0
-- HalfPlanks$Planner.possibleBehind(II)Z
def fX4_possibleBehind_b9_body (fu : Nat) (z_folk_size : Int32) (z_folk_slow : Nat → Int32) (z_folk_planks : Int32) (z_present_day : Int32) (z_present_came : Nat → Int32) (z_present_under : Nat → Int32) (z_present_due : Nat → Int32) (z_strength_borne : Nat → Int32) (r9 : Int32 → Int32 → Int32 → Int32 → Option (Int32)) (l1 : Int32) (l2 : Int32) (l3 : Int32) (l4 : Int32) : Option (Int32) :=
  (if z_folk_planks ≤ l4 then
  some (1)
  else
  (fX5_cameBy fu z_present_came z_present_under z_present_due l4 (z_present_day + l1)).bind fun v3 =>
  (rd 8 z_present_came l4).bind fun v4 =>
  (rd 8 z_present_under l4).bind fun v5 =>
  (fX4_fewestAdded fu z_strength_borne z_folk_size l2 l4 v3 (l3 &&& ((v4 ||| v5) ^^^ (-1)))).bind fun v6 =>
  (if v6 = (-9) then
  some (0)
  else
  r9 l1 l2 l3 (l4 + 1)))
def fX4_possibleBehind_b9 (fu : Nat) (z_folk_size : Int32) (z_folk_slow : Nat → Int32) (z_folk_planks : Int32) (z_present_day : Int32) (z_present_came : Nat → Int32) (z_present_under : Nat → Int32) (z_present_due : Nat → Int32) (z_strength_borne : Nat → Int32) : Nat → Int32 → Int32 → Int32 → Int32 → Option (Int32)
  | 0, _, _, _, _ => none
  | n + 1, l1, l2, l3, l4 => fX4_possibleBehind_b9_body fu z_folk_size z_folk_slow z_folk_planks z_present_day z_present_came z_present_under z_present_due z_strength_borne (fX4_possibleBehind_b9 fu z_folk_size z_folk_slow z_folk_planks z_present_day z_present_came z_present_under z_present_due z_strength_borne n) l1 l2 l3 l4
def fX4_possibleBehind (fu : Nat) (z_folk_size : Int32) (z_folk_slow : Nat → Int32) (z_folk_planks : Int32) (z_present_day : Int32) (z_present_came : Nat → Int32) (z_present_under : Nat → Int32) (z_present_due : Nat → Int32) (z_strength_borne : Nat → Int32) (p1 : Int32) (p2 : Int32) : Option (Int32) :=
  (fX4_quickEnough fu z_folk_size z_folk_slow p1).bind fun v1 =>
  fX4_possibleBehind_b9 fu z_folk_size z_folk_slow z_folk_planks z_present_day z_present_came z_present_under z_present_due z_strength_borne fu p1 p2 v1 0
-- HalfPlanks$Planner.firstPossible(I)I
def fX4_firstPossible_b2_body (fu : Nat) (z_folk_size : Int32) (z_folk_slow : Nat → Int32) (z_folk_planks : Int32) (z_present_day : Int32) (z_present_came : Nat → Int32) (z_present_under : Nat → Int32) (z_present_due : Nat → Int32) (z_strength_borne : Nat → Int32) (r2 : Int32 → Int32 → Option (Int32)) (l1 : Int32) (l2 : Int32) : Option (Int32) :=
  (if 20 < l2 then
  some ((-9))
  else
  (fX4_possibleBehind fu z_folk_size z_folk_slow z_folk_planks z_present_day z_present_came z_present_under z_present_due z_strength_borne l2 l1).bind fun v2 =>
  (if v2 = 0 then
  r2 l1 (l2 + 1)
  else
  some (l2)))
def fX4_firstPossible_b2 (fu : Nat) (z_folk_size : Int32) (z_folk_slow : Nat → Int32) (z_folk_planks : Int32) (z_present_day : Int32) (z_present_came : Nat → Int32) (z_present_under : Nat → Int32) (z_present_due : Nat → Int32) (z_strength_borne : Nat → Int32) : Nat → Int32 → Int32 → Option (Int32)
  | 0, _, _ => none
  | n + 1, l1, l2 => fX4_firstPossible_b2_body fu z_folk_size z_folk_slow z_folk_planks z_present_day z_present_came z_present_under z_present_due z_strength_borne (fX4_firstPossible_b2 fu z_folk_size z_folk_slow z_folk_planks z_present_day z_present_came z_present_under z_present_due z_strength_borne n) l1 l2
def fX4_firstPossible (fu : Nat) (z_folk_size : Int32) (z_folk_slow : Nat → Int32) (z_folk_planks : Int32) (z_present_day : Int32) (z_present_came : Nat → Int32) (z_present_under : Nat → Int32) (z_present_due : Nat → Int32) (z_strength_borne : Nat → Int32) (p1 : Int32) : Option (Int32) :=
  fX4_firstPossible_b2 fu z_folk_size z_folk_slow z_folk_planks z_present_day z_present_came z_present_under z_present_due z_strength_borne fu p1 0
-- HalfPlanks.soon(I)I
def fX8_soon (fu : Nat) (z_folk_size : Int32) (z_folk_slow : Nat → Int32) (z_folk_planks : Int32) (z_present_day : Int32) (z_present_came : Nat → Int32) (z_present_under : Nat → Int32) (z_present_due : Nat → Int32) (z_strength_borne : Nat → Int32) (p1 : Int32) : Option (Int32) :=
  (fX8_isLoad fu p1).bind fun v1 =>
  (if v1 = 0 then
  some ((-1))
  else
  (fX4_firstPossible fu z_folk_size z_folk_slow z_folk_planks z_present_day z_present_came z_present_under z_present_due z_strength_borne p1).bind fun v3 =>
  some (v3))
-- HalfPlanks.pair(III)I
def fX8_pair (fu : Nat) (z_folk_size : Int32) (z_folk_planks : Int32) (z_folk_bank : Nat → Int32) (z_present_came : Nat → Int32) (z_present_under : Nat → Int32) (z_folk_slow : Nat → Int32) (p1 : Int32) (p2 : Int32) (p3 : Int32) : Option (Int32) :=
  (fX0_hasPerson fu z_folk_size p1).bind fun v1 =>
  (if v1 = 0 then
  some ((-1))
  else
  (fX0_hasPerson fu z_folk_size p2).bind fun v3 =>
  (if v3 = 0 then
  some ((-1))
  else
  (fX0_hasPlank fu z_folk_planks p3).bind fun v5 =>
  (if v5 = 0 then
  some ((-1))
  else
  (rd 8 z_folk_bank p1).bind fun v7 =>
  (rd 8 z_folk_bank p2).bind fun v8 =>
  (if v7 = v8 then
  some ((-2))
  else
  (fX5_gave fu z_present_came z_present_under p1 p3).bind fun v10 =>
  (if v10 = 0 then
  (fX5_gave fu z_present_came z_present_under p2 p3).bind fun v12 =>
  (if v12 = 0 then
  (rd 8 z_present_under p3).bind fun v14 =>
  (if v14 = 0 then
  (rd 8 z_folk_slow p1).bind fun v16 =>
  (rd 8 z_folk_slow p2).bind fun v17 =>
  some ((mn (mn (mx v16 (v17 + 1)) (mx (v16 + 1) v17)) (v16 + v17)))
  else
  some ((-2)))
  else
  some ((-2)))
  else
  some ((-2)))))))
-- HalfPlanks$Planner.bearsAll(II)Z
def fX4_bearsAll_b2_body (fu : Nat) (z_folk_planks : Int32) (z_strength_borne : Nat → Int32) (r2 : Int32 → Int32 → Int32 → Option (Int32)) (l1 : Int32) (l2 : Int32) (l3 : Int32) : Option (Int32) :=
  (if z_folk_planks ≤ l3 then
  some (1)
  else
  (fX7_of fu z_strength_borne l3 l1).bind fun v2 =>
  (if l2 ≤ v2 then
  r2 l1 l2 (l3 + 1)
  else
  some (0)))
def fX4_bearsAll_b2 (fu : Nat) (z_folk_planks : Int32) (z_strength_borne : Nat → Int32) : Nat → Int32 → Int32 → Int32 → Option (Int32)
  | 0, _, _, _ => none
  | n + 1, l1, l2, l3 => fX4_bearsAll_b2_body fu z_folk_planks z_strength_borne (fX4_bearsAll_b2 fu z_folk_planks z_strength_borne n) l1 l2 l3
def fX4_bearsAll (fu : Nat) (z_folk_planks : Int32) (z_strength_borne : Nat → Int32) (p1 : Int32) (p2 : Int32) : Option (Int32) :=
  fX4_bearsAll_b2 fu z_folk_planks z_strength_borne fu p1 p2 0
-- HalfPlanks$Planner.fewestPeople(I)I
def fX4_fewestPeople_b9_body (fu : Nat) (z_folk_size : Int32) (z_folk_planks : Int32) (z_strength_borne : Nat → Int32) (r9 : Int32 → Int32 → Int32 → Int32 → Option (Int32)) (l1 : Int32) (l2 : Int32) (l3 : Int32) (l4 : Int32) : Option (Int32) :=
  (fX0_everyone fu z_folk_size).bind fun v1 =>
  (if v1 < l4 then
  some (l2)
  else
  (fJ6_bitCount_0f7a4 fu l4).bind fun v3 =>
  (if l3 ≤ v3 then
  r9 l1 l2 l3 (l4 + 1)
  else
  (fX4_bearsAll fu z_folk_planks z_strength_borne l4 l1).bind fun v5 =>
  (if v5 = 0 then
  r9 l1 l2 l3 (l4 + 1)
  else
  (fJ6_bitCount_0f7a4 fu l4).bind fun v7 =>
  r9 l1 l4 v7 (l4 + 1))))
def fX4_fewestPeople_b9 (fu : Nat) (z_folk_size : Int32) (z_folk_planks : Int32) (z_strength_borne : Nat → Int32) : Nat → Int32 → Int32 → Int32 → Int32 → Option (Int32)
  | 0, _, _, _, _ => none
  | n + 1, l1, l2, l3, l4 => fX4_fewestPeople_b9_body fu z_folk_size z_folk_planks z_strength_borne (fX4_fewestPeople_b9 fu z_folk_size z_folk_planks z_strength_borne n) l1 l2 l3 l4
def fX4_fewestPeople (fu : Nat) (z_folk_size : Int32) (z_folk_planks : Int32) (z_strength_borne : Nat → Int32) (p1 : Int32) : Option (Int32) :=
  fX4_fewestPeople_b9 fu z_folk_size z_folk_planks z_strength_borne fu p1 (-9) 9 1
-- HalfPlanks.enough(I)I
def fX8_enough (fu : Nat) (z_folk_size : Int32) (z_folk_planks : Int32) (z_strength_borne : Nat → Int32) (p1 : Int32) : Option (Int32) :=
  (fX8_isLoad fu p1).bind fun v1 =>
  (if v1 = 0 then
  some ((-1))
  else
  (fX4_fewestPeople fu z_folk_size z_folk_planks z_strength_borne p1).bind fun v3 =>
  some (v3))
-- HalfPlanks$Planner.mostPairs(LHalfPlanks$Strength;IIIII)I
def fX4_mostPairs_b202 (fu : Nat) (z_p0_borne : Nat → Int32) (rc : Int32 → Int32 → Int32 → Int32 → Int32 → Option (Int32)) (l1 : Int32) (l2 : Int32) (l4 : Int32) (l5 : Int32) (l6 : Int32) (l7 : Int32) (l8 : Int32) : Option (Int32) :=
  (if l6 ≤ l8 then
  some (l8)
  else
  (rc l1 (l2 + 1) l7 l4 l5).bind fun v9 =>
  some ((mx l8 v9)))
def fX4_mostPairs_b155 (fu : Nat) (z_p0_borne : Nat → Int32) (rc : Int32 → Int32 → Int32 → Int32 → Int32 → Option (Int32)) (r68 : Int32 → Int32 → Int32 → Int32 → Int32 → Int32 → Int32 → Int32 → Option (Int32)) (l1 : Int32) (l2 : Int32) (l4 : Int32) (l5 : Int32) (l6 : Int32) (l7 : Int32) (l8 : Int32) (l9 : Int32) (l10 : Int32) (l11 : Int32) : Option (Int32) :=
  (if l5 ≤ 0 then
  r68 l1 l2 l4 l5 l6 l7 l8 (l9 + 1)
  else
  (fX7_of fu z_p0_borne 1 l10).bind fun v15 =>
  (if v15 < l1 then
  r68 l1 l2 l4 l5 l6 l7 l8 (l9 + 1)
  else
  (rc l1 (l2 + 1) l11 l4 (l5 - 1)).bind fun v17 =>
  r68 l1 l2 l4 l5 l6 l7 (mx l8 (1 + v17)) (l9 + 1)))
def fX4_mostPairs_b68_body (fu : Nat) (z_p0_borne : Nat → Int32) (rc : Int32 → Int32 → Int32 → Int32 → Int32 → Option (Int32)) (r68 : Int32 → Int32 → Int32 → Int32 → Int32 → Int32 → Int32 → Int32 → Option (Int32)) (l1 : Int32) (l2 : Int32) (l4 : Int32) (l5 : Int32) (l6 : Int32) (l7 : Int32) (l8 : Int32) (l9 : Int32) : Option (Int32) :=
  (if 8 ≤ l9 then
  fX4_mostPairs_b202 fu z_p0_borne rc l1 l2 l4 l5 l6 l7 l8
  else
  (if l6 ≤ l8 then
  fX4_mostPairs_b202 fu z_p0_borne rc l1 l2 l4 l5 l6 l7 l8
  else
  (fX8_has fu l7 l9).bind fun v11 =>
  (if v11 = 0 then
  r68 l1 l2 l4 l5 l6 l7 l8 (l9 + 1)
  else
  (if l4 ≤ 0 then
  fX4_mostPairs_b155 fu z_p0_borne rc r68 l1 l2 l4 l5 l6 l7 l8 l9 (((1 : Int32) <<< (l2 &&& 31)) ||| ((1 : Int32) <<< (l9 &&& 31))) (l7 &&& ((((1 : Int32) <<< (l2 &&& 31)) ||| ((1 : Int32) <<< (l9 &&& 31))) ^^^ (-1)))
  else
  (fX7_of fu z_p0_borne 0 (((1 : Int32) <<< (l2 &&& 31)) ||| ((1 : Int32) <<< (l9 &&& 31)))).bind fun v18 =>
  (if v18 < l1 then
  fX4_mostPairs_b155 fu z_p0_borne rc r68 l1 l2 l4 l5 l6 l7 l8 l9 (((1 : Int32) <<< (l2 &&& 31)) ||| ((1 : Int32) <<< (l9 &&& 31))) (l7 &&& ((((1 : Int32) <<< (l2 &&& 31)) ||| ((1 : Int32) <<< (l9 &&& 31))) ^^^ (-1)))
  else
  (rc l1 (l2 + 1) (l7 &&& ((((1 : Int32) <<< (l2 &&& 31)) ||| ((1 : Int32) <<< (l9 &&& 31))) ^^^ (-1))) (l4 - 1) l5).bind fun v20 =>
  fX4_mostPairs_b155 fu z_p0_borne rc r68 l1 l2 l4 l5 l6 l7 (mx l8 (1 + v20)) l9 (((1 : Int32) <<< (l2 &&& 31)) ||| ((1 : Int32) <<< (l9 &&& 31))) (l7 &&& ((((1 : Int32) <<< (l2 &&& 31)) ||| ((1 : Int32) <<< (l9 &&& 31))) ^^^ (-1))))))))
def fX4_mostPairs_b68 (fu : Nat) (z_p0_borne : Nat → Int32) (rc : Int32 → Int32 → Int32 → Int32 → Int32 → Option (Int32)) : Nat → Int32 → Int32 → Int32 → Int32 → Int32 → Int32 → Int32 → Int32 → Option (Int32)
  | 0, _, _, _, _, _, _, _, _ => none
  | n + 1, l1, l2, l4, l5, l6, l7, l8, l9 => fX4_mostPairs_b68_body fu z_p0_borne rc (fX4_mostPairs_b68 fu z_p0_borne rc n) l1 l2 l4 l5 l6 l7 l8 l9
def fX4_mostPairs_rb (fu : Nat) (z_p0_borne : Nat → Int32) (rc : Int32 → Int32 → Int32 → Int32 → Int32 → Option (Int32)) (p1 : Int32) (p2 : Int32) (p3 : Int32) (p4 : Int32) (p5 : Int32) : Option (Int32) :=
  (fJ6_bitCount_0f7a4 fu p3).bind fun v1 =>
  (dvI v1 2).bind fun v2 =>
  (if 8 ≤ p2 then
  some (0)
  else
  (if 0 < (mn v2 (p4 + p5)) then
  (fX8_has fu p3 p2).bind fun v5 =>
  (if v5 = 0 then
  (rc p1 (p2 + 1) p3 p4 p5).bind fun v21 =>
  some (v21)
  else
  fX4_mostPairs_b68 fu z_p0_borne rc fu p1 p2 p4 p5 (mn v2 (p4 + p5)) (p3 &&& (((1 : Int32) <<< (p2 &&& 31)) ^^^ (-1))) 0 (p2 + 1))
  else
  some (0)))
def fX4_mostPairs (fu : Nat) (z_p0_borne : Nat → Int32) : Nat → Int32 → Int32 → Int32 → Int32 → Int32 → Option (Int32)
  | 0, _, _, _, _, _ => none
  | n + 1, p1, p2, p3, p4, p5 => fX4_mostPairs_rb fu z_p0_borne (fX4_mostPairs fu z_p0_borne n) p1 p2 p3 p4 p5
-- HalfPlanks$Planner.mostHeld(I)I
def fX4_mostHeld (fu : Nat) (z_folk_planks : Int32) (z_folk_size : Int32) (z_strength_borne : Nat → Int32) (p1 : Int32) : Option (Int32) :=
  (dvI z_folk_planks 2).bind fun v1 =>
  (fX0_everyone fu z_folk_size).bind fun v2 =>
  (fX4_mostPairs fu z_strength_borne 10 p1 0 v2 (z_folk_planks - v1) v1).bind fun v3 =>
  some (v3)
-- HalfPlanks.friends(I)I
def fX8_friends (fu : Nat) (z_folk_planks : Int32) (z_folk_size : Int32) (z_strength_borne : Nat → Int32) (p1 : Int32) : Option (Int32) :=
  (fX8_isLoad fu p1).bind fun v1 =>
  (if v1 = 0 then
  some ((-1))
  else
  (fX4_mostHeld fu z_folk_planks z_folk_size z_strength_borne p1).bind fun v3 =>
  some (v3))
-- HalfPlanks$Gambler.breakAll(I)V
def fX1_breakAll_b2_body (fu : Nat) (z_folk_planks : Int32) (r2 : Int32 → Int32 → (Nat → Int32) → (Nat → Int32) → Option ((Nat → Int32) × (Nat → Int32))) (l1 : Int32) (l2 : Int32) (z_trial_came : Nat → Int32) (z_trial_under : Nat → Int32) : Option ((Nat → Int32) × (Nat → Int32)) :=
  (if z_folk_planks ≤ l2 then
  some (z_trial_came, z_trial_under)
  else
  (fX5_drop fu z_trial_came z_trial_under l1 l2).bind fun (g3, g4) =>
  r2 l1 (l2 + 1) g3 g4)
def fX1_breakAll_b2 (fu : Nat) (z_folk_planks : Int32) : Nat → Int32 → Int32 → (Nat → Int32) → (Nat → Int32) → Option ((Nat → Int32) × (Nat → Int32))
  | 0, _, _, _, _ => none
  | n + 1, l1, l2, z_trial_came, z_trial_under => fX1_breakAll_b2_body fu z_folk_planks (fX1_breakAll_b2 fu z_folk_planks n) l1 l2 z_trial_came z_trial_under
def fX1_breakAll (fu : Nat) (z_folk_planks : Int32) (z_trial_came : Nat → Int32) (z_trial_under : Nat → Int32) (p1 : Int32) : Option ((Nat → Int32) × (Nat → Int32)) :=
  fX1_breakAll_b2 fu z_folk_planks fu p1 0 z_trial_came z_trial_under
-- HalfPlanks$Gambler.brokenLast(II)I
def fX1_brokenLast_b23_body (fu : Nat) (z_trial_came : Nat → Int32) (z_strength_borne : Nat → Int32) (z_folk_planks : Int32) (z_folk_size : Int32) (r23 : Int32 → Int32 → Int32 → Option (Int32)) (l2 : Int32) (l3 : Int32) (l4 : Int32) : Option (Int32) :=
  (if z_folk_size ≤ l4 then
  some (l3)
  else
  (if l3 ≤ l2 then
  some (l3)
  else
  (fX7_bridge fu z_trial_came z_strength_borne z_folk_planks ((1 : Int32) <<< (l4 &&& 31))).bind fun v4 =>
  r23 l2 (mn l3 v4) (l4 + 1)))
def fX1_brokenLast_b23 (fu : Nat) (z_trial_came : Nat → Int32) (z_strength_borne : Nat → Int32) (z_folk_planks : Int32) (z_folk_size : Int32) : Nat → Int32 → Int32 → Int32 → Option (Int32)
  | 0, _, _, _ => none
  | n + 1, l2, l3, l4 => fX1_brokenLast_b23_body fu z_trial_came z_strength_borne z_folk_planks z_folk_size (fX1_brokenLast_b23 fu z_trial_came z_strength_borne z_folk_planks z_folk_size n) l2 l3 l4
def fX1_brokenLast (fu : Nat) (z_trial_came : Nat → Int32) (z_strength_borne : Nat → Int32) (z_folk_planks : Int32) (z_folk_size : Int32) (p1 : Int32) (p2 : Int32) : Option (Int32) :=
  (if 0 < p1 then
  fX1_brokenLast_b23 fu z_trial_came z_strength_borne z_folk_planks z_folk_size fu p2 36 0
  else
  (fX7_bridge fu z_trial_came z_strength_borne z_folk_planks 0).bind fun v5 =>
  some (v5))
-- HalfPlanks$Gambler.mended(I)I
def fX1_mended_b53_body (fu : Nat) (z_strength_borne : Nat → Int32) (z_folk_planks : Int32) (z_folk_size : Int32) (r28 : Int32 → Int32 → Int32 → (Nat → Int32) → Option (Int32 × (Nat → Int32))) (r53 : Int32 → Int32 → Int32 → Int32 → Int32 → (Nat → Int32) → Option (Int32 × (Nat → Int32))) (l1 : Int32) (l2 : Int32) (l3 : Int32) (l4 : Int32) (l5 : Int32) (z_trial_came : Nat → Int32) : Option (Int32 × (Nat → Int32)) :=
  (if z_folk_size ≤ l5 then
  (wr 8 z_trial_came l3 l4).bind fun g6 =>
  r28 l1 l2 (l3 + 1) g6
  else
  (fX8_has fu l4 l5).bind fun v7 =>
  (if v7 = 0 then
  (wr 8 z_trial_came l3 (l4 ||| ((1 : Int32) <<< (l5 &&& 31)))).bind fun g9 =>
  (fX1_brokenLast fu g9 z_strength_borne z_folk_planks z_folk_size (l1 - 1) l2).bind fun v10 =>
  r53 l1 (mx l2 v10) l3 l4 (l5 + 1) g9
  else
  r53 l1 l2 l3 l4 (l5 + 1) z_trial_came))
def fX1_mended_b53 (fu : Nat) (z_strength_borne : Nat → Int32) (z_folk_planks : Int32) (z_folk_size : Int32) (r28 : Int32 → Int32 → Int32 → (Nat → Int32) → Option (Int32 × (Nat → Int32))) : Nat → Int32 → Int32 → Int32 → Int32 → Int32 → (Nat → Int32) → Option (Int32 × (Nat → Int32))
  | 0, _, _, _, _, _, _ => none
  | n + 1, l1, l2, l3, l4, l5, z_trial_came => fX1_mended_b53_body fu z_strength_borne z_folk_planks z_folk_size r28 (fX1_mended_b53 fu z_strength_borne z_folk_planks z_folk_size r28 n) l1 l2 l3 l4 l5 z_trial_came
def fX1_mended_b28_body (fu : Nat) (z_strength_borne : Nat → Int32) (z_folk_planks : Int32) (z_folk_size : Int32) (r28 : Int32 → Int32 → Int32 → (Nat → Int32) → Option (Int32 × (Nat → Int32))) (l1 : Int32) (l2 : Int32) (l3 : Int32) (z_trial_came : Nat → Int32) : Option (Int32 × (Nat → Int32)) :=
  (if z_folk_planks ≤ l3 then
  some (l2, z_trial_came)
  else
  (rd 8 z_trial_came l3).bind fun v4 =>
  fX1_mended_b53 fu z_strength_borne z_folk_planks z_folk_size r28 fu l1 l2 l3 v4 0 z_trial_came)
def fX1_mended_b28 (fu : Nat) (z_strength_borne : Nat → Int32) (z_folk_planks : Int32) (z_folk_size : Int32) : Nat → Int32 → Int32 → Int32 → (Nat → Int32) → Option (Int32 × (Nat → Int32))
  | 0, _, _, _, _ => none
  | n + 1, l1, l2, l3, z_trial_came => fX1_mended_b28_body fu z_strength_borne z_folk_planks z_folk_size (fX1_mended_b28 fu z_strength_borne z_folk_planks z_folk_size n) l1 l2 l3 z_trial_came
def fX1_mended (fu : Nat) (z_strength_borne : Nat → Int32) (z_folk_planks : Int32) (z_folk_size : Int32) (z_trial_came : Nat → Int32) (p1 : Int32) : Option (Int32 × (Nat → Int32)) :=
  (if 0 < p1 then
  (fX1_brokenLast fu z_trial_came z_strength_borne z_folk_planks z_folk_size (p1 - 1) 0).bind fun v2 =>
  fX1_mended_b28 fu z_strength_borne z_folk_planks z_folk_size fu p1 v2 0 z_trial_came
  else
  (fX7_bridge fu z_trial_came z_strength_borne z_folk_planks 0).bind fun v11 =>
  some (v11, z_trial_came))
-- HalfPlanks$Gambler.afterTurns(I)I
def fX1_afterTurns_b14 (fu : Nat) (z_folk_size : Int32) (z_present_came : Nat → Int32) (z_strength_borne : Nat → Int32) (z_folk_planks : Int32) (z_present_day : Int32) (z_present_crossed : Int32) (z_present_under : Nat → Int32) (z_present_due : Nat → Int32) (z_trial_came : Nat → Int32) (z_trial_under : Nat → Int32) (z_trial_due : Nat → Int32) (z_trial_day : Int32) (z_trial_crossed : Int32) : Option (Int32 × (Nat → Int32) × (Nat → Int32) × (Nat → Int32) × Int32 × Int32) :=
  (fX7_bridge fu z_present_came z_strength_borne z_folk_planks 0).bind fun v2 =>
  some (v2, z_trial_came, z_trial_under, z_trial_due, z_trial_day, z_trial_crossed)
def fX1_afterTurns_b32_body (fu : Nat) (z_folk_size : Int32) (z_present_came : Nat → Int32) (z_strength_borne : Nat → Int32) (z_folk_planks : Int32) (z_present_day : Int32) (z_present_crossed : Int32) (z_present_under : Nat → Int32) (z_present_due : Nat → Int32) (r32 : Int32 → Int32 → Int32 → (Nat → Int32) → (Nat → Int32) → (Nat → Int32) → Int32 → Int32 → Option (Int32 × (Nat → Int32) × (Nat → Int32) × (Nat → Int32) × Int32 × Int32)) (l1 : Int32) (l2 : Int32) (l3 : Int32) (z_trial_came : Nat → Int32) (z_trial_under : Nat → Int32) (z_trial_due : Nat → Int32) (z_trial_day : Int32) (z_trial_crossed : Int32) : Option (Int32 × (Nat → Int32) × (Nat → Int32) × (Nat → Int32) × Int32 × Int32) :=
  (if z_folk_size ≤ l3 then
  some (l2, z_trial_came, z_trial_under, z_trial_due, z_trial_day, z_trial_crossed)
  else
  (if l2 ≤ 0 then
  some (l2, z_trial_came, z_trial_under, z_trial_due, z_trial_day, z_trial_crossed)
  else
  (fX5_become fu z_present_day z_present_crossed z_present_came z_present_under z_present_due z_trial_came z_trial_under z_trial_due z_trial_day z_trial_crossed).bind fun (g7, g8, g9, g10, g11) =>
  (fX1_breakAll fu z_folk_planks g7 g8 l3).bind fun (g13, g14) =>
  (fX1_mended fu z_strength_borne z_folk_planks z_folk_size g13 (l1 - 1)).bind fun (v15, g16) =>
  r32 l1 (mn l2 v15) (l3 + 1) g16 g14 g9 g10 g11))
def fX1_afterTurns_b32 (fu : Nat) (z_folk_size : Int32) (z_present_came : Nat → Int32) (z_strength_borne : Nat → Int32) (z_folk_planks : Int32) (z_present_day : Int32) (z_present_crossed : Int32) (z_present_under : Nat → Int32) (z_present_due : Nat → Int32) : Nat → Int32 → Int32 → Int32 → (Nat → Int32) → (Nat → Int32) → (Nat → Int32) → Int32 → Int32 → Option (Int32 × (Nat → Int32) × (Nat → Int32) × (Nat → Int32) × Int32 × Int32)
  | 0, _, _, _, _, _, _, _, _ => none
  | n + 1, l1, l2, l3, z_trial_came, z_trial_under, z_trial_due, z_trial_day, z_trial_crossed => fX1_afterTurns_b32_body fu z_folk_size z_present_came z_strength_borne z_folk_planks z_present_day z_present_crossed z_present_under z_present_due (fX1_afterTurns_b32 fu z_folk_size z_present_came z_strength_borne z_folk_planks z_present_day z_present_crossed z_present_under z_present_due n) l1 l2 l3 z_trial_came z_trial_under z_trial_due z_trial_day z_trial_crossed
def fX1_afterTurns (fu : Nat) (z_folk_size : Int32) (z_present_came : Nat → Int32) (z_strength_borne : Nat → Int32) (z_folk_planks : Int32) (z_present_day : Int32) (z_present_crossed : Int32) (z_present_under : Nat → Int32) (z_present_due : Nat → Int32) (z_trial_came : Nat → Int32) (z_trial_under : Nat → Int32) (z_trial_due : Nat → Int32) (z_trial_day : Int32) (z_trial_crossed : Int32) (p1 : Int32) : Option (Int32 × (Nat → Int32) × (Nat → Int32) × (Nat → Int32) × Int32 × Int32) :=
  (if p1 ≤ 0 then
  fX1_afterTurns_b14 fu z_folk_size z_present_came z_strength_borne z_folk_planks z_present_day z_present_crossed z_present_under z_present_due z_trial_came z_trial_under z_trial_due z_trial_day z_trial_crossed
  else
  (if z_folk_size = 0 then
  fX1_afterTurns_b14 fu z_folk_size z_present_came z_strength_borne z_folk_planks z_present_day z_present_crossed z_present_under z_present_due z_trial_came z_trial_under z_trial_due z_trial_day z_trial_crossed
  else
  fX1_afterTurns_b32 fu z_folk_size z_present_came z_strength_borne z_folk_planks z_present_day z_present_crossed z_present_under z_present_due fu p1 36 0 z_trial_came z_trial_under z_trial_due z_trial_day z_trial_crossed))
-- HalfPlanks.byTurns(I)I
def fX8_byTurns (fu : Nat) (z_folk_size : Int32) (z_present_came : Nat → Int32) (z_strength_borne : Nat → Int32) (z_folk_planks : Int32) (z_present_day : Int32) (z_present_crossed : Int32) (z_present_under : Nat → Int32) (z_present_due : Nat → Int32) (z_gambler_trial_came : Nat → Int32) (z_gambler_trial_under : Nat → Int32) (z_gambler_trial_due : Nat → Int32) (z_gambler_trial_day : Int32) (z_gambler_trial_crossed : Int32) (p1 : Int32) : Option (Int32 × (Nat → Int32) × (Nat → Int32) × (Nat → Int32) × Int32 × Int32) :=
  (fX8_within fu p1 0 3).bind fun v1 =>
  (if v1 = 0 then
  some ((-1), z_gambler_trial_came, z_gambler_trial_under, z_gambler_trial_due, z_gambler_trial_day, z_gambler_trial_crossed)
  else
  (fX1_afterTurns fu z_folk_size z_present_came z_strength_borne z_folk_planks z_present_day z_present_crossed z_present_under z_present_due z_gambler_trial_came z_gambler_trial_under z_gambler_trial_due z_gambler_trial_day z_gambler_trial_crossed p1).bind fun (v3, g4, g5, g6, g7, g8) =>
  some (v3, g4, g5, g6, g7, g8))
-- HalfPlanks.power(II)I
def fX8_power_b4_body (fu : Nat) (r4 : Int32 → Int32 → Int32 → Int32 → Option (Int32)) (l0 : Int32) (l1 : Int32) (l2 : Int32) (l3 : Int32) : Option (Int32) :=
  (if l1 ≤ l3 then
  some (l2)
  else
  r4 l0 l1 (l2 * l0) (l3 + 1))
def fX8_power_b4 (fu : Nat) : Nat → Int32 → Int32 → Int32 → Int32 → Option (Int32)
  | 0, _, _, _, _ => none
  | n + 1, l0, l1, l2, l3 => fX8_power_b4_body fu (fX8_power_b4 fu n) l0 l1 l2 l3
def fX8_power (fu : Nat) (p0 : Int32) (p1 : Int32) : Option (Int32) :=
  fX8_power_b4 fu fu p0 p1 1 0
-- HalfPlanks$Gambler.chancesFor(II)I
def fX1_chancesFor_b5_body (fu : Nat) (z_folk_size : Int32) (z_present_came : Nat → Int32) (z_strength_borne : Nat → Int32) (z_folk_planks : Int32) (r5 : Int32 → Int32 → Int32 → Int32 → Option (Int32)) (l1 : Int32) (l2 : Int32) (l3 : Int32) (l4 : Int32) : Option (Int32) :=
  (fX0_everyone fu z_folk_size).bind fun v1 =>
  (if v1 < l4 then
  some (l3)
  else
  (fX7_bridge fu z_present_came z_strength_borne z_folk_planks l4).bind fun v3 =>
  (if v3 < l2 then
  r5 l1 l2 l3 (l4 + 1)
  else
  (fJ6_bitCount_0f7a4 fu l4).bind fun v5 =>
  (fX8_power fu l1 v5).bind fun v6 =>
  (fX8_power fu (10 - l1) (z_folk_size - v5)).bind fun v7 =>
  r5 l1 l2 (l3 + (v6 * v7)) (l4 + 1)))
def fX1_chancesFor_b5 (fu : Nat) (z_folk_size : Int32) (z_present_came : Nat → Int32) (z_strength_borne : Nat → Int32) (z_folk_planks : Int32) : Nat → Int32 → Int32 → Int32 → Int32 → Option (Int32)
  | 0, _, _, _, _ => none
  | n + 1, l1, l2, l3, l4 => fX1_chancesFor_b5_body fu z_folk_size z_present_came z_strength_borne z_folk_planks (fX1_chancesFor_b5 fu z_folk_size z_present_came z_strength_borne z_folk_planks n) l1 l2 l3 l4
def fX1_chancesFor (fu : Nat) (z_folk_size : Int32) (z_present_came : Nat → Int32) (z_strength_borne : Nat → Int32) (z_folk_planks : Int32) (p1 : Int32) (p2 : Int32) : Option (Int32) :=
  fX1_chancesFor_b5 fu z_folk_size z_present_came z_strength_borne z_folk_planks fu p1 p2 0 0
-- HalfPlanks.commonDivisor(II)I
def fX8_commonDivisor_b7_body (fu : Nat) (r7 : Int32 → Int32 → Int32 → Option (Int32)) (l2 : Int32) (l3 : Int32) (l4 : Int32) : Option (Int32) :=
  (if 64 ≤ l4 then
  some (l2)
  else
  (if l3 = 0 then
  some (l2)
  else
  (rmI l2 l3).bind fun v3 =>
  r7 l3 v3 (l4 + 1)))
def fX8_commonDivisor_b7 (fu : Nat) : Nat → Int32 → Int32 → Int32 → Option (Int32)
  | 0, _, _, _ => none
  | n + 1, l2, l3, l4 => fX8_commonDivisor_b7_body fu (fX8_commonDivisor_b7 fu n) l2 l3 l4
def fX8_commonDivisor (fu : Nat) (p0 : Int32) (p1 : Int32) : Option (Int32) :=
  fX8_commonDivisor_b7 fu fu p0 p1 0
-- HalfPlanks.odds(III)I
def fX8_odds_b80 (fu : Nat) (z_folk_size : Int32) (z_present_came : Nat → Int32) (z_strength_borne : Nat → Int32) (z_folk_planks : Int32) (l6 : Int32) (s0 : Int32) : Option (Int32) :=
  (dvI s0 l6).bind fun v12 =>
  some (v12)
def fX8_odds (fu : Nat) (z_folk_size : Int32) (z_present_came : Nat → Int32) (z_strength_borne : Nat → Int32) (z_folk_planks : Int32) (p1 : Int32) (p2 : Int32) (p3 : Int32) : Option (Int32) :=
  (fX8_within fu p1 0 10).bind fun v1 =>
  (if v1 = 0 then
  some ((-1))
  else
  (fX8_isLoad fu p2).bind fun v3 =>
  (if v3 = 0 then
  some ((-1))
  else
  (fX8_within fu p3 0 1).bind fun v5 =>
  (if v5 = 0 then
  some ((-1))
  else
  (fX1_chancesFor fu z_folk_size z_present_came z_strength_borne z_folk_planks p1 p2).bind fun v7 =>
  (fX8_power fu 10 z_folk_size).bind fun v8 =>
  (fX8_commonDivisor fu v7 v8).bind fun v9 =>
  (if 0 < v9 then
  (if p3 = 0 then
  fX8_odds_b80 fu z_folk_size z_present_came z_strength_borne z_folk_planks v9 v7
  else
  fX8_odds_b80 fu z_folk_size z_present_came z_strength_borne z_folk_planks v9 v8)
  else
  some ((-1))))))
-- HalfPlanks$Gambler.turnOne(J)V
def fX1_turnOne (fu : Nat) (z_folk_size : Int32) (z_folk_planks : Int32) (z_trial_day : Int32) (z_folk_slow : Nat → Int32) (z_folk_bank : Nat → Int32) (z_trial_came : Nat → Int32) (z_trial_under : Nat → Int32) (z_trial_due : Nat → Int32) (p1 : Int64) : Option ((Nat → Int32) × (Nat → Int32) × (Nat → Int32)) :=
  (if z_folk_size ≤ 0 then
  some (z_trial_came, z_trial_under, z_trial_due)
  else
  (if 0 < z_folk_planks then
  (rmL p1 z_folk_size.toInt64).bind fun v3 =>
  (dvL p1 8).bind fun v4 =>
  (rmL v4 z_folk_planks.toInt64).bind fun v5 =>
  (fX5_gave fu z_trial_came z_trial_under v3.toInt32 v5.toInt32).bind fun v6 =>
  (if v6 = 0 then
  (fX5_post fu z_trial_day z_folk_slow z_folk_size z_folk_bank z_trial_under z_trial_due v3.toInt32 v5.toInt32).bind fun (v8, g9, g10) =>
  some (z_trial_came, g9, g10)
  else
  (fX5_drop fu z_trial_came z_trial_under v3.toInt32 v5.toInt32).bind fun (g12, g13) =>
  some (g12, g13, z_trial_due))
  else
  some (z_trial_came, z_trial_under, z_trial_due)))
-- HalfPlanks$Gambler.daysBorne(III)I
def fX1_daysBorne_b21_body (fu : Nat) (z_present_day : Int32) (z_present_crossed : Int32) (z_present_came : Nat → Int32) (z_present_under : Nat → Int32) (z_present_due : Nat → Int32) (z_folk_size : Int32) (z_folk_planks : Int32) (z_folk_slow : Nat → Int32) (z_folk_bank : Nat → Int32) (z_strength_borne : Nat → Int32) (r21 : Int32 → Int32 → Int64 → Int32 → Int32 → (Nat → Int32) → (Nat → Int32) → (Nat → Int32) → Int32 → Int32 → Option (Int32 × (Nat → Int32) × (Nat → Int32) × (Nat → Int32) × Int32 × Int32)) (l1 : Int32) (l3 : Int32) (l4 : Int64) (l6 : Int32) (l7 : Int32) (z_trial_came : Nat → Int32) (z_trial_under : Nat → Int32) (z_trial_due : Nat → Int32) (z_trial_day : Int32) (z_trial_crossed : Int32) : Option (Int32 × (Nat → Int32) × (Nat → Int32) × (Nat → Int32) × Int32 × Int32) :=
  (if l1 ≤ l7 then
  some (l6, z_trial_came, z_trial_under, z_trial_due, z_trial_day, z_trial_crossed)
  else
  (rmL (l4 * 16807) 2147483647).bind fun v8 =>
  (fX1_turnOne fu z_folk_size z_folk_planks z_trial_day z_folk_slow z_folk_bank z_trial_came z_trial_under z_trial_due v8).bind fun (g10, g11, g12) =>
  (fX5_pass fu g12 z_trial_day g10 g11).bind fun (v13, g14, g15, g16) =>
  (fX7_bridge fu g15 z_strength_borne z_folk_planks 0).bind fun v17 =>
  (if v17 < l3 then
  r21 l1 l3 v8 l6 (l7 + 1) g15 g16 g12 g14 z_trial_crossed
  else
  r21 l1 l3 v8 (l6 + 1) (l7 + 1) g15 g16 g12 g14 z_trial_crossed))
def fX1_daysBorne_b21 (fu : Nat) (z_present_day : Int32) (z_present_crossed : Int32) (z_present_came : Nat → Int32) (z_present_under : Nat → Int32) (z_present_due : Nat → Int32) (z_folk_size : Int32) (z_folk_planks : Int32) (z_folk_slow : Nat → Int32) (z_folk_bank : Nat → Int32) (z_strength_borne : Nat → Int32) : Nat → Int32 → Int32 → Int64 → Int32 → Int32 → (Nat → Int32) → (Nat → Int32) → (Nat → Int32) → Int32 → Int32 → Option (Int32 × (Nat → Int32) × (Nat → Int32) × (Nat → Int32) × Int32 × Int32)
  | 0, _, _, _, _, _, _, _, _, _, _ => none
  | n + 1, l1, l3, l4, l6, l7, z_trial_came, z_trial_under, z_trial_due, z_trial_day, z_trial_crossed => fX1_daysBorne_b21_body fu z_present_day z_present_crossed z_present_came z_present_under z_present_due z_folk_size z_folk_planks z_folk_slow z_folk_bank z_strength_borne (fX1_daysBorne_b21 fu z_present_day z_present_crossed z_present_came z_present_under z_present_due z_folk_size z_folk_planks z_folk_slow z_folk_bank z_strength_borne n) l1 l3 l4 l6 l7 z_trial_came z_trial_under z_trial_due z_trial_day z_trial_crossed
def fX1_daysBorne (fu : Nat) (z_present_day : Int32) (z_present_crossed : Int32) (z_present_came : Nat → Int32) (z_present_under : Nat → Int32) (z_present_due : Nat → Int32) (z_folk_size : Int32) (z_folk_planks : Int32) (z_folk_slow : Nat → Int32) (z_folk_bank : Nat → Int32) (z_strength_borne : Nat → Int32) (z_trial_came : Nat → Int32) (z_trial_under : Nat → Int32) (z_trial_due : Nat → Int32) (z_trial_day : Int32) (z_trial_crossed : Int32) (p1 : Int32) (p2 : Int32) (p3 : Int32) : Option (Int32 × (Nat → Int32) × (Nat → Int32) × (Nat → Int32) × Int32 × Int32) :=
  (fX5_become fu z_present_day z_present_crossed z_present_came z_present_under z_present_due z_trial_came z_trial_under z_trial_due z_trial_day z_trial_crossed).bind fun (g2, g3, g4, g5, g6) =>
  fX1_daysBorne_b21 fu z_present_day z_present_crossed z_present_came z_present_under z_present_due z_folk_size z_folk_planks z_folk_slow z_folk_bank z_strength_borne fu p1 p3 p2.toInt64 0 0 g2 g3 g4 g5 g6
-- HalfPlanks.winter(III)I
def fX8_winter (fu : Nat) (z_present_day : Int32) (z_present_crossed : Int32) (z_present_came : Nat → Int32) (z_present_under : Nat → Int32) (z_present_due : Nat → Int32) (z_folk_size : Int32) (z_folk_planks : Int32) (z_folk_slow : Nat → Int32) (z_folk_bank : Nat → Int32) (z_strength_borne : Nat → Int32) (z_gambler_trial_came : Nat → Int32) (z_gambler_trial_under : Nat → Int32) (z_gambler_trial_due : Nat → Int32) (z_gambler_trial_day : Int32) (z_gambler_trial_crossed : Int32) (p1 : Int32) (p2 : Int32) (p3 : Int32) : Option (Int32 × (Nat → Int32) × (Nat → Int32) × (Nat → Int32) × Int32 × Int32) :=
  (fX8_within fu p1 0 60).bind fun v1 =>
  (if v1 = 0 then
  some ((-1), z_gambler_trial_came, z_gambler_trial_under, z_gambler_trial_due, z_gambler_trial_day, z_gambler_trial_crossed)
  else
  (fX8_within fu p2 1 999999).bind fun v3 =>
  (if v3 = 0 then
  some ((-1), z_gambler_trial_came, z_gambler_trial_under, z_gambler_trial_due, z_gambler_trial_day, z_gambler_trial_crossed)
  else
  (fX8_isLoad fu p3).bind fun v5 =>
  (if v5 = 0 then
  some ((-1), z_gambler_trial_came, z_gambler_trial_under, z_gambler_trial_due, z_gambler_trial_day, z_gambler_trial_crossed)
  else
  (fX1_daysBorne fu z_present_day z_present_crossed z_present_came z_present_under z_present_due z_folk_size z_folk_planks z_folk_slow z_folk_bank z_strength_borne z_gambler_trial_came z_gambler_trial_under z_gambler_trial_due z_gambler_trial_day z_gambler_trial_crossed p1 p2 p3).bind fun (v7, g8, g9, g10, g11, g12) =>
  some (v7, g8, g9, g10, g11, g12))))
-- HalfPlanks$Guesser.see(IZ)Z
def fX2_see (fu : Nat) (z_seen : Int32) (z_load : Nat → Int32) (z_over : Nat → Int32) (p1 : Int32) (p2 : Int32) : Option (Int32 × Int32 × (Nat → Int32) × (Nat → Int32)) :=
  (if z_seen < 6 then
  (wr 6 z_load z_seen p1).bind fun g2 =>
  (wr 6 z_over z_seen (vp_nar .boolean p2)).bind fun g3 =>
  some (1, (z_seen + 1), g2, g3)
  else
  some (0, z_seen, z_load, z_over))
-- HalfPlanks.sees(II)I
def fX8_sees_b33 (fu : Nat) (s0 : Int32) (s1 : Int32) (z_guesser_seen : Int32) (z_guesser_load : Nat → Int32) (z_guesser_over : Nat → Int32) : Option (Int32 × Int32 × (Nat → Int32) × (Nat → Int32)) :=
  (fX2_see fu z_guesser_seen z_guesser_load z_guesser_over s1 s0).bind fun (v6, g7, g8, g9) =>
  (if v6 = 0 then
  some ((-3), g7, g8, g9)
  else
  some (g7, g7, g8, g9))
def fX8_sees (fu : Nat) (z_guesser_seen : Int32) (z_guesser_load : Nat → Int32) (z_guesser_over : Nat → Int32) (p1 : Int32) (p2 : Int32) : Option (Int32 × Int32 × (Nat → Int32) × (Nat → Int32)) :=
  (fX8_isLoad fu p1).bind fun v1 =>
  (if v1 = 0 then
  some ((-1), z_guesser_seen, z_guesser_load, z_guesser_over)
  else
  (fX8_within fu p2 0 1).bind fun v3 =>
  (if v3 = 0 then
  some ((-1), z_guesser_seen, z_guesser_load, z_guesser_over)
  else
  (if p2 = 1 then
  fX8_sees_b33 fu 1 p1 z_guesser_seen z_guesser_load z_guesser_over
  else
  fX8_sees_b33 fu 0 p1 z_guesser_seen z_guesser_load z_guesser_over)))
-- HalfPlanks.forget()I
def fX8_forget (fu : Nat) (z_guesser_seen : Int32) : Option (Int32 × Int32) :=
  some (z_guesser_seen, 0)
-- HalfPlanks$Guesser.bridgeWith(II)I
def fX2_bridgeWith_b6_body (fu : Nat) (z_folk_planks : Int32) (z_present_came : Nat → Int32) (z_folk_size : Int32) (z_folk_kind : Nat → Int32) (z_folk_sworn : Int32) (z_folk_bank : Nat → Int32) (z_folk_word : Nat → Int32) (r6 : Int32 → Int32 → Int32 → Int32 → Option (Int32)) (l1 : Int32) (l2 : Int32) (l3 : Int32) (l4 : Int32) : Option (Int32) :=
  (if z_folk_planks ≤ l4 then
  some (l3)
  else
  (rd 8 z_present_came l4).bind fun v2 =>
  (fX7_bestOfTwo fu z_folk_size z_folk_kind z_folk_sworn z_folk_bank z_folk_word l4 v2 l1 l2).bind fun v3 =>
  r6 l1 l2 (mn l3 v3) (l4 + 1))
def fX2_bridgeWith_b6 (fu : Nat) (z_folk_planks : Int32) (z_present_came : Nat → Int32) (z_folk_size : Int32) (z_folk_kind : Nat → Int32) (z_folk_sworn : Int32) (z_folk_bank : Nat → Int32) (z_folk_word : Nat → Int32) : Nat → Int32 → Int32 → Int32 → Int32 → Option (Int32)
  | 0, _, _, _, _ => none
  | n + 1, l1, l2, l3, l4 => fX2_bridgeWith_b6_body fu z_folk_planks z_present_came z_folk_size z_folk_kind z_folk_sworn z_folk_bank z_folk_word (fX2_bridgeWith_b6 fu z_folk_planks z_present_came z_folk_size z_folk_kind z_folk_sworn z_folk_bank z_folk_word n) l1 l2 l3 l4
def fX2_bridgeWith (fu : Nat) (z_folk_planks : Int32) (z_present_came : Nat → Int32) (z_folk_size : Int32) (z_folk_kind : Nat → Int32) (z_folk_sworn : Int32) (z_folk_bank : Nat → Int32) (z_folk_word : Nat → Int32) (p1 : Int32) (p2 : Int32) : Option (Int32) :=
  fX2_bridgeWith_b6 fu z_folk_planks z_present_came z_folk_size z_folk_kind z_folk_sworn z_folk_bank z_folk_word fu p1 p2 36 0
-- HalfPlanks$Guesser.agrees(I)Z
def fX2_agrees_b25 (fu : Nat) (z_seen : Int32) (z_load : Nat → Int32) (z_over : Nat → Int32) (r2 : Int32 → Int32 → Option (Int32)) (l1 : Int32) (l2 : Int32) (s0 : Int32) : Option (Int32) :=
  (rd 6 z_over l2).bind fun v4 =>
  (if s0 = v4 then
  r2 l1 (l2 + 1)
  else
  some (0))
def fX2_agrees_b2_body (fu : Nat) (z_seen : Int32) (z_load : Nat → Int32) (z_over : Nat → Int32) (r2 : Int32 → Int32 → Option (Int32)) (l1 : Int32) (l2 : Int32) : Option (Int32) :=
  (if z_seen ≤ l2 then
  some (1)
  else
  (rd 6 z_load l2).bind fun v2 =>
  (if l1 < v2 then
  fX2_agrees_b25 fu z_seen z_load z_over r2 l1 l2 0
  else
  fX2_agrees_b25 fu z_seen z_load z_over r2 l1 l2 1))
def fX2_agrees_b2 (fu : Nat) (z_seen : Int32) (z_load : Nat → Int32) (z_over : Nat → Int32) : Nat → Int32 → Int32 → Option (Int32)
  | 0, _, _ => none
  | n + 1, l1, l2 => fX2_agrees_b2_body fu z_seen z_load z_over (fX2_agrees_b2 fu z_seen z_load z_over n) l1 l2
def fX2_agrees (fu : Nat) (z_seen : Int32) (z_load : Nat → Int32) (z_over : Nat → Int32) (p1 : Int32) : Option (Int32) :=
  fX2_agrees_b2 fu z_seen z_load z_over fu p1 0
-- HalfPlanks$Guesser.gather(I)I
def fX2_gather_b68 (fu : Nat) (z_folk_planks : Int32) (z_present_came : Nat → Int32) (z_folk_size : Int32) (z_folk_kind : Nat → Int32) (z_folk_sworn : Int32) (z_folk_bank : Nat → Int32) (z_folk_word : Nat → Int32) (z_seen : Int32) (z_load : Nat → Int32) (z_over : Nat → Int32) (r16 : Int32 → Int32 → Int32 → (Nat → Int32) → Int32 → Int32 → Option (Int32 × (Nat → Int32) × Int32 × Int32)) (l1 : Int32) (l2 : Int32) (l3 : Int32) (s0 : Int32) (z_borne : Nat → Int32) (z_least : Int32) (z_greatest : Int32) : Option (Int32 × (Nat → Int32) × Int32 × Int32) :=
  r16 l1 l2 (l3 + 1) z_borne s0 l3
def fX2_gather_b16_body (fu : Nat) (z_folk_planks : Int32) (z_present_came : Nat → Int32) (z_folk_size : Int32) (z_folk_kind : Nat → Int32) (z_folk_sworn : Int32) (z_folk_bank : Nat → Int32) (z_folk_word : Nat → Int32) (z_seen : Int32) (z_load : Nat → Int32) (z_over : Nat → Int32) (r16 : Int32 → Int32 → Int32 → (Nat → Int32) → Int32 → Int32 → Option (Int32 × (Nat → Int32) × Int32 × Int32)) (l1 : Int32) (l2 : Int32) (l3 : Int32) (z_borne : Nat → Int32) (z_least : Int32) (z_greatest : Int32) : Option (Int32 × (Nat → Int32) × Int32 × Int32) :=
  (if 9 < l3 then
  some (l2, z_borne, z_least, z_greatest)
  else
  (fX2_bridgeWith fu z_folk_planks z_present_came z_folk_size z_folk_kind z_folk_sworn z_folk_bank z_folk_word l1 l3).bind fun v2 =>
  (fX2_agrees fu z_seen z_load z_over v2).bind fun v3 =>
  (if v3 = 0 then
  r16 l1 l2 (l3 + 1) z_borne z_least z_greatest
  else
  (wr 9 z_borne l2 v2).bind fun g5 =>
  (if z_least = (-9) then
  fX2_gather_b68 fu z_folk_planks z_present_came z_folk_size z_folk_kind z_folk_sworn z_folk_bank z_folk_word z_seen z_load z_over r16 l1 (l2 + 1) l3 l3 g5 z_least z_greatest
  else
  fX2_gather_b68 fu z_folk_planks z_present_came z_folk_size z_folk_kind z_folk_sworn z_folk_bank z_folk_word z_seen z_load z_over r16 l1 (l2 + 1) l3 z_least g5 z_least z_greatest)))
def fX2_gather_b16 (fu : Nat) (z_folk_planks : Int32) (z_present_came : Nat → Int32) (z_folk_size : Int32) (z_folk_kind : Nat → Int32) (z_folk_sworn : Int32) (z_folk_bank : Nat → Int32) (z_folk_word : Nat → Int32) (z_seen : Int32) (z_load : Nat → Int32) (z_over : Nat → Int32) : Nat → Int32 → Int32 → Int32 → (Nat → Int32) → Int32 → Int32 → Option (Int32 × (Nat → Int32) × Int32 × Int32)
  | 0, _, _, _, _, _, _ => none
  | n + 1, l1, l2, l3, z_borne, z_least, z_greatest => fX2_gather_b16_body fu z_folk_planks z_present_came z_folk_size z_folk_kind z_folk_sworn z_folk_bank z_folk_word z_seen z_load z_over (fX2_gather_b16 fu z_folk_planks z_present_came z_folk_size z_folk_kind z_folk_sworn z_folk_bank z_folk_word z_seen z_load z_over n) l1 l2 l3 z_borne z_least z_greatest
def fX2_gather (fu : Nat) (z_folk_planks : Int32) (z_present_came : Nat → Int32) (z_folk_size : Int32) (z_folk_kind : Nat → Int32) (z_folk_sworn : Int32) (z_folk_bank : Nat → Int32) (z_folk_word : Nat → Int32) (z_seen : Int32) (z_load : Nat → Int32) (z_over : Nat → Int32) (z_borne : Nat → Int32) (z_least : Int32) (z_greatest : Int32) (p1 : Int32) : Option (Int32 × (Nat → Int32) × Int32 × Int32) :=
  fX2_gather_b16 fu z_folk_planks z_present_came z_folk_size z_folk_kind z_folk_sworn z_folk_bank z_folk_word z_seen z_load z_over fu p1 0 1 z_borne (-9) (-9)
-- HalfPlanks$Guesser.leastWord(I)I
def fX2_leastWord (fu : Nat) (z_folk_planks : Int32) (z_present_came : Nat → Int32) (z_folk_size : Int32) (z_folk_kind : Nat → Int32) (z_folk_sworn : Int32) (z_folk_bank : Nat → Int32) (z_folk_word : Nat → Int32) (z_seen : Int32) (z_load : Nat → Int32) (z_over : Nat → Int32) (z_borne : Nat → Int32) (z_least : Int32) (z_greatest : Int32) (p1 : Int32) : Option (Int32 × (Nat → Int32) × Int32 × Int32) :=
  (fX2_gather fu z_folk_planks z_present_came z_folk_size z_folk_kind z_folk_sworn z_folk_bank z_folk_word z_seen z_load z_over z_borne z_least z_greatest p1).bind fun (v1, g2, g3, g4) =>
  some (g3, g2, g3, g4)
-- HalfPlanks$Guesser.greatestWord(I)I
def fX2_greatestWord (fu : Nat) (z_folk_planks : Int32) (z_present_came : Nat → Int32) (z_folk_size : Int32) (z_folk_kind : Nat → Int32) (z_folk_sworn : Int32) (z_folk_bank : Nat → Int32) (z_folk_word : Nat → Int32) (z_seen : Int32) (z_load : Nat → Int32) (z_over : Nat → Int32) (z_borne : Nat → Int32) (z_least : Int32) (z_greatest : Int32) (p1 : Int32) : Option (Int32 × (Nat → Int32) × Int32 × Int32) :=
  (fX2_gather fu z_folk_planks z_present_came z_folk_size z_folk_kind z_folk_sworn z_folk_bank z_folk_word z_seen z_load z_over z_borne z_least z_greatest p1).bind fun (v1, g2, g3, g4) =>
  some (g4, g2, g3, g4)
-- HalfPlanks.words(II)I
def fX8_words (fu : Nat) (z_folk_size : Int32) (z_folk_planks : Int32) (z_present_came : Nat → Int32) (z_folk_kind : Nat → Int32) (z_folk_sworn : Int32) (z_folk_bank : Nat → Int32) (z_folk_word : Nat → Int32) (z_guesser_seen : Int32) (z_guesser_load : Nat → Int32) (z_guesser_over : Nat → Int32) (z_guesser_borne : Nat → Int32) (z_guesser_least : Int32) (z_guesser_greatest : Int32) (p1 : Int32) (p2 : Int32) : Option (Int32 × (Nat → Int32) × Int32 × Int32) :=
  (fX0_hasPerson fu z_folk_size p1).bind fun v1 =>
  (if v1 = 0 then
  some ((-1), z_guesser_borne, z_guesser_least, z_guesser_greatest)
  else
  (if p2 = 0 then
  (fX2_gather fu z_folk_planks z_present_came z_folk_size z_folk_kind z_folk_sworn z_folk_bank z_folk_word z_guesser_seen z_guesser_load z_guesser_over z_guesser_borne z_guesser_least z_guesser_greatest p1).bind fun (v3, g4, g5, g6) =>
  some (v3, g4, g5, g6)
  else if p2 = 1 then
  (fX2_leastWord fu z_folk_planks z_present_came z_folk_size z_folk_kind z_folk_sworn z_folk_bank z_folk_word z_guesser_seen z_guesser_load z_guesser_over z_guesser_borne z_guesser_least z_guesser_greatest p1).bind fun (v8, g9, g10, g11) =>
  some (v8, g9, g10, g11)
  else if p2 = 2 then
  (fX2_greatestWord fu z_folk_planks z_present_came z_folk_size z_folk_kind z_folk_sworn z_folk_bank z_folk_word z_guesser_seen z_guesser_load z_guesser_over z_guesser_borne z_guesser_least z_guesser_greatest p1).bind fun (v13, g14, g15, g16) =>
  some (v13, g14, g15, g16)
  else some ((-1), z_guesser_borne, z_guesser_least, z_guesser_greatest)))
-- HalfPlanks$Guesser.howManyBear(II)I
def fX2_howManyBear_b5_body (fu : Nat) (z_borne : Nat → Int32) (r5 : Int32 → Int32 → Int32 → Int32 → Option (Int32)) (l1 : Int32) (l2 : Int32) (l3 : Int32) (l4 : Int32) : Option (Int32) :=
  (if l2 ≤ l4 then
  some (l3)
  else
  (rd 9 z_borne l4).bind fun v2 =>
  (if v2 < l1 then
  r5 l1 l2 l3 (l4 + 1)
  else
  r5 l1 l2 (l3 + 1) (l4 + 1)))
def fX2_howManyBear_b5 (fu : Nat) (z_borne : Nat → Int32) : Nat → Int32 → Int32 → Int32 → Int32 → Option (Int32)
  | 0, _, _, _, _ => none
  | n + 1, l1, l2, l3, l4 => fX2_howManyBear_b5_body fu z_borne (fX2_howManyBear_b5 fu z_borne n) l1 l2 l3 l4
def fX2_howManyBear (fu : Nat) (z_borne : Nat → Int32) (p1 : Int32) (p2 : Int32) : Option (Int32) :=
  fX2_howManyBear_b5 fu z_borne fu p1 p2 0 0
-- HalfPlanks$Guesser.bestTry(I)I
def fX2_bestTry_b24_body (fu : Nat) (z_folk_planks : Int32) (z_present_came : Nat → Int32) (z_folk_size : Int32) (z_folk_kind : Nat → Int32) (z_folk_sworn : Int32) (z_folk_bank : Nat → Int32) (z_folk_word : Nat → Int32) (z_seen : Int32) (z_load : Nat → Int32) (z_over : Nat → Int32) (r24 : Int32 → Int32 → Int32 → Int32 → (Nat → Int32) → Int32 → Int32 → Option (Int32 × (Nat → Int32) × Int32 × Int32)) (l2 : Int32) (l3 : Int32) (l4 : Int32) (l5 : Int32) (z_borne : Nat → Int32) (z_least : Int32) (z_greatest : Int32) : Option (Int32 × (Nat → Int32) × Int32 × Int32) :=
  (if 36 < l5 then
  some (l3, z_borne, z_least, z_greatest)
  else
  (fX2_howManyBear fu z_borne l5 l2).bind fun v7 =>
  (if l4 ≤ (mx v7 (l2 - v7)) then
  r24 l2 l3 l4 (l5 + 1) z_borne z_least z_greatest
  else
  r24 l2 l5 (mx v7 (l2 - v7)) (l5 + 1) z_borne z_least z_greatest))
def fX2_bestTry_b24 (fu : Nat) (z_folk_planks : Int32) (z_present_came : Nat → Int32) (z_folk_size : Int32) (z_folk_kind : Nat → Int32) (z_folk_sworn : Int32) (z_folk_bank : Nat → Int32) (z_folk_word : Nat → Int32) (z_seen : Int32) (z_load : Nat → Int32) (z_over : Nat → Int32) : Nat → Int32 → Int32 → Int32 → Int32 → (Nat → Int32) → Int32 → Int32 → Option (Int32 × (Nat → Int32) × Int32 × Int32)
  | 0, _, _, _, _, _, _, _ => none
  | n + 1, l2, l3, l4, l5, z_borne, z_least, z_greatest => fX2_bestTry_b24_body fu z_folk_planks z_present_came z_folk_size z_folk_kind z_folk_sworn z_folk_bank z_folk_word z_seen z_load z_over (fX2_bestTry_b24 fu z_folk_planks z_present_came z_folk_size z_folk_kind z_folk_sworn z_folk_bank z_folk_word z_seen z_load z_over n) l2 l3 l4 l5 z_borne z_least z_greatest
def fX2_bestTry (fu : Nat) (z_folk_planks : Int32) (z_present_came : Nat → Int32) (z_folk_size : Int32) (z_folk_kind : Nat → Int32) (z_folk_sworn : Int32) (z_folk_bank : Nat → Int32) (z_folk_word : Nat → Int32) (z_seen : Int32) (z_load : Nat → Int32) (z_over : Nat → Int32) (z_borne : Nat → Int32) (z_least : Int32) (z_greatest : Int32) (p1 : Int32) : Option (Int32 × (Nat → Int32) × Int32 × Int32) :=
  (fX2_gather fu z_folk_planks z_present_came z_folk_size z_folk_kind z_folk_sworn z_folk_bank z_folk_word z_seen z_load z_over z_borne z_least z_greatest p1).bind fun (v1, g2, g3, g4) =>
  (if 1 < v1 then
  fX2_bestTry_b24 fu z_folk_planks z_present_came z_folk_size z_folk_kind z_folk_sworn z_folk_bank z_folk_word z_seen z_load z_over fu v1 (-9) 10 1 g2 g3 g4
  else
  some ((-9), g2, g3, g4))
-- HalfPlanks.next(I)I
def fX8_next (fu : Nat) (z_folk_size : Int32) (z_folk_planks : Int32) (z_present_came : Nat → Int32) (z_folk_kind : Nat → Int32) (z_folk_sworn : Int32) (z_folk_bank : Nat → Int32) (z_folk_word : Nat → Int32) (z_guesser_seen : Int32) (z_guesser_load : Nat → Int32) (z_guesser_over : Nat → Int32) (z_guesser_borne : Nat → Int32) (z_guesser_least : Int32) (z_guesser_greatest : Int32) (p1 : Int32) : Option (Int32 × (Nat → Int32) × Int32 × Int32) :=
  (fX0_hasPerson fu z_folk_size p1).bind fun v1 =>
  (if v1 = 0 then
  some ((-1), z_guesser_borne, z_guesser_least, z_guesser_greatest)
  else
  (fX2_bestTry fu z_folk_planks z_present_came z_folk_size z_folk_kind z_folk_sworn z_folk_bank z_folk_word z_guesser_seen z_guesser_load z_guesser_over z_guesser_borne z_guesser_least z_guesser_greatest p1).bind fun (v3, g4, g5, g6) =>
  some (v3, g4, g5, g6))
-- HalfPlanks.rateAsPerson(I)I
def fX8_rateAsPerson (fu : Nat) (z_folk_word : Nat → Int32) (z_traced : Int64) (p1 : Int32) : Option (Int32 × Int64) :=
  (rd 8 z_folk_word p1).bind fun v1 =>
  some (v1, (z_traced + 1))
-- HalfPlanks.rateAsPlain(I)I
def fX8_rateAsPlain (fu : Nat) (z_folk_word : Nat → Int32) (z_folk_slow : Nat → Int32) (z_traced : Int64) (p1 : Int32) : Option (Int32 × Int64) :=
  (fX8_rateAsPerson fu z_folk_word (z_traced + 10) p1).bind fun (v1, g2) =>
  (rd 8 z_folk_slow p1).bind fun v3 =>
  some ((v1 + v3), g2)
-- HalfPlanks.rateAsChild(I)I
def fX8_rateAsChild (fu : Nat) (z_folk_word : Nat → Int32) (z_folk_slow : Nat → Int32) (z_traced : Int64) (p1 : Int32) : Option (Int32 × Int64) :=
  (fX8_rateAsPlain fu z_folk_word z_folk_slow (z_traced + 100) p1).bind fun (v1, g2) =>
  some ((2 * v1), g2)
-- HalfPlanks.rateAsSworn(I)I
def fX8_rateAsSworn (fu : Nat) (z_folk_word : Nat → Int32) (z_folk_planks : Int32) (z_present_came : Nat → Int32) (z_traced : Int64) (p1 : Int32) : Option (Int32 × Int64) :=
  (fX8_rateAsPerson fu z_folk_word (z_traced + 1000) p1).bind fun (v1, g2) =>
  (fX8_planksOf fu z_folk_planks z_present_came p1).bind fun v3 =>
  (fJ6_bitCount_0f7a4 fu v3).bind fun v4 =>
  some ((v1 + v4), g2)
-- HalfPlanks.rateAsMerchant(I)I
def fX8_rateAsMerchant (fu : Nat) (z_folk_planks : Int32) (z_present_came : Nat → Int32) (z_present_under : Nat → Int32) (z_folk_word : Nat → Int32) (z_traced : Int64) (p1 : Int32) : Option (Int32 × Int64) :=
  (fX8_planksOf fu z_folk_planks z_present_came p1).bind fun v1 =>
  (fX8_planksOf fu z_folk_planks z_present_under p1).bind fun v2 =>
  (fX8_rateAsPerson fu z_folk_word (z_traced + 10000) p1).bind fun (v3, g4) =>
  (fJ6_bitCount_0f7a4 fu (v1 ||| v2)).bind fun v5 =>
  some ((v3 - v5), g4)
-- HalfPlanks.rateAsLiar(I)I
def fX8_rateAsLiar (fu : Nat) (z_folk_planks : Int32) (z_present_came : Nat → Int32) (z_present_under : Nat → Int32) (z_folk_word : Nat → Int32) (z_traced : Int64) (p1 : Int32) : Option (Int32 × Int64) :=
  (fX8_rateAsMerchant fu z_folk_planks z_present_came z_present_under z_folk_word (z_traced + 100000) p1).bind fun (v1, g2) =>
  some (((3 * v1) + p1), g2)
-- HalfPlanks.rate(II)I
def fX8_rate (fu : Nat) (z_folk_size : Int32) (z_folk_planks : Int32) (z_present_came : Nat → Int32) (z_present_under : Nat → Int32) (z_folk_word : Nat → Int32) (z_folk_slow : Nat → Int32) (z_traced : Int64) (p1 : Int32) (p2 : Int32) : Option (Int32 × Int64) :=
  (fX0_hasPerson fu z_folk_size p2).bind fun v1 =>
  (if v1 = 0 then
  some ((-1000000), z_traced)
  else
  (if p1 = 0 then
  (fX8_rateAsPerson fu z_folk_word z_traced p2).bind fun (v3, g4) =>
  some (v3, g4)
  else if p1 = 1 then
  (fX8_rateAsPlain fu z_folk_word z_folk_slow z_traced p2).bind fun (v6, g7) =>
  some (v6, g7)
  else if p1 = 2 then
  (fX8_rateAsChild fu z_folk_word z_folk_slow z_traced p2).bind fun (v9, g10) =>
  some (v9, g10)
  else if p1 = 3 then
  (fX8_rateAsSworn fu z_folk_word z_folk_planks z_present_came z_traced p2).bind fun (v12, g13) =>
  some (v12, g13)
  else if p1 = 4 then
  (fX8_rateAsMerchant fu z_folk_planks z_present_came z_present_under z_folk_word z_traced p2).bind fun (v15, g16) =>
  some (v15, g16)
  else if p1 = 5 then
  (fX8_rateAsLiar fu z_folk_planks z_present_came z_present_under z_folk_word z_traced p2).bind fun (v18, g19) =>
  some (v18, g19)
  else some ((-1000000), z_traced)))
-- HalfPlanks.keep(I)I
def fX8_keep (fu : Nat) (gj : Nat) (z_present_day : Int32) (z_present_crossed : Int32) (z_present_came : Nat → Int32) (z_present_under : Nat → Int32) (z_present_due : Nat → Int32) (z_images_came : Nat → Int32) (z_images_under : Nat → Int32) (z_images_due : Nat → Int32) (z_kept : Nat → Int32) (z_images_day : Int32) (z_images_crossed : Int32) (p1 : Int32) : Option (Int32 × (Nat → Int32) × (Nat → Int32) × (Nat → Int32) × (Nat → Int32) × Int32 × Int32) :=
  (fX8_within fu p1 0 1).bind fun v1 =>
  (if v1 = 0 then
  some ((-1), z_images_came, z_images_under, z_images_due, z_kept, z_images_day, z_images_crossed)
  else
  (rj 2 p1 gj).bind fun j3 =>
  (fX5_become fu z_present_day z_present_crossed z_present_came z_present_under z_present_due z_images_came z_images_under z_images_due z_images_day z_images_crossed).bind fun (g5, g6, g7, g8, g9) =>
  (wr 2 z_kept p1 (vp_nar .boolean 1)).bind fun g10 =>
  some (z_present_day, g5, g6, g7, g10, g8, g9))
-- HalfPlanks.back(I)I
def fX8_back (fu : Nat) (gj : Nat) (z_kept : Nat → Int32) (z_images_day : Int32) (z_images_crossed : Int32) (z_images_came : Nat → Int32) (z_images_under : Nat → Int32) (z_images_due : Nat → Int32) (z_present_came : Nat → Int32) (z_present_under : Nat → Int32) (z_present_due : Nat → Int32) (z_present_day : Int32) (z_present_crossed : Int32) (z_history_known : Int32) (p1 : Int32) : Option (Int32 × (Nat → Int32) × (Nat → Int32) × (Nat → Int32) × Int32 × Int32 × Int32) :=
  (fX8_within fu p1 0 1).bind fun v1 =>
  (if v1 = 0 then
  some ((-1), z_present_came, z_present_under, z_present_due, z_present_day, z_present_crossed, z_history_known)
  else
  (rd 2 z_kept p1).bind fun v3 =>
  (if v3 = 0 then
  some ((-2), z_present_came, z_present_under, z_present_due, z_present_day, z_present_crossed, z_history_known)
  else
  (rj 2 p1 gj).bind fun j5 =>
  (fX5_become fu z_images_day z_images_crossed z_images_came z_images_under z_images_due z_present_came z_present_under z_present_due z_present_day z_present_crossed).bind fun (g7, g8, g9, g10, g11) =>
  (fX3_lose fu z_history_known).bind fun g13 =>
  some (g10, g7, g8, g9, g10, g11, g13)))
-- HalfPlanks.count(I)I
def fX8_count (fu : Nat) (z_typed : Int32) (z_guesser_seen : Int32) (z_folk_size : Int32) (z_folk_planks : Int32) (p1 : Int32) : Option (Int32) :=
  (if p1 = 0 then
  some (z_folk_planks)
  else if p1 = 1 then
  some (z_folk_size)
  else if p1 = 2 then
  some (z_guesser_seen)
  else if p1 = 3 then
  some (z_typed)
  else some ((-1)))
-- HalfPlanks.trace()J
def fX8_trace (fu : Nat) (z_traced : Int64) : Option (Int64) :=
  some (z_traced)
-- HalfPlanksModel.in(III)Z
def fX9_in (fu : Nat) (p0 : Int32) (p1 : Int32) (p2 : Int32) : Option (Int32) :=
  (if p0 < p1 then
  some (0)
  else
  (if p2 < p0 then
  some (0)
  else
  some (1)))
-- HalfPlanksModel.has(II)Z
def fX9_has (fu : Nat) (p0 : Int32) (p1 : Int32) : Option (Int32) :=
  (if ((p0 >>> (p1 &&& 31)) &&& 1) = 1 then
  some (1)
  else
  some (0))
-- HalfPlanksModel.ones(I)I
def fX9_ones_b4_body (fu : Nat) (r4 : Int32 → Int32 → Int32 → Option (Int32)) (l0 : Int32) (l1 : Int32) (l2 : Int32) : Option (Int32) :=
  (if 9 ≤ l2 then
  some (l1)
  else
  r4 l0 (l1 + ((l0 >>> (l2 &&& 31)) &&& 1)) (l2 + 1))
def fX9_ones_b4 (fu : Nat) : Nat → Int32 → Int32 → Int32 → Option (Int32)
  | 0, _, _, _ => none
  | n + 1, l0, l1, l2 => fX9_ones_b4_body fu (fX9_ones_b4 fu n) l0 l1 l2
def fX9_ones (fu : Nat) (p0 : Int32) : Option (Int32) :=
  fX9_ones_b4 fu fu p0 0 0
-- HalfPlanksModel.type(I)I
def fX9_type (fu : Nat) (z_typed : Int32) (z_text : Nat → Int32) (z_thrown : Int32) (p1 : Int32) : Option (Int32 × Int32 × (Nat → Int32) × Int32) :=
  (fX9_in fu p1 0 255).bind fun v1 =>
  (if v1 = 0 then
  some ((-1), z_typed, z_text, 0)
  else
  (if z_typed = 120 then
  some ((-3), z_typed, z_text, 0)
  else
  (wr 120 z_text z_typed p1).bind fun g4 =>
  some ((z_typed + 1), (z_typed + 1), g4, 0)))
-- HalfPlanksModel.clear()I
def fX9_clear (fu : Nat) (z_typed : Int32) (z_thrown : Int32) : Option (Int32 × Int32 × Int32) :=
  some (z_typed, 0, 0)
-- HalfPlanksModel.letterAt(I)I
def fX9_letterAt (fu : Nat) (z_typed : Int32) (z_text : Nat → Int32) (p1 : Int32) : Option (Int32) :=
  (if z_typed ≤ p1 then
  some ((-1))
  else
  (rd 120 z_text p1).bind fun v2 =>
  some (v2))
-- HalfPlanksModel.kindOf(I)I
def fX9_kindOf (fu : Nat) (p0 : Int32) : Option (Int32) :=
  (if p0 = 112 then
  some (1)
  else
  (if p0 = 99 then
  some (2)
  else
  (if p0 = 115 then
  some (3)
  else
  (if p0 = 109 then
  some (4)
  else
  (if p0 = 108 then
  some (5)
  else
  some (0))))))
-- HalfPlanksModel.advances()V
def fX9_advances_b243 (fu : Nat) (z_typed : Int32) (z_text : Nat → Int32) (s0 : Int32) (z_at : Int32) (z_value : Int32) (z_place : Int32) (z_token : Int32) : Option (Int32 × Int32 × Int32 × Int32) :=
  some (z_at, z_value, z_place, s0)
def fX9_advances_b175 (fu : Nat) (z_typed : Int32) (z_text : Nat → Int32) (s0 : Int32) (z_at : Int32) (z_value : Int32) (z_place : Int32) (z_token : Int32) : Option (Int32 × Int32 × Int32 × Int32) :=
  some (z_at, z_value, z_place, s0)
def fX9_advances_b125 (fu : Nat) (z_typed : Int32) (z_text : Nat → Int32) (r71 : Int32 → Int32 → Int32 → Int32 → Int32 → Option (Int32 × Int32 × Int32 × Int32)) (l1 : Int32) (s0 : Int32) (z_at : Int32) (z_value : Int32) (z_place : Int32) (z_token : Int32) : Option (Int32 × Int32 × Int32 × Int32) :=
  r71 l1 (z_at + 1) s0 z_place z_token
def fX9_advances_b71_body (fu : Nat) (z_typed : Int32) (z_text : Nat → Int32) (r71 : Int32 → Int32 → Int32 → Int32 → Int32 → Option (Int32 × Int32 × Int32 × Int32)) (l1 : Int32) (z_at : Int32) (z_value : Int32) (z_place : Int32) (z_token : Int32) : Option (Int32 × Int32 × Int32 × Int32) :=
  (fX9_letterAt fu z_typed z_text z_at).bind fun v14 =>
  (fX9_in fu v14 48 57).bind fun v15 =>
  (if v15 = 0 then
  (if 99 < z_value then
  fX9_advances_b175 fu z_typed z_text 4 z_at z_value z_place z_token
  else
  (if l1 = 48 then
  (if (z_at - z_place) ≤ 1 then
  fX9_advances_b175 fu z_typed z_text 2 z_at z_value z_place z_token
  else
  fX9_advances_b175 fu z_typed z_text 4 z_at z_value z_place z_token)
  else
  fX9_advances_b175 fu z_typed z_text 2 z_at z_value z_place z_token))
  else
  (if z_value ≤ 99 then
  (fX9_letterAt fu z_typed z_text z_at).bind fun v21 =>
  fX9_advances_b125 fu z_typed z_text r71 l1 (((10 * z_value) + v21) - 48) z_at z_value z_place z_token
  else
  fX9_advances_b125 fu z_typed z_text r71 l1 z_value z_at z_value z_place z_token))
def fX9_advances_b71 (fu : Nat) (z_typed : Int32) (z_text : Nat → Int32) : Nat → Int32 → Int32 → Int32 → Int32 → Int32 → Option (Int32 × Int32 × Int32 × Int32)
  | 0, _, _, _, _, _ => none
  | n + 1, l1, z_at, z_value, z_place, z_token => fX9_advances_b71_body fu z_typed z_text (fX9_advances_b71 fu z_typed z_text n) l1 z_at z_value z_place z_token
def fX9_advances_b0_body (fu : Nat) (z_typed : Int32) (z_text : Nat → Int32) (r0 : Int32 → Int32 → Int32 → Int32 → Option (Int32 × Int32 × Int32 × Int32)) (z_at : Int32) (z_value : Int32) (z_place : Int32) (z_token : Int32) : Option (Int32 × Int32 × Int32 × Int32) :=
  (fX9_letterAt fu z_typed z_text z_at).bind fun v1 =>
  (if v1 = 32 then
  r0 (z_at + 1) z_value z_place z_token
  else
  (fX9_letterAt fu z_typed z_text z_at).bind fun v3 =>
  (if 0 ≤ v3 then
  (fX9_in fu v3 48 57).bind fun v5 =>
  (if v5 = 0 then
  (if v3 = 59 then
  fX9_advances_b243 fu z_typed z_text 3 (z_at + 1) v3 z_at z_token
  else
  (if v3 = 110 then
  fX9_advances_b243 fu z_typed z_text 1 (z_at + 1) v3 z_at z_token
  else
  (if v3 = 117 then
  fX9_advances_b243 fu z_typed z_text 1 (z_at + 1) v3 z_at z_token
  else
  (if v3 = 118 then
  fX9_advances_b243 fu z_typed z_text 1 (z_at + 1) v3 z_at z_token
  else
  (if v3 = 120 then
  fX9_advances_b243 fu z_typed z_text 1 (z_at + 1) v3 z_at z_token
  else
  (fX9_kindOf fu v3).bind fun v12 =>
  (if v12 ≤ 0 then
  fX9_advances_b243 fu z_typed z_text 4 (z_at + 1) v3 z_at z_token
  else
  fX9_advances_b243 fu z_typed z_text 1 (z_at + 1) v3 z_at z_token))))))
  else
  fX9_advances_b71 fu z_typed z_text fu v3 z_at 0 z_at z_token)
  else
  some (z_at, z_value, z_at, 0)))
def fX9_advances_b0 (fu : Nat) (z_typed : Int32) (z_text : Nat → Int32) : Nat → Int32 → Int32 → Int32 → Int32 → Option (Int32 × Int32 × Int32 × Int32)
  | 0, _, _, _, _ => none
  | n + 1, z_at, z_value, z_place, z_token => fX9_advances_b0_body fu z_typed z_text (fX9_advances_b0 fu z_typed z_text n) z_at z_value z_place z_token
def fX9_advances (fu : Nat) (z_typed : Int32) (z_text : Nat → Int32) (z_at : Int32) (z_value : Int32) (z_place : Int32) (z_token : Int32) : Option (Int32 × Int32 × Int32 × Int32) :=
  fX9_advances_b0 fu z_typed z_text fu z_at z_value z_place z_token
-- HalfPlanksModel.isWell()Z
def fX9_isWell (fu : Nat) (z_fault : Int32) : Option (Int32) :=
  (if 0 ≤ z_fault then
  some (0)
  else
  some (1))
-- HalfPlanksModel.takes(Z)I
def fX9_takes (fu : Nat) (z_typed : Int32) (z_text : Nat → Int32) (z_fault : Int32) (z_place : Int32) (z_value : Int32) (z_at : Int32) (z_token : Int32) (p1 : Int32) : Option (Int32 × Int32 × Int32 × Int32 × Int32 × Int32) :=
  (fX9_isWell fu z_fault).bind fun v1 =>
  (if v1 = 0 then
  some (0, z_fault, z_place, z_value, z_at, z_token)
  else
  (if p1 = 0 then
  some (0, z_place, z_place, z_value, z_at, z_token)
  else
  (fX9_advances fu z_typed z_text z_at z_value z_place z_token).bind fun (g5, g6, g7, g8) =>
  some (z_value, z_fault, g7, g6, g5, g8)))
-- HalfPlanksModel.number(II)I
def fX9_number_b26 (fu : Nat) (z_typed : Int32) (z_text : Nat → Int32) (s0 : Int32) (z_token : Int32) (z_value : Int32) (z_fault : Int32) (z_place : Int32) (z_at : Int32) : Option (Int32 × Int32 × Int32 × Int32 × Int32 × Int32) :=
  (fX9_takes fu z_typed z_text z_fault z_place z_value z_at z_token s0).bind fun (v2, g3, g4, g5, g6, g7) =>
  some (v2, g7, g5, g3, g4, g6)
def fX9_number (fu : Nat) (z_typed : Int32) (z_text : Nat → Int32) (z_token : Int32) (z_value : Int32) (z_fault : Int32) (z_place : Int32) (z_at : Int32) (p1 : Int32) (p2 : Int32) : Option (Int32 × Int32 × Int32 × Int32 × Int32 × Int32) :=
  (if z_token = 2 then
  (fX9_in fu z_value p1 p2).bind fun v8 =>
  (if v8 = 0 then
  fX9_number_b26 fu z_typed z_text 0 z_token z_value z_fault z_place z_at
  else
  fX9_number_b26 fu z_typed z_text 1 z_token z_value z_fault z_place z_at)
  else
  fX9_number_b26 fu z_typed z_text 0 z_token z_value z_fault z_place z_at)
-- HalfPlanksModel.begins()V
def fX9_begins_b23_body (fu : Nat) (r23 : Int32 → (Nat → Int32) → (Nat → Int32) → Option ((Nat → Int32) × (Nat → Int32))) (l1 : Int32) (z_draft : Nat → Int32) (z_draftNow : Nat → Int32) : Option ((Nat → Int32) × (Nat → Int32)) :=
  (if 66 ≤ l1 then
  (wr 34 z_draft 0 3).bind fun g3 =>
  some (g3, z_draftNow)
  else
  (wr 66 z_draftNow l1 0).bind fun g4 =>
  r23 (l1 + 1) z_draft g4)
def fX9_begins_b23 (fu : Nat) : Nat → Int32 → (Nat → Int32) → (Nat → Int32) → Option ((Nat → Int32) × (Nat → Int32))
  | 0, _, _, _ => none
  | n + 1, l1, z_draft, z_draftNow => fX9_begins_b23_body fu (fX9_begins_b23 fu n) l1 z_draft z_draftNow
def fX9_begins_b2_body (fu : Nat) (r2 : Int32 → (Nat → Int32) → (Nat → Int32) → Option ((Nat → Int32) × (Nat → Int32))) (l1 : Int32) (z_draft : Nat → Int32) (z_draftNow : Nat → Int32) : Option ((Nat → Int32) × (Nat → Int32)) :=
  (if 34 ≤ l1 then
  fX9_begins_b23 fu fu 0 z_draft z_draftNow
  else
  (wr 34 z_draft l1 0).bind fun g5 =>
  r2 (l1 + 1) g5 z_draftNow)
def fX9_begins_b2 (fu : Nat) : Nat → Int32 → (Nat → Int32) → (Nat → Int32) → Option ((Nat → Int32) × (Nat → Int32))
  | 0, _, _, _ => none
  | n + 1, l1, z_draft, z_draftNow => fX9_begins_b2_body fu (fX9_begins_b2 fu n) l1 z_draft z_draftNow
def fX9_begins (fu : Nat) (z_draft : Nat → Int32) (z_draftNow : Nat → Int32) : Option ((Nat → Int32) × (Nat → Int32)) :=
  fX9_begins_b2 fu fu 0 z_draft z_draftNow
-- HalfPlanksModel.mayBegin(I)Z
def fX9_mayBegin_b39 (fu : Nat) (z_value : Int32) (z_draft : Nat → Int32) : Option (Int32) :=
  (rd 34 z_draft 1).bind fun v3 =>
  (if 8 ≤ v3 then
  some (0)
  else
  some (1))
def fX9_mayBegin (fu : Nat) (z_value : Int32) (z_draft : Nat → Int32) (p1 : Int32) : Option (Int32) :=
  (if z_value = 110 then
  (if p1 = 0 then
  some (1)
  else
  some (0))
  else
  (if z_value = 117 then
  fX9_mayBegin_b39 fu z_value z_draft
  else
  (if z_value = 118 then
  fX9_mayBegin_b39 fu z_value z_draft
  else
  (if z_value = 120 then
  some (1)
  else
  some (0)))))
-- HalfPlanksModel.readsItem(I)V
def fX9_readsItem_b188 (fu : Nat) (z_typed : Int32) (z_text : Nat → Int32) (l2 : Int32) (s0 : Int32) (s2 : Int32) (z_token : Int32) (z_value : Int32) (z_fault : Int32) (z_place : Int32) (z_at : Int32) (z_draft : Nat → Int32) (z_draftNow : Nat → Int32) : Option (Int32 × Int32 × Int32 × Int32 × Int32 × (Nat → Int32) × (Nat → Int32)) :=
  (fX9_takes fu z_typed z_text z_fault z_place z_value z_at z_token s0).bind fun (v7, g8, g9, g10, g11, g12) =>
  (fX9_kindOf fu v7).bind fun v13 =>
  (wr 34 z_draft s2 v13).bind fun g14 =>
  (fX9_number fu z_typed z_text g12 g10 g8 g9 g11 1 9).bind fun (v15, g16, g17, g18, g19, g20) =>
  (wr 34 g14 (18 + l2) v15).bind fun g21 =>
  (fX9_number fu z_typed z_text g16 g17 g18 g19 g20 1 5).bind fun (v22, g23, g24, g25, g26, g27) =>
  (wr 34 g21 (26 + l2) v22).bind fun g28 =>
  (rd 34 g28 1).bind fun v29 =>
  (wr 34 g28 1 (v29 + 1)).bind fun g30 =>
  some (g23, g24, g25, g26, g27, g30, z_draftNow)
def fX9_readsItem_b155 (fu : Nat) (z_typed : Int32) (z_text : Nat → Int32) (l2 : Int32) (s0 : Int32) (s1 : Int32) (z_token : Int32) (z_value : Int32) (z_fault : Int32) (z_place : Int32) (z_at : Int32) (z_draft : Nat → Int32) (z_draftNow : Nat → Int32) : Option (Int32 × Int32 × Int32 × Int32 × Int32 × (Nat → Int32) × (Nat → Int32)) :=
  (wr 34 z_draft s1 s0).bind fun g5 =>
  (if z_token = 1 then
  (fX9_kindOf fu z_value).bind fun v31 =>
  (if v31 ≤ 0 then
  fX9_readsItem_b188 fu z_typed z_text l2 0 (10 + l2) z_token z_value z_fault z_place z_at g5 z_draftNow
  else
  fX9_readsItem_b188 fu z_typed z_text l2 1 (10 + l2) z_token z_value z_fault z_place z_at g5 z_draftNow)
  else
  fX9_readsItem_b188 fu z_typed z_text l2 0 (10 + l2) z_token z_value z_fault z_place z_at g5 z_draftNow)
def fX9_readsItem_b100 (fu : Nat) (z_typed : Int32) (z_text : Nat → Int32) (l2 : Int32) (s0 : Int32) (z_token : Int32) (z_value : Int32) (z_fault : Int32) (z_place : Int32) (z_at : Int32) (z_draft : Nat → Int32) (z_draftNow : Nat → Int32) : Option (Int32 × Int32 × Int32 × Int32 × Int32 × (Nat → Int32) × (Nat → Int32)) :=
  (fX9_takes fu z_typed z_text z_fault z_place z_value z_at z_token s0).bind fun (v42, g43, g44, g45, g46, g47) =>
  (if s0 = 0 then
  some (g47, g45, g43, g44, g46, z_draft, z_draftNow)
  else
  (wr 66 z_draftNow ((2 + (8 * l2)) + v42) (-1)).bind fun g49 =>
  some (g47, g45, g43, g44, g46, z_draft, g49))
def fX9_readsItem (fu : Nat) (z_typed : Int32) (z_text : Nat → Int32) (z_token : Int32) (z_value : Int32) (z_fault : Int32) (z_place : Int32) (z_at : Int32) (z_draft : Nat → Int32) (z_draftNow : Nat → Int32) (p1 : Int32) : Option (Int32 × Int32 × Int32 × Int32 × Int32 × (Nat → Int32) × (Nat → Int32)) :=
  (if p1 = 110 then
  (fX9_number fu z_typed z_text z_token z_value z_fault z_place z_at 1 8).bind fun (v56, g57, g58, g59, g60, g61) =>
  (wr 34 z_draft 0 v56).bind fun g62 =>
  some (g57, g58, g59, g60, g61, g62, z_draftNow)
  else
  (if p1 = 120 then
  (rd 34 z_draft 1).bind fun v33 =>
  (fX9_number fu z_typed z_text z_token z_value z_fault z_place z_at 0 (v33 - 1)).bind fun (v34, g35, g36, g37, g38, g39) =>
  (fX9_isWell fu g37).bind fun v40 =>
  (if v40 = 0 then
  fX9_readsItem_b100 fu z_typed z_text v34 0 g35 g36 g37 g38 g39 z_draft z_draftNow
  else
  (if g35 = 2 then
  (rd 34 z_draft 0).bind fun v51 =>
  (fX9_in fu g36 0 (v51 - 1)).bind fun v52 =>
  (if v52 = 0 then
  fX9_readsItem_b100 fu z_typed z_text v34 0 g35 g36 g37 g38 g39 z_draft z_draftNow
  else
  (rd 66 z_draftNow ((2 + (8 * v34)) + g36)).bind fun v54 =>
  (if v54 = 0 then
  fX9_readsItem_b100 fu z_typed z_text v34 1 g35 g36 g37 g38 g39 z_draft z_draftNow
  else
  fX9_readsItem_b100 fu z_typed z_text v34 0 g35 g36 g37 g38 g39 z_draft z_draftNow))
  else
  fX9_readsItem_b100 fu z_typed z_text v34 0 g35 g36 g37 g38 g39 z_draft z_draftNow))
  else
  (rd 34 z_draft 1).bind fun v3 =>
  (if p1 = 117 then
  fX9_readsItem_b155 fu z_typed z_text v3 0 (2 + v3) z_token z_value z_fault z_place z_at z_draft z_draftNow
  else
  fX9_readsItem_b155 fu z_typed z_text v3 1 (2 + v3) z_token z_value z_fault z_place z_at z_draft z_draftNow)))
-- HalfPlanksModel.settles()V
def fX9_settles_b28_body (fu : Nat) (z_draft : Nat → Int32) (z_draftNow : Nat → Int32) (r28 : Int32 → (Nat → Int32) → (Nat → Int32) → (Nat → Int32) → Int32 → Int32 → Int32 → Option ((Nat → Int32) × (Nat → Int32) × (Nat → Int32) × Int32 × Int32 × Int32)) (l1 : Int32) (z_told : Nat → Int32) (z_s : Nat → Int32) (z_isKept : Nat → Int32) (z_typed : Int32) (z_seenMany : Int32) (z_undoMany : Int32) : Option ((Nat → Int32) × (Nat → Int32) × (Nat → Int32) × Int32 × Int32 × Int32) :=
  (if 66 ≤ l1 then
  (wr 2 z_isKept 0 (vp_nar .boolean 0)).bind fun g3 =>
  (wr 2 g3 1 (vp_nar .boolean 0)).bind fun g4 =>
  some (z_told, z_s, g4, 0, 0, 0)
  else
  (rd 66 z_draftNow l1).bind fun v5 =>
  (wr 66 z_s l1 v5).bind fun g6 =>
  r28 (l1 + 1) z_told g6 z_isKept z_typed z_seenMany z_undoMany)
def fX9_settles_b28 (fu : Nat) (z_draft : Nat → Int32) (z_draftNow : Nat → Int32) : Nat → Int32 → (Nat → Int32) → (Nat → Int32) → (Nat → Int32) → Int32 → Int32 → Int32 → Option ((Nat → Int32) × (Nat → Int32) × (Nat → Int32) × Int32 × Int32 × Int32)
  | 0, _, _, _, _, _, _, _ => none
  | n + 1, l1, z_told, z_s, z_isKept, z_typed, z_seenMany, z_undoMany => fX9_settles_b28_body fu z_draft z_draftNow (fX9_settles_b28 fu z_draft z_draftNow n) l1 z_told z_s z_isKept z_typed z_seenMany z_undoMany
def fX9_settles_b2_body (fu : Nat) (z_draft : Nat → Int32) (z_draftNow : Nat → Int32) (r2 : Int32 → (Nat → Int32) → (Nat → Int32) → (Nat → Int32) → Int32 → Int32 → Int32 → Option ((Nat → Int32) × (Nat → Int32) × (Nat → Int32) × Int32 × Int32 × Int32)) (l1 : Int32) (z_told : Nat → Int32) (z_s : Nat → Int32) (z_isKept : Nat → Int32) (z_typed : Int32) (z_seenMany : Int32) (z_undoMany : Int32) : Option ((Nat → Int32) × (Nat → Int32) × (Nat → Int32) × Int32 × Int32 × Int32) :=
  (if 34 ≤ l1 then
  fX9_settles_b28 fu z_draft z_draftNow fu 0 z_told z_s z_isKept z_typed z_seenMany z_undoMany
  else
  (rd 34 z_draft l1).bind fun v7 =>
  (wr 34 z_told l1 v7).bind fun g8 =>
  r2 (l1 + 1) g8 z_s z_isKept z_typed z_seenMany z_undoMany)
def fX9_settles_b2 (fu : Nat) (z_draft : Nat → Int32) (z_draftNow : Nat → Int32) : Nat → Int32 → (Nat → Int32) → (Nat → Int32) → (Nat → Int32) → Int32 → Int32 → Int32 → Option ((Nat → Int32) × (Nat → Int32) × (Nat → Int32) × Int32 × Int32 × Int32)
  | 0, _, _, _, _, _, _, _ => none
  | n + 1, l1, z_told, z_s, z_isKept, z_typed, z_seenMany, z_undoMany => fX9_settles_b2_body fu z_draft z_draftNow (fX9_settles_b2 fu z_draft z_draftNow n) l1 z_told z_s z_isKept z_typed z_seenMany z_undoMany
def fX9_settles (fu : Nat) (z_draft : Nat → Int32) (z_draftNow : Nat → Int32) (z_told : Nat → Int32) (z_s : Nat → Int32) (z_isKept : Nat → Int32) (z_typed : Int32) (z_seenMany : Int32) (z_undoMany : Int32) : Option ((Nat → Int32) × (Nat → Int32) × (Nat → Int32) × Int32 × Int32 × Int32) :=
  fX9_settles_b2 fu z_draft z_draftNow fu 0 z_told z_s z_isKept z_typed z_seenMany z_undoMany
-- HalfPlanksModel.gorge()I
def fX9_gorge_b101 (fu : Nat) (z_text : Nat → Int32) (l1 : Int32) (z_draft : Nat → Int32) (z_draftNow : Nat → Int32) (z_at : Int32) (z_typed : Int32) (z_value : Int32) (z_place : Int32) (z_fault : Int32) (z_token : Int32) (z_told : Nat → Int32) (z_s : Nat → Int32) (z_isKept : Nat → Int32) (z_thrown : Int32) (z_seenMany : Int32) (z_undoMany : Int32) : Option (Int32 × (Nat → Int32) × (Nat → Int32) × Int32 × Int32 × Int32 × Int32 × Int32 × Int32 × (Nat → Int32) × (Nat → Int32) × (Nat → Int32) × Int32 × Int32 × Int32) :=
  (fX9_isWell fu z_fault).bind fun v11 =>
  (if v11 = 0 then
  some (((-10) - z_fault), z_draft, z_draftNow, z_at, z_typed, z_value, z_place, z_fault, z_token, z_told, z_s, z_isKept, z_thrown, z_seenMany, z_undoMany)
  else
  (fX9_settles fu z_draft z_draftNow z_told z_s z_isKept z_typed z_seenMany z_undoMany).bind fun (g14, g15, g16, g17, g18, g19) =>
  some (l1, z_draft, z_draftNow, z_at, g17, z_value, z_place, z_fault, z_token, g14, g15, g16, z_thrown, g18, g19))
def fX9_gorge_b91 (fu : Nat) (z_text : Nat → Int32) (r25 : Int32 → (Nat → Int32) → (Nat → Int32) → Int32 → Int32 → Int32 → Int32 → Int32 → Int32 → (Nat → Int32) → (Nat → Int32) → (Nat → Int32) → Int32 → Int32 → Int32 → Option (Int32 × (Nat → Int32) × (Nat → Int32) × Int32 × Int32 × Int32 × Int32 × Int32 × Int32 × (Nat → Int32) × (Nat → Int32) × (Nat → Int32) × Int32 × Int32 × Int32)) (l1 : Int32) (s0 : Int32) (z_draft : Nat → Int32) (z_draftNow : Nat → Int32) (z_at : Int32) (z_typed : Int32) (z_value : Int32) (z_place : Int32) (z_fault : Int32) (z_token : Int32) (z_told : Nat → Int32) (z_s : Nat → Int32) (z_isKept : Nat → Int32) (z_thrown : Int32) (z_seenMany : Int32) (z_undoMany : Int32) : Option (Int32 × (Nat → Int32) × (Nat → Int32) × Int32 × Int32 × Int32 × Int32 × Int32 × Int32 × (Nat → Int32) × (Nat → Int32) × (Nat → Int32) × Int32 × Int32 × Int32) :=
  (fX9_takes fu z_typed z_text z_fault z_place z_value z_at z_token s0).bind fun (v31, g32, g33, g34, g35, g36) =>
  r25 (l1 + 1) z_draft z_draftNow g35 z_typed g34 g33 g32 g36 z_told z_s z_isKept z_thrown z_seenMany z_undoMany
def fX9_gorge_b77 (fu : Nat) (z_text : Nat → Int32) (r25 : Int32 → (Nat → Int32) → (Nat → Int32) → Int32 → Int32 → Int32 → Int32 → Int32 → Int32 → (Nat → Int32) → (Nat → Int32) → (Nat → Int32) → Int32 → Int32 → Int32 → Option (Int32 × (Nat → Int32) × (Nat → Int32) × Int32 × Int32 × Int32 × Int32 × Int32 × Int32 × (Nat → Int32) × (Nat → Int32) × (Nat → Int32) × Int32 × Int32 × Int32)) (l1 : Int32) (z_draft : Nat → Int32) (z_draftNow : Nat → Int32) (z_at : Int32) (z_typed : Int32) (z_value : Int32) (z_place : Int32) (z_fault : Int32) (z_token : Int32) (z_told : Nat → Int32) (z_s : Nat → Int32) (z_isKept : Nat → Int32) (z_thrown : Int32) (z_seenMany : Int32) (z_undoMany : Int32) : Option (Int32 × (Nat → Int32) × (Nat → Int32) × Int32 × Int32 × Int32 × Int32 × Int32 × Int32 × (Nat → Int32) × (Nat → Int32) × (Nat → Int32) × Int32 × Int32 × Int32) :=
  (if z_token = 3 then
  fX9_gorge_b91 fu z_text r25 l1 1 z_draft z_draftNow z_at z_typed z_value z_place z_fault z_token z_told z_s z_isKept z_thrown z_seenMany z_undoMany
  else
  fX9_gorge_b91 fu z_text r25 l1 0 z_draft z_draftNow z_at z_typed z_value z_place z_fault z_token z_told z_s z_isKept z_thrown z_seenMany z_undoMany)
def fX9_gorge_b61 (fu : Nat) (z_text : Nat → Int32) (r25 : Int32 → (Nat → Int32) → (Nat → Int32) → Int32 → Int32 → Int32 → Int32 → Int32 → Int32 → (Nat → Int32) → (Nat → Int32) → (Nat → Int32) → Int32 → Int32 → Int32 → Option (Int32 × (Nat → Int32) × (Nat → Int32) × Int32 × Int32 × Int32 × Int32 × Int32 × Int32 × (Nat → Int32) × (Nat → Int32) × (Nat → Int32) × Int32 × Int32 × Int32)) (l1 : Int32) (s0 : Int32) (z_draft : Nat → Int32) (z_draftNow : Nat → Int32) (z_at : Int32) (z_typed : Int32) (z_value : Int32) (z_place : Int32) (z_fault : Int32) (z_token : Int32) (z_told : Nat → Int32) (z_s : Nat → Int32) (z_isKept : Nat → Int32) (z_thrown : Int32) (z_seenMany : Int32) (z_undoMany : Int32) : Option (Int32 × (Nat → Int32) × (Nat → Int32) × Int32 × Int32 × Int32 × Int32 × Int32 × Int32 × (Nat → Int32) × (Nat → Int32) × (Nat → Int32) × Int32 × Int32 × Int32) :=
  (fX9_takes fu z_typed z_text z_fault z_place z_value z_at z_token s0).bind fun (v22, g23, g24, g25, g26, g27) =>
  (fX9_isWell fu g23).bind fun v28 =>
  (if v28 = 0 then
  fX9_gorge_b77 fu z_text r25 l1 z_draft z_draftNow g26 z_typed g25 g24 g23 g27 z_told z_s z_isKept z_thrown z_seenMany z_undoMany
  else
  (fX9_readsItem fu z_typed z_text g27 g25 g23 g24 g26 z_draft z_draftNow v22).bind fun (g38, g39, g40, g41, g42, g43, g44) =>
  fX9_gorge_b77 fu z_text r25 l1 g43 g44 g42 z_typed g39 g41 g40 g38 z_told z_s z_isKept z_thrown z_seenMany z_undoMany)
def fX9_gorge_b25_body (fu : Nat) (z_text : Nat → Int32) (r25 : Int32 → (Nat → Int32) → (Nat → Int32) → Int32 → Int32 → Int32 → Int32 → Int32 → Int32 → (Nat → Int32) → (Nat → Int32) → (Nat → Int32) → Int32 → Int32 → Int32 → Option (Int32 × (Nat → Int32) × (Nat → Int32) × Int32 × Int32 × Int32 × Int32 × Int32 × Int32 × (Nat → Int32) × (Nat → Int32) × (Nat → Int32) × Int32 × Int32 × Int32)) (l1 : Int32) (z_draft : Nat → Int32) (z_draftNow : Nat → Int32) (z_at : Int32) (z_typed : Int32) (z_value : Int32) (z_place : Int32) (z_fault : Int32) (z_token : Int32) (z_told : Nat → Int32) (z_s : Nat → Int32) (z_isKept : Nat → Int32) (z_thrown : Int32) (z_seenMany : Int32) (z_undoMany : Int32) : Option (Int32 × (Nat → Int32) × (Nat → Int32) × Int32 × Int32 × Int32 × Int32 × Int32 × Int32 × (Nat → Int32) × (Nat → Int32) × (Nat → Int32) × Int32 × Int32 × Int32) :=
  (fX9_isWell fu z_fault).bind fun v9 =>
  (if v9 = 0 then
  fX9_gorge_b101 fu z_text l1 z_draft z_draftNow z_at z_typed z_value z_place z_fault z_token z_told z_s z_isKept z_thrown z_seenMany z_undoMany
  else
  (if z_token = 0 then
  fX9_gorge_b101 fu z_text l1 z_draft z_draftNow z_at z_typed z_value z_place z_fault z_token z_told z_s z_isKept z_thrown z_seenMany z_undoMany
  else
  (if z_token = 1 then
  (fX9_mayBegin fu z_value z_draft l1).bind fun v45 =>
  (if v45 = 0 then
  fX9_gorge_b61 fu z_text r25 l1 0 z_draft z_draftNow z_at z_typed z_value z_place z_fault z_token z_told z_s z_isKept z_thrown z_seenMany z_undoMany
  else
  fX9_gorge_b61 fu z_text r25 l1 1 z_draft z_draftNow z_at z_typed z_value z_place z_fault z_token z_told z_s z_isKept z_thrown z_seenMany z_undoMany)
  else
  fX9_gorge_b61 fu z_text r25 l1 0 z_draft z_draftNow z_at z_typed z_value z_place z_fault z_token z_told z_s z_isKept z_thrown z_seenMany z_undoMany)))
def fX9_gorge_b25 (fu : Nat) (z_text : Nat → Int32) : Nat → Int32 → (Nat → Int32) → (Nat → Int32) → Int32 → Int32 → Int32 → Int32 → Int32 → Int32 → (Nat → Int32) → (Nat → Int32) → (Nat → Int32) → Int32 → Int32 → Int32 → Option (Int32 × (Nat → Int32) × (Nat → Int32) × Int32 × Int32 × Int32 × Int32 × Int32 × Int32 × (Nat → Int32) × (Nat → Int32) × (Nat → Int32) × Int32 × Int32 × Int32)
  | 0, _, _, _, _, _, _, _, _, _, _, _, _, _, _, _ => none
  | n + 1, l1, z_draft, z_draftNow, z_at, z_typed, z_value, z_place, z_fault, z_token, z_told, z_s, z_isKept, z_thrown, z_seenMany, z_undoMany => fX9_gorge_b25_body fu z_text (fX9_gorge_b25 fu z_text n) l1 z_draft z_draftNow z_at z_typed z_value z_place z_fault z_token z_told z_s z_isKept z_thrown z_seenMany z_undoMany
def fX9_gorge (fu : Nat) (z_text : Nat → Int32) (z_draft : Nat → Int32) (z_draftNow : Nat → Int32) (z_at : Int32) (z_typed : Int32) (z_value : Int32) (z_place : Int32) (z_fault : Int32) (z_token : Int32) (z_told : Nat → Int32) (z_s : Nat → Int32) (z_isKept : Nat → Int32) (z_thrown : Int32) (z_seenMany : Int32) (z_undoMany : Int32) : Option (Int32 × (Nat → Int32) × (Nat → Int32) × Int32 × Int32 × Int32 × Int32 × Int32 × Int32 × (Nat → Int32) × (Nat → Int32) × (Nat → Int32) × Int32 × Int32 × Int32) :=
  (fX9_begins fu z_draft z_draftNow).bind fun (g2, g3) =>
  (fX9_advances fu z_typed z_text 0 z_value z_place z_token).bind fun (g5, g6, g7, g8) =>
  fX9_gorge_b25 fu z_text fu 0 g2 g3 g5 z_typed g6 g7 (-1) g8 z_told z_s z_isKept 0 z_seenMany z_undoMany
-- HalfPlanksModel.isPerson(I)Z
def fX9_isPerson (fu : Nat) (z_told : Nat → Int32) (p1 : Int32) : Option (Int32) :=
  (rd 34 z_told 1).bind fun v1 =>
  (fX9_in fu p1 0 (v1 - 1)).bind fun v2 =>
  (zb v2).bind fun v3 =>
  some (v2)
-- HalfPlanksModel.isPlank(I)Z
def fX9_isPlank (fu : Nat) (z_told : Nat → Int32) (p1 : Int32) : Option (Int32) :=
  (rd 34 z_told 0).bind fun v1 =>
  (fX9_in fu p1 0 (v1 - 1)).bind fun v2 =>
  (zb v2).bind fun v3 =>
  some (v2)
-- HalfPlanksModel.cameFor([II)I
def fX9_cameFor_b5_body (fu : Nat) (z_told : Nat → Int32) (z_p1 : Nat → Int32) (r5 : Int32 → Int32 → Int32 → Option (Int32)) (l2 : Int32) (l3 : Int32) (l4 : Int32) : Option (Int32) :=
  (rd 34 z_told 1).bind fun v1 =>
  (if v1 ≤ l4 then
  some (l3)
  else
  (rd 66 z_p1 ((2 + (8 * l4)) + l2)).bind fun v3 =>
  (if v3 = (-1) then
  r5 l2 (l3 ||| ((1 : Int32) <<< (l4 &&& 31))) (l4 + 1)
  else
  r5 l2 (l3 ||| 0) (l4 + 1)))
def fX9_cameFor_b5 (fu : Nat) (z_told : Nat → Int32) (z_p1 : Nat → Int32) : Nat → Int32 → Int32 → Int32 → Option (Int32)
  | 0, _, _, _ => none
  | n + 1, l2, l3, l4 => fX9_cameFor_b5_body fu z_told z_p1 (fX9_cameFor_b5 fu z_told z_p1 n) l2 l3 l4
def fX9_cameFor (fu : Nat) (z_told : Nat → Int32) (z_p1 : Nat → Int32) (p2 : Int32) : Option (Int32) :=
  fX9_cameFor_b5 fu z_told z_p1 fu p2 0 0
-- HalfPlanksModel.holdOf(III)I
def fX9_holdOf_b79_body (fu : Nat) (z_told : Nat → Int32) (r79 : Int32 → Int32 → Int32 → Int32 → Option (Int32)) (l3 : Int32) (l5 : Int32) (l6 : Int32) (l7 : Int32) : Option (Int32) :=
  (rd 34 z_told 1).bind fun v6 =>
  (if v6 ≤ l7 then
  (if l6 = 0 then
  some ((2 * l5))
  else
  some (0))
  else
  (if l6 = 0 then
  (fX9_has fu l3 l7).bind fun v10 =>
  (if v10 = 0 then
  r79 l3 l5 0 (l7 + 1)
  else
  (rd 34 z_told (10 + l7)).bind fun v12 =>
  (if v12 = 3 then
  r79 l3 l5 1 (l7 + 1)
  else
  r79 l3 l5 0 (l7 + 1)))
  else
  r79 l3 l5 1 (l7 + 1)))
def fX9_holdOf_b79 (fu : Nat) (z_told : Nat → Int32) : Nat → Int32 → Int32 → Int32 → Int32 → Option (Int32)
  | 0, _, _, _, _ => none
  | n + 1, l3, l5, l6, l7 => fX9_holdOf_b79_body fu z_told (fX9_holdOf_b79 fu z_told n) l3 l5 l6 l7
def fX9_holdOf (fu : Nat) (z_told : Nat → Int32) (p1 : Int32) (p2 : Int32) (p3 : Int32) : Option (Int32) :=
  (rd 34 z_told (10 + p1)).bind fun v1 =>
  (rd 34 z_told (18 + p1)).bind fun v2 =>
  (if v1 = 2 then
  (if 3 ≤ v2 then
  some (3)
  else
  some (v2))
  else
  (if v1 = 4 then
  (rmI p2 2).bind fun v14 =>
  (if v14 = 1 then
  some ((2 * v2))
  else
  some (v2))
  else
  (if v1 = 5 then
  fX9_holdOf_b79 fu z_told fu p3 v2 0 0
  else
  some (v2))))
-- HalfPlanksModel.standing(III)I
def fX9_standing_b49 (fu : Nat) (z_told : Nat → Int32) (r6 : Int32 → Int32 → Int32 → Int32 → Int32 → Option (Int32)) (l1 : Int32) (l2 : Int32) (l3 : Int32) (l4 : Int32) (l5 : Int32) (s0 : Int32) : Option (Int32) :=
  (if s0 = 0 then
  r6 l1 l2 l3 (l4 ||| 0) (l5 + 1)
  else
  (fX9_has fu l2 l5).bind fun v6 =>
  (if v6 = 0 then
  r6 l1 l2 l3 (l4 ||| 0) (l5 + 1)
  else
  (fX9_holdOf fu z_told l5 l1 l2).bind fun v8 =>
  (if v8 ≤ 0 then
  r6 l1 l2 l3 (l4 ||| 0) (l5 + 1)
  else
  r6 l1 l2 l3 (l4 ||| ((1 : Int32) <<< (l5 &&& 31))) (l5 + 1))))
def fX9_standing_b6_body (fu : Nat) (z_told : Nat → Int32) (r6 : Int32 → Int32 → Int32 → Int32 → Int32 → Option (Int32)) (l1 : Int32) (l2 : Int32) (l3 : Int32) (l4 : Int32) (l5 : Int32) : Option (Int32) :=
  (rd 34 z_told 1).bind fun v1 =>
  (if v1 ≤ l5 then
  some (l4)
  else
  (rd 34 z_told (2 + l5)).bind fun v3 =>
  (if v3 = l3 then
  fX9_standing_b49 fu z_told r6 l1 l2 l3 l4 l5 1
  else
  (rd 34 z_told (10 + l5)).bind fun v10 =>
  (if v10 = 3 then
  fX9_standing_b49 fu z_told r6 l1 l2 l3 l4 l5 1
  else
  fX9_standing_b49 fu z_told r6 l1 l2 l3 l4 l5 0)))
def fX9_standing_b6 (fu : Nat) (z_told : Nat → Int32) : Nat → Int32 → Int32 → Int32 → Int32 → Int32 → Option (Int32)
  | 0, _, _, _, _, _ => none
  | n + 1, l1, l2, l3, l4, l5 => fX9_standing_b6_body fu z_told (fX9_standing_b6 fu z_told n) l1 l2 l3 l4 l5
def fX9_standing (fu : Nat) (z_told : Nat → Int32) (p1 : Int32) (p2 : Int32) (p3 : Int32) : Option (Int32) :=
  fX9_standing_b6 fu z_told fu p1 p2 p3 0 0
-- HalfPlanksModel.bearsBy(II)I
def fX9_bearsBy_b95 (fu : Nat) (z_told : Nat → Int32) (r23 : Int32 → Int32 → Int32 → Int32 → Int32 → Int32 → Option (Int32)) (r37 : Int32 → Int32 → Int32 → Int32 → Int32 → Int32 → Int32 → Option (Int32)) (l1 : Int32) (l2 : Int32) (l3 : Int32) (l4 : Int32) (l5 : Int32) (l6 : Int32) (l7 : Int32) (s0 : Int32) : Option (Int32) :=
  (if s0 ≤ l5 then
  r37 l1 l2 l3 l4 l5 l6 (l7 + 1)
  else
  r37 l1 l2 l3 l4 s0 l6 (l7 + 1))
def fX9_bearsBy_b37_body (fu : Nat) (z_told : Nat → Int32) (r23 : Int32 → Int32 → Int32 → Int32 → Int32 → Int32 → Option (Int32)) (r37 : Int32 → Int32 → Int32 → Int32 → Int32 → Int32 → Int32 → Option (Int32)) (l1 : Int32) (l2 : Int32) (l3 : Int32) (l4 : Int32) (l5 : Int32) (l6 : Int32) (l7 : Int32) : Option (Int32) :=
  (rd 34 z_told 1).bind fun v5 =>
  (if v5 ≤ l7 then
  r23 l1 l2 l3 l4 l5 (l6 + 1)
  else
  (if l6 = l7 then
  fX9_bearsBy_b95 fu z_told r23 r37 l1 l2 l3 l4 l5 l6 l7 0
  else
  (fX9_has fu l3 l6).bind fun v9 =>
  (if v9 = 0 then
  fX9_bearsBy_b95 fu z_told r23 r37 l1 l2 l3 l4 l5 l6 l7 0
  else
  (fX9_has fu l4 l7).bind fun v11 =>
  (if v11 = 0 then
  fX9_bearsBy_b95 fu z_told r23 r37 l1 l2 l3 l4 l5 l6 l7 0
  else
  (fX9_holdOf fu z_told l6 l1 l2).bind fun v13 =>
  (fX9_holdOf fu z_told l7 l1 l2).bind fun v14 =>
  fX9_bearsBy_b95 fu z_told r23 r37 l1 l2 l3 l4 l5 l6 l7 (v13 + v14)))))
def fX9_bearsBy_b37 (fu : Nat) (z_told : Nat → Int32) (r23 : Int32 → Int32 → Int32 → Int32 → Int32 → Int32 → Option (Int32)) : Nat → Int32 → Int32 → Int32 → Int32 → Int32 → Int32 → Int32 → Option (Int32)
  | 0, _, _, _, _, _, _, _ => none
  | n + 1, l1, l2, l3, l4, l5, l6, l7 => fX9_bearsBy_b37_body fu z_told r23 (fX9_bearsBy_b37 fu z_told r23 n) l1 l2 l3 l4 l5 l6 l7
def fX9_bearsBy_b23_body (fu : Nat) (z_told : Nat → Int32) (r23 : Int32 → Int32 → Int32 → Int32 → Int32 → Int32 → Option (Int32)) (l1 : Int32) (l2 : Int32) (l3 : Int32) (l4 : Int32) (l5 : Int32) (l6 : Int32) : Option (Int32) :=
  (rd 34 z_told 1).bind fun v3 =>
  (if v3 ≤ l6 then
  some (l5)
  else
  fX9_bearsBy_b37 fu z_told r23 fu l1 l2 l3 l4 l5 l6 0)
def fX9_bearsBy_b23 (fu : Nat) (z_told : Nat → Int32) : Nat → Int32 → Int32 → Int32 → Int32 → Int32 → Int32 → Option (Int32)
  | 0, _, _, _, _, _, _ => none
  | n + 1, l1, l2, l3, l4, l5, l6 => fX9_bearsBy_b23_body fu z_told (fX9_bearsBy_b23 fu z_told n) l1 l2 l3 l4 l5 l6
def fX9_bearsBy (fu : Nat) (z_told : Nat → Int32) (p1 : Int32) (p2 : Int32) : Option (Int32) :=
  (fX9_standing fu z_told p1 p2 0).bind fun v1 =>
  (fX9_standing fu z_told p1 p2 1).bind fun v2 =>
  fX9_bearsBy_b23 fu z_told fu p1 p2 v1 v2 0 0
-- HalfPlanksModel.bridge([I)I
def fX9_bridge_b5_body (fu : Nat) (z_told : Nat → Int32) (z_p1 : Nat → Int32) (r5 : Int32 → Int32 → Option (Int32)) (l2 : Int32) (l3 : Int32) : Option (Int32) :=
  (rd 34 z_told 0).bind fun v1 =>
  (if v1 ≤ l3 then
  some (l2)
  else
  (fX9_cameFor fu z_told z_p1 l3).bind fun v3 =>
  (fX9_bearsBy fu z_told l3 v3).bind fun v4 =>
  (if l2 ≤ v4 then
  r5 l2 (l3 + 1)
  else
  r5 v4 (l3 + 1)))
def fX9_bridge_b5 (fu : Nat) (z_told : Nat → Int32) (z_p1 : Nat → Int32) : Nat → Int32 → Int32 → Option (Int32)
  | 0, _, _ => none
  | n + 1, l2, l3 => fX9_bridge_b5_body fu z_told z_p1 (fX9_bridge_b5 fu z_told z_p1 n) l2 l3
def fX9_bridge (fu : Nat) (z_told : Nat → Int32) (z_p1 : Nat → Int32) : Option (Int32) :=
  fX9_bridge_b5 fu z_told z_p1 fu 99 0
-- HalfPlanksModel.lying([I)I
def fX9_lying_b4_body (fu : Nat) (z_told : Nat → Int32) (z_p1 : Nat → Int32) (r4 : Int32 → Int32 → Option (Int32)) (l2 : Int32) (l3 : Int32) : Option (Int32) :=
  (rd 34 z_told 0).bind fun v1 =>
  (if v1 ≤ l3 then
  some (l2)
  else
  (fX9_cameFor fu z_told z_p1 l3).bind fun v3 =>
  (fX9_bearsBy fu z_told l3 v3).bind fun v4 =>
  (if v4 ≤ 0 then
  r4 (l2 ||| 0) (l3 + 1)
  else
  r4 (l2 ||| ((1 : Int32) <<< (l3 &&& 31))) (l3 + 1)))
def fX9_lying_b4 (fu : Nat) (z_told : Nat → Int32) (z_p1 : Nat → Int32) : Nat → Int32 → Int32 → Option (Int32)
  | 0, _, _ => none
  | n + 1, l2, l3 => fX9_lying_b4_body fu z_told z_p1 (fX9_lying_b4 fu z_told z_p1 n) l2 l3
def fX9_lying (fu : Nat) (z_told : Nat → Int32) (z_p1 : Nat → Int32) : Option (Int32) :=
  fX9_lying_b4 fu z_told z_p1 fu 0 0
-- HalfPlanksModel.asNow()V
def fX9_asNow_b2_body (fu : Nat) (z_s : Nat → Int32) (r2 : Int32 → (Nat → Int32) → Option ((Nat → Int32))) (l1 : Int32) (z_w : Nat → Int32) : Option ((Nat → Int32)) :=
  (if 66 ≤ l1 then
  some (z_w)
  else
  (rd 66 z_s l1).bind fun v2 =>
  (wr 66 z_w l1 v2).bind fun g3 =>
  r2 (l1 + 1) g3)
def fX9_asNow_b2 (fu : Nat) (z_s : Nat → Int32) : Nat → Int32 → (Nat → Int32) → Option ((Nat → Int32))
  | 0, _, _ => none
  | n + 1, l1, z_w => fX9_asNow_b2_body fu z_s (fX9_asNow_b2 fu z_s n) l1 z_w
def fX9_asNow (fu : Nat) (z_s : Nat → Int32) (z_w : Nat → Int32) : Option ((Nat → Int32)) :=
  fX9_asNow_b2 fu z_s fu 0 z_w
-- HalfPlanksModel.allBroken([II)V
def fX9_allBroken_b2_body (fu : Nat) (r2 : Int32 → Int32 → (Nat → Int32) → Option ((Nat → Int32))) (l2 : Int32) (l3 : Int32) (z_p1 : Nat → Int32) : Option ((Nat → Int32)) :=
  (if 8 ≤ l3 then
  some (z_p1)
  else
  (wr 66 z_p1 ((2 + (8 * l2)) + l3) 0).bind fun g2 =>
  r2 l2 (l3 + 1) g2)
def fX9_allBroken_b2 (fu : Nat) : Nat → Int32 → Int32 → (Nat → Int32) → Option ((Nat → Int32))
  | 0, _, _, _ => none
  | n + 1, l2, l3, z_p1 => fX9_allBroken_b2_body fu (fX9_allBroken_b2 fu n) l2 l3 z_p1
def fX9_allBroken (fu : Nat) (z_p1 : Nat → Int32) (p2 : Int32) : Option ((Nat → Int32)) :=
  fX9_allBroken_b2 fu fu p2 0 z_p1
-- HalfPlanksModel.given(IZ)I
def fX9_given_b49 (fu : Nat) (z_told : Nat → Int32) (z_s : Nat → Int32) (r5 : Int32 → Int32 → Int32 → Int32 → Option (Int32)) (l1 : Int32) (l2 : Int32) (l4 : Int32) (s0 : Int32) (s1 : Int32) : Option (Int32) :=
  (if s0 = l2 then
  r5 l1 l2 (s1 ||| ((1 : Int32) <<< (l4 &&& 31))) (l4 + 1)
  else
  r5 l1 l2 (s1 ||| 0) (l4 + 1))
def fX9_given_b5_body (fu : Nat) (z_told : Nat → Int32) (z_s : Nat → Int32) (r5 : Int32 → Int32 → Int32 → Int32 → Option (Int32)) (l1 : Int32) (l2 : Int32) (l3 : Int32) (l4 : Int32) : Option (Int32) :=
  (rd 34 z_told 0).bind fun v1 =>
  (if v1 ≤ l4 then
  some (l3)
  else
  (rd 66 z_s ((2 + (8 * l1)) + l4)).bind fun v3 =>
  (if v3 = 0 then
  r5 l1 l2 (l3 ||| 0) (l4 + 1)
  else
  (if v3 = (-1) then
  fX9_given_b49 fu z_told z_s r5 l1 l2 l4 1 l3
  else
  fX9_given_b49 fu z_told z_s r5 l1 l2 l4 0 l3)))
def fX9_given_b5 (fu : Nat) (z_told : Nat → Int32) (z_s : Nat → Int32) : Nat → Int32 → Int32 → Int32 → Int32 → Option (Int32)
  | 0, _, _, _, _ => none
  | n + 1, l1, l2, l3, l4 => fX9_given_b5_body fu z_told z_s (fX9_given_b5 fu z_told z_s n) l1 l2 l3 l4
def fX9_given (fu : Nat) (z_told : Nat → Int32) (z_s : Nat → Int32) (p1 : Int32) (p2 : Int32) : Option (Int32) :=
  fX9_given_b5 fu z_told z_s fu p1 p2 0 0
-- HalfPlanksModel.person(II)I
def fX9_person_b107 (fu : Nat) (z_told : Nat → Int32) (z_s : Nat → Int32) (s0 : Int32) (s1 : Int32) (z_w : Nat → Int32) (z_thrown : Int32) : Option (Int32 × (Nat → Int32) × Int32) :=
  (fX9_given fu z_told z_s s1 s0).bind fun v18 =>
  some (v18, z_w, z_thrown)
def fX9_person (fu : Nat) (z_told : Nat → Int32) (z_s : Nat → Int32) (z_w : Nat → Int32) (z_thrown : Int32) (p1 : Int32) (p2 : Int32) : Option (Int32 × (Nat → Int32) × Int32) :=
  (fX9_isPerson fu z_told p1).bind fun v1 =>
  (if v1 = 0 then
  some ((-1), z_w, 0)
  else
  (fX9_in fu p2 0 7).bind fun v3 =>
  (if v3 = 0 then
  some ((-1), z_w, 0)
  else
  (if 4 ≤ p2 then
  (if 6 ≤ p2 then
  (fX9_asNow fu z_s z_w).bind fun g8 =>
  (fX9_allBroken fu g8 p1).bind fun g10 =>
  (if p2 = 6 then
  (fX9_lying fu z_told z_s).bind fun v15 =>
  (fX9_lying fu z_told g10).bind fun v16 =>
  some ((v15 &&& (v16 ^^^ (-1))), g10, 0)
  else
  (fX9_bridge fu z_told z_s).bind fun v12 =>
  (fX9_bridge fu z_told g10).bind fun v13 =>
  (if 0 ≤ (v12 - v13) then
  some ((v12 - v13), g10, 0)
  else
  some (0, g10, 0)))
  else
  (if p2 = 4 then
  fX9_person_b107 fu z_told z_s 1 p1 z_w 0
  else
  fX9_person_b107 fu z_told z_s 0 p1 z_w 0))
  else
  (if p2 = 0 then
  (rd 34 z_told (2 + p1)).bind fun v25 =>
  some (v25, z_w, 0)
  else
  (if p2 = 1 then
  (rd 34 z_told (10 + p1)).bind fun v24 =>
  some (v24, z_w, 0)
  else
  (if p2 = 2 then
  (rd 34 z_told (18 + p1)).bind fun v23 =>
  some (v23, z_w, 0)
  else
  (rd 34 z_told (26 + p1)).bind fun v22 =>
  some (v22, z_w, 0)))))))
-- HalfPlanksModel.plank(II)I
def fX9_plank (fu : Nat) (z_told : Nat → Int32) (z_s : Nat → Int32) (z_thrown : Int32) (p1 : Int32) (p2 : Int32) : Option (Int32 × Int32) :=
  (fX9_isPlank fu z_told p1).bind fun v1 =>
  (if v1 = 0 then
  some ((-1), 0)
  else
  (fX9_in fu p2 0 2).bind fun v3 =>
  (if v3 = 0 then
  some ((-1), 0)
  else
  (fX9_cameFor fu z_told z_s p1).bind fun v5 =>
  (if p2 = 0 then
  (fX9_bearsBy fu z_told p1 v5).bind fun v8 =>
  some (v8, 0)
  else
  (fX9_standing fu z_told p1 v5 (p2 - 1)).bind fun v7 =>
  some (v7, 0))))
-- HalfPlanksModel.hold(II)I
def fX9_hold (fu : Nat) (z_told : Nat → Int32) (z_s : Nat → Int32) (z_thrown : Int32) (p1 : Int32) (p2 : Int32) : Option (Int32 × Int32) :=
  (fX9_isPerson fu z_told p1).bind fun v1 =>
  (if v1 = 0 then
  some ((-1), 0)
  else
  (fX9_isPlank fu z_told p2).bind fun v3 =>
  (if v3 = 0 then
  some ((-1), 0)
  else
  (fX9_cameFor fu z_told z_s p2).bind fun v5 =>
  (fX9_holdOf fu z_told p1 p2 v5).bind fun v6 =>
  some (v6, 0)))
-- HalfPlanksModel.underWay([I)I
def fX9_underWay_b4_body (fu : Nat) (z_p1 : Nat → Int32) (r4 : Int32 → Int32 → Option (Int32)) (l2 : Int32) (l3 : Int32) : Option (Int32) :=
  (if 66 ≤ l3 then
  some (l2)
  else
  (rd 66 z_p1 l3).bind fun v2 =>
  (if v2 ≤ 0 then
  r4 (l2 + 0) (l3 + 1)
  else
  r4 (l2 + 1) (l3 + 1)))
def fX9_underWay_b4 (fu : Nat) (z_p1 : Nat → Int32) : Nat → Int32 → Int32 → Option (Int32)
  | 0, _, _ => none
  | n + 1, l2, l3 => fX9_underWay_b4_body fu z_p1 (fX9_underWay_b4 fu z_p1 n) l2 l3
def fX9_underWay (fu : Nat) (z_p1 : Nat → Int32) : Option (Int32) :=
  fX9_underWay_b4 fu z_p1 fu 0 2
-- HalfPlanksModel.now(I)I
def fX9_now (fu : Nat) (z_s : Nat → Int32) (z_told : Nat → Int32) (z_undoMany : Int32) (z_thrown : Int32) (p1 : Int32) : Option (Int32 × Int32) :=
  (fX9_in fu p1 0 5).bind fun v1 =>
  (if v1 = 0 then
  some ((-1), 0)
  else
  (if 3 ≤ p1 then
  (if p1 = 3 then
  (rd 66 z_s 1).bind fun v7 =>
  some (v7, 0)
  else
  (if p1 = 4 then
  (fX9_underWay fu z_s).bind fun v6 =>
  some (v6, 0)
  else
  some (z_undoMany, 0)))
  else
  (if p1 = 0 then
  (rd 66 z_s 0).bind fun v12 =>
  some (v12, 0)
  else
  (if p1 = 1 then
  (fX9_bridge fu z_told z_s).bind fun v11 =>
  some (v11, 0)
  else
  (fX9_lying fu z_told z_s).bind fun v10 =>
  some (v10, 0)))))
-- HalfPlanksModel.notes()V
def fX9_notes_b47_body (fu : Nat) (z_s : Nat → Int32) (r47 : Int32 → Int32 → (Nat → Int32) → Option (Int32 × (Nat → Int32))) (l1 : Int32) (z_undoMany : Int32) (z_undos : Nat → Int32) : Option (Int32 × (Nat → Int32)) :=
  (if 66 ≤ l1 then
  some ((z_undoMany + 1), z_undos)
  else
  (rd 66 z_s l1).bind fun v3 =>
  (wr 660 z_undos ((66 * z_undoMany) + l1) v3).bind fun g4 =>
  r47 (l1 + 1) z_undoMany g4)
def fX9_notes_b47 (fu : Nat) (z_s : Nat → Int32) : Nat → Int32 → Int32 → (Nat → Int32) → Option (Int32 × (Nat → Int32))
  | 0, _, _, _ => none
  | n + 1, l1, z_undoMany, z_undos => fX9_notes_b47_body fu z_s (fX9_notes_b47 fu z_s n) l1 z_undoMany z_undos
def fX9_notes_b11_body (fu : Nat) (z_s : Nat → Int32) (r11 : Int32 → Int32 → (Nat → Int32) → Option (Int32 × (Nat → Int32))) (l1 : Int32) (z_undoMany : Int32) (z_undos : Nat → Int32) : Option (Int32 × (Nat → Int32)) :=
  (if 594 ≤ l1 then
  fX9_notes_b47 fu z_s fu 0 9 z_undos
  else
  (rd 660 z_undos (l1 + 66)).bind fun v6 =>
  (wr 660 z_undos l1 v6).bind fun g7 =>
  r11 (l1 + 1) z_undoMany g7)
def fX9_notes_b11 (fu : Nat) (z_s : Nat → Int32) : Nat → Int32 → Int32 → (Nat → Int32) → Option (Int32 × (Nat → Int32))
  | 0, _, _, _ => none
  | n + 1, l1, z_undoMany, z_undos => fX9_notes_b11_body fu z_s (fX9_notes_b11 fu z_s n) l1 z_undoMany z_undos
def fX9_notes (fu : Nat) (z_s : Nat → Int32) (z_undoMany : Int32) (z_undos : Nat → Int32) : Option (Int32 × (Nat → Int32)) :=
  (if z_undoMany = 10 then
  fX9_notes_b11 fu z_s fu 0 z_undoMany z_undos
  else
  fX9_notes_b47 fu z_s fu 0 z_undoMany z_undos)
-- HalfPlanksModel.posts([III)I
def fX9_posts_b92 (fu : Nat) (z_told : Nat → Int32) (l2 : Int32) (l3 : Int32) (s0 : Int32) (s1 : Int32) (z_p1 : Nat → Int32) : Option (Int32 × (Nat → Int32)) :=
  (wr 66 z_p1 ((2 + (8 * l2)) + l3) ((s1 + s0) + 1)).bind fun g6 =>
  some ((s1 + s0), g6)
def fX9_posts_b6_body (fu : Nat) (z_told : Nat → Int32) (r6 : Int32 → Int32 → Int32 → Int32 → (Nat → Int32) → Option (Int32 × (Nat → Int32))) (l2 : Int32) (l3 : Int32) (l4 : Int32) (l5 : Int32) (z_p1 : Nat → Int32) : Option (Int32 × (Nat → Int32)) :=
  (rd 34 z_told 1).bind fun v1 =>
  (if v1 ≤ l5 then
  (rd 66 z_p1 0).bind fun v3 =>
  (rd 34 z_told (26 + l2)).bind fun v4 =>
  (if l4 = 0 then
  fX9_posts_b92 fu z_told l2 l3 0 (v3 + v4) z_p1
  else
  fX9_posts_b92 fu z_told l2 l3 1 (v3 + v4) z_p1)
  else
  (if l4 = 0 then
  (rd 66 z_p1 ((2 + (8 * l5)) + l3)).bind fun v8 =>
  (if v8 ≤ 0 then
  r6 l2 l3 0 (l5 + 1) z_p1
  else
  (rd 34 z_told (2 + l5)).bind fun v10 =>
  (rd 34 z_told (2 + l2)).bind fun v11 =>
  (if v10 = v11 then
  r6 l2 l3 0 (l5 + 1) z_p1
  else
  r6 l2 l3 1 (l5 + 1) z_p1))
  else
  r6 l2 l3 1 (l5 + 1) z_p1))
def fX9_posts_b6 (fu : Nat) (z_told : Nat → Int32) : Nat → Int32 → Int32 → Int32 → Int32 → (Nat → Int32) → Option (Int32 × (Nat → Int32))
  | 0, _, _, _, _, _ => none
  | n + 1, l2, l3, l4, l5, z_p1 => fX9_posts_b6_body fu z_told (fX9_posts_b6 fu z_told n) l2 l3 l4 l5 z_p1
def fX9_posts (fu : Nat) (z_told : Nat → Int32) (z_p1 : Nat → Int32) (p2 : Int32) (p3 : Int32) : Option (Int32 × (Nat → Int32)) :=
  fX9_posts_b6 fu z_told fu p2 p3 0 0 z_p1
-- HalfPlanksModel.goes([I)I
def fX9_goes_b11_body (fu : Nat) (r11 : Int32 → Int32 → (Nat → Int32) → Option (Int32 × (Nat → Int32))) (l2 : Int32) (l3 : Int32) (z_p1 : Nat → Int32) : Option (Int32 × (Nat → Int32)) :=
  (if 66 ≤ l3 then
  some (l2, z_p1)
  else
  (rd 66 z_p1 l3).bind fun v4 =>
  (rd 66 z_p1 0).bind fun v5 =>
  (if v4 = (v5 + 1) then
  (wr 66 z_p1 l3 (-1)).bind fun g7 =>
  r11 (l2 + 1) (l3 + 1) g7
  else
  r11 l2 (l3 + 1) z_p1))
def fX9_goes_b11 (fu : Nat) : Nat → Int32 → Int32 → (Nat → Int32) → Option (Int32 × (Nat → Int32))
  | 0, _, _, _ => none
  | n + 1, l2, l3, z_p1 => fX9_goes_b11_body fu (fX9_goes_b11 fu n) l2 l3 z_p1
def fX9_goes (fu : Nat) (z_p1 : Nat → Int32) : Option (Int32 × (Nat → Int32)) :=
  (rd 66 z_p1 0).bind fun v1 =>
  (wr 66 z_p1 0 (v1 + 1)).bind fun g2 =>
  fX9_goes_b11 fu fu 0 2 g2
-- HalfPlanksModel.promises(II)I
def fX9_promises (fu : Nat) (z_told : Nat → Int32) (z_s : Nat → Int32) (z_undoMany : Int32) (z_undos : Nat → Int32) (z_thrown : Int32) (p1 : Int32) (p2 : Int32) : Option (Int32 × (Nat → Int32) × Int32 × (Nat → Int32) × Int32) :=
  (fX9_isPerson fu z_told p1).bind fun v1 =>
  (if v1 = 0 then
  some ((-1), z_s, z_undoMany, z_undos, 0)
  else
  (fX9_isPlank fu z_told p2).bind fun v3 =>
  (if v3 = 0 then
  some ((-1), z_s, z_undoMany, z_undos, 0)
  else
  (rd 66 z_s ((2 + (8 * p1)) + p2)).bind fun v5 =>
  (if v5 = 0 then
  (fX9_notes fu z_s z_undoMany z_undos).bind fun (g8, g9) =>
  (fX9_posts fu z_told z_s p1 p2).bind fun (v10, g11) =>
  some (v10, g11, g8, g9, 0)
  else
  some ((-2), z_s, z_undoMany, z_undos, 0))))
-- HalfPlanksModel.breaks(II)I
def fX9_breaks (fu : Nat) (z_told : Nat → Int32) (z_s : Nat → Int32) (z_undoMany : Int32) (z_undos : Nat → Int32) (z_thrown : Int32) (p1 : Int32) (p2 : Int32) : Option (Int32 × (Nat → Int32) × Int32 × (Nat → Int32) × Int32) :=
  (fX9_isPerson fu z_told p1).bind fun v1 =>
  (if v1 = 0 then
  some ((-1), z_s, z_undoMany, z_undos, 0)
  else
  (fX9_isPlank fu z_told p2).bind fun v3 =>
  (if v3 = 0 then
  some ((-1), z_s, z_undoMany, z_undos, 0)
  else
  (rd 66 z_s ((2 + (8 * p1)) + p2)).bind fun v5 =>
  (if v5 = 0 then
  some ((-2), z_s, z_undoMany, z_undos, 0)
  else
  (fX9_notes fu z_s z_undoMany z_undos).bind fun (g8, g9) =>
  (wr 66 z_s ((2 + (8 * p1)) + p2) 0).bind fun g10 =>
  (fX9_bridge fu z_told g10).bind fun v11 =>
  some (v11, g10, g8, g9, 0))))
-- HalfPlanksModel.days()I
def fX9_days (fu : Nat) (z_s : Nat → Int32) (z_undoMany : Int32) (z_undos : Nat → Int32) (z_thrown : Int32) : Option (Int32 × (Nat → Int32) × Int32 × (Nat → Int32) × Int32) :=
  (rd 66 z_s 0).bind fun v1 =>
  (if v1 = 999 then
  some ((-2), z_s, z_undoMany, z_undos, 0)
  else
  (fX9_notes fu z_s z_undoMany z_undos).bind fun (g4, g5) =>
  (fX9_goes fu z_s).bind fun (v6, g7) =>
  some (v6, g7, g4, g5, 0))
-- HalfPlanksModel.isLoad(I)Z
def fX9_isLoad (fu : Nat) (p0 : Int32) : Option (Int32) :=
  (fX9_in fu p0 1 36).bind fun v1 =>
  (zb v1).bind fun v2 =>
  some (v1)
-- HalfPlanksModel.crosses(I)I
def fX9_crosses (fu : Nat) (z_told : Nat → Int32) (z_s : Nat → Int32) (z_undoMany : Int32) (z_undos : Nat → Int32) (z_thrown : Int32) (p1 : Int32) : Option (Int32 × (Nat → Int32) × Int32 × (Nat → Int32) × Int32) :=
  (fX9_isLoad fu p1).bind fun v1 =>
  (if v1 = 0 then
  some ((-1), z_s, z_undoMany, z_undos, 0)
  else
  (fX9_bridge fu z_told z_s).bind fun v3 =>
  (if v3 < p1 then
  some ((-2), z_s, z_undoMany, z_undos, 0)
  else
  (rd 66 z_s 1).bind fun v5 =>
  (if v5 = 999 then
  some ((-2), z_s, z_undoMany, z_undos, 0)
  else
  (fX9_notes fu z_s z_undoMany z_undos).bind fun (g8, g9) =>
  (rd 66 z_s 1).bind fun v10 =>
  (wr 66 z_s 1 (v10 + 1)).bind fun g11 =>
  (rd 66 g11 1).bind fun v12 =>
  some (v12, g11, g8, g9, 0))))
-- HalfPlanksModel.undo()I
def fX9_undo_b27_body (fu : Nat) (z_undos : Nat → Int32) (r27 : Int32 → Int32 → (Nat → Int32) → Int32 → Option (Int32 × Int32 × (Nat → Int32) × Int32)) (l1 : Int32) (z_undoMany : Int32) (z_s : Nat → Int32) (z_thrown : Int32) : Option (Int32 × Int32 × (Nat → Int32) × Int32) :=
  (if 66 ≤ l1 then
  some (z_undoMany, z_undoMany, z_s, z_thrown)
  else
  (rd 660 z_undos ((66 * z_undoMany) + l1)).bind fun v3 =>
  (wr 66 z_s l1 v3).bind fun g4 =>
  r27 (l1 + 1) z_undoMany g4 z_thrown)
def fX9_undo_b27 (fu : Nat) (z_undos : Nat → Int32) : Nat → Int32 → Int32 → (Nat → Int32) → Int32 → Option (Int32 × Int32 × (Nat → Int32) × Int32)
  | 0, _, _, _, _ => none
  | n + 1, l1, z_undoMany, z_s, z_thrown => fX9_undo_b27_body fu z_undos (fX9_undo_b27 fu z_undos n) l1 z_undoMany z_s z_thrown
def fX9_undo (fu : Nat) (z_undos : Nat → Int32) (z_undoMany : Int32) (z_s : Nat → Int32) (z_thrown : Int32) : Option (Int32 × Int32 × (Nat → Int32) × Int32) :=
  (if z_undoMany = 0 then
  some ((-2), z_undoMany, z_s, 0)
  else
  fX9_undo_b27 fu z_undos fu 0 (z_undoMany - 1) z_s 0)
-- HalfPlanksModel.when(I)I
def fX9_when_b20_body (fu : Nat) (z_s : Nat → Int32) (z_told : Nat → Int32) (r20 : Int32 → Int32 → (Nat → Int32) → Int32 → Option (Int32 × (Nat → Int32) × Int32)) (l1 : Int32) (l2 : Int32) (z_w : Nat → Int32) (z_thrown : Int32) : Option (Int32 × (Nat → Int32) × Int32) :=
  (if 20 < l2 then
  some ((-9), z_w, z_thrown)
  else
  (fX9_bridge fu z_told z_w).bind fun v6 =>
  (if v6 < l1 then
  (fX9_goes fu z_w).bind fun (v8, g9) =>
  r20 l1 (l2 + 1) g9 z_thrown
  else
  some (l2, z_w, z_thrown)))
def fX9_when_b20 (fu : Nat) (z_s : Nat → Int32) (z_told : Nat → Int32) : Nat → Int32 → Int32 → (Nat → Int32) → Int32 → Option (Int32 × (Nat → Int32) × Int32)
  | 0, _, _, _, _ => none
  | n + 1, l1, l2, z_w, z_thrown => fX9_when_b20_body fu z_s z_told (fX9_when_b20 fu z_s z_told n) l1 l2 z_w z_thrown
def fX9_when (fu : Nat) (z_s : Nat → Int32) (z_told : Nat → Int32) (z_w : Nat → Int32) (z_thrown : Int32) (p1 : Int32) : Option (Int32 × (Nat → Int32) × Int32) :=
  (fX9_isLoad fu p1).bind fun v1 =>
  (if v1 = 0 then
  some ((-1), z_w, 0)
  else
  (fX9_asNow fu z_s z_w).bind fun g4 =>
  fX9_when_b20 fu z_s z_told fu p1 0 g4 0)
-- HalfPlanksModel.gaveFor(I)I
def fX9_gaveFor_b4_body (fu : Nat) (z_told : Nat → Int32) (z_s : Nat → Int32) (r4 : Int32 → Int32 → Int32 → Option (Int32)) (l1 : Int32) (l2 : Int32) (l3 : Int32) : Option (Int32) :=
  (rd 34 z_told 1).bind fun v1 =>
  (if v1 ≤ l3 then
  some (l2)
  else
  (rd 66 z_s ((2 + (8 * l3)) + l1)).bind fun v3 =>
  (if v3 = 0 then
  r4 l1 (l2 ||| 0) (l3 + 1)
  else
  r4 l1 (l2 ||| ((1 : Int32) <<< (l3 &&& 31))) (l3 + 1)))
def fX9_gaveFor_b4 (fu : Nat) (z_told : Nat → Int32) (z_s : Nat → Int32) : Nat → Int32 → Int32 → Int32 → Option (Int32)
  | 0, _, _, _ => none
  | n + 1, l1, l2, l3 => fX9_gaveFor_b4_body fu z_told z_s (fX9_gaveFor_b4 fu z_told z_s n) l1 l2 l3
def fX9_gaveFor (fu : Nat) (z_told : Nat → Int32) (z_s : Nat → Int32) (p1 : Int32) : Option (Int32) :=
  fX9_gaveFor_b4 fu z_told z_s fu p1 0 0
-- HalfPlanksModel.moreFor(II)I
def fX9_moreFor_b60 (fu : Nat) (z_told : Nat → Int32) (z_s : Nat → Int32) (r13 : Int32 → Int32 → Int32 → Int32 → Int32 → Option (Int32)) (l1 : Int32) (l2 : Int32) (l3 : Int32) (l4 : Int32) (l5 : Int32) (l6 : Int32) : Option (Int32) :=
  (fX9_bearsBy fu z_told l1 (l3 ||| l5)).bind fun v8 =>
  (if v8 < l2 then
  r13 l1 l2 l3 l4 (l5 + 1)
  else
  r13 l1 l2 l3 l6 (l5 + 1))
def fX9_moreFor_b13_body (fu : Nat) (z_told : Nat → Int32) (z_s : Nat → Int32) (r13 : Int32 → Int32 → Int32 → Int32 → Int32 → Option (Int32)) (l1 : Int32) (l2 : Int32) (l3 : Int32) (l4 : Int32) (l5 : Int32) : Option (Int32) :=
  (rd 34 z_told 1).bind fun v2 =>
  (if ((1 : Int32) <<< (v2 &&& 31)) ≤ l5 then
  some (l4)
  else
  (fX9_ones fu l5).bind fun v4 =>
  (if (l5 &&& l3) = 0 then
  (if 3 ≤ v4 then
  r13 l1 l2 l3 l4 (l5 + 1)
  else
  (if l4 = (-9) then
  fX9_moreFor_b60 fu z_told z_s r13 l1 l2 l3 l4 l5 v4
  else
  (if l4 ≤ v4 then
  r13 l1 l2 l3 l4 (l5 + 1)
  else
  fX9_moreFor_b60 fu z_told z_s r13 l1 l2 l3 l4 l5 v4)))
  else
  r13 l1 l2 l3 l4 (l5 + 1)))
def fX9_moreFor_b13 (fu : Nat) (z_told : Nat → Int32) (z_s : Nat → Int32) : Nat → Int32 → Int32 → Int32 → Int32 → Int32 → Option (Int32)
  | 0, _, _, _, _, _ => none
  | n + 1, l1, l2, l3, l4, l5 => fX9_moreFor_b13_body fu z_told z_s (fX9_moreFor_b13 fu z_told z_s n) l1 l2 l3 l4 l5
def fX9_moreFor (fu : Nat) (z_told : Nat → Int32) (z_s : Nat → Int32) (p1 : Int32) (p2 : Int32) : Option (Int32) :=
  (fX9_gaveFor fu z_told z_s p1).bind fun v1 =>
  fX9_moreFor_b13 fu z_told z_s fu p1 p2 v1 (-9) 0
-- HalfPlanksModel.fewest(II)I
def fX9_fewest_b43_body (fu : Nat) (z_told : Nat → Int32) (z_s : Nat → Int32) (r43 : Int32 → Int32 → Int32 → Int32 → Option (Int32 × Int32)) (l1 : Int32) (l3 : Int32) (l4 : Int32) (z_thrown : Int32) : Option (Int32 × Int32) :=
  (rd 34 z_told 0).bind fun v5 =>
  (if v5 ≤ l4 then
  some (l3, z_thrown)
  else
  (fX9_moreFor fu z_told z_s l4 l1).bind fun v7 =>
  (if v7 = (-9) then
  some ((-9), z_thrown)
  else
  r43 l1 (l3 + v7) (l4 + 1) z_thrown))
def fX9_fewest_b43 (fu : Nat) (z_told : Nat → Int32) (z_s : Nat → Int32) : Nat → Int32 → Int32 → Int32 → Int32 → Option (Int32 × Int32)
  | 0, _, _, _, _ => none
  | n + 1, l1, l3, l4, z_thrown => fX9_fewest_b43_body fu z_told z_s (fX9_fewest_b43 fu z_told z_s n) l1 l3 l4 z_thrown
def fX9_fewest_b27 (fu : Nat) (z_told : Nat → Int32) (z_s : Nat → Int32) (l1 : Int32) (l2 : Int32) (z_thrown : Int32) : Option (Int32 × Int32) :=
  (if l2 < 0 then
  fX9_fewest_b43 fu z_told z_s fu l1 0 0 z_thrown
  else
  (fX9_moreFor fu z_told z_s l2 l1).bind fun v9 =>
  some (v9, z_thrown))
def fX9_fewest (fu : Nat) (z_told : Nat → Int32) (z_s : Nat → Int32) (z_thrown : Int32) (p1 : Int32) (p2 : Int32) : Option (Int32 × Int32) :=
  (fX9_isLoad fu p1).bind fun v1 =>
  (if v1 = 0 then
  some ((-1), 0)
  else
  (if p2 = (-1) then
  fX9_fewest_b27 fu z_told z_s p1 p2 0
  else
  (fX9_isPlank fu z_told p2).bind fun v10 =>
  (if v10 = 0 then
  some ((-1), 0)
  else
  fX9_fewest_b27 fu z_told z_s p1 p2 0)))
-- HalfPlanksModel.canSoon(III)Z
def fX9_canSoon_b118_body (fu : Nat) (z_told : Nat → Int32) (z_s : Nat → Int32) (r118 : Int32 → Int32 → Int32 → Int32 → Int32 → Int32 → Option (Int32)) (l1 : Int32) (l2 : Int32) (l4 : Int32) (l5 : Int32) (l6 : Int32) (l7 : Int32) : Option (Int32) :=
  (rd 34 z_told 1).bind fun v4 =>
  (if ((1 : Int32) <<< (v4 &&& 31)) ≤ l7 then
  some (0)
  else
  (if (l7 &&& l4) = 0 then
  (fX9_ones fu l7).bind fun v7 =>
  (if 3 ≤ v7 then
  r118 l1 l2 l4 l5 l6 (l7 + 1)
  else
  (fX9_bearsBy fu z_told l1 (l5 ||| (l7 &&& l6))).bind fun v9 =>
  (if v9 < l2 then
  r118 l1 l2 l4 l5 l6 (l7 + 1)
  else
  some (1)))
  else
  r118 l1 l2 l4 l5 l6 (l7 + 1)))
def fX9_canSoon_b118 (fu : Nat) (z_told : Nat → Int32) (z_s : Nat → Int32) : Nat → Int32 → Int32 → Int32 → Int32 → Int32 → Int32 → Option (Int32)
  | 0, _, _, _, _, _, _ => none
  | n + 1, l1, l2, l4, l5, l6, l7 => fX9_canSoon_b118_body fu z_told z_s (fX9_canSoon_b118 fu z_told z_s n) l1 l2 l4 l5 l6 l7
def fX9_canSoon_b79 (fu : Nat) (z_told : Nat → Int32) (z_s : Nat → Int32) (r16 : Int32 → Int32 → Int32 → Int32 → Int32 → Int32 → Int32 → Option (Int32)) (l1 : Int32) (l2 : Int32) (l3 : Int32) (l4 : Int32) (l6 : Int32) (l7 : Int32) (s0 : Int32) (s1 : Int32) : Option (Int32) :=
  (rd 34 z_told (26 + l7)).bind fun v13 =>
  (if l3 < v13 then
  r16 l1 l2 l3 l4 (s1 ||| s0) (l6 ||| 0) (l7 + 1)
  else
  r16 l1 l2 l3 l4 (s1 ||| s0) (l6 ||| ((1 : Int32) <<< (l7 &&& 31))) (l7 + 1))
def fX9_canSoon_b16_body (fu : Nat) (z_told : Nat → Int32) (z_s : Nat → Int32) (r16 : Int32 → Int32 → Int32 → Int32 → Int32 → Int32 → Int32 → Option (Int32)) (l1 : Int32) (l2 : Int32) (l3 : Int32) (l4 : Int32) (l5 : Int32) (l6 : Int32) (l7 : Int32) : Option (Int32) :=
  (rd 34 z_told 1).bind fun v2 =>
  (if v2 ≤ l7 then
  fX9_canSoon_b118 fu z_told z_s fu l1 l2 l4 l5 l6 0
  else
  (rd 66 z_s ((2 + (8 * l7)) + l1)).bind fun v11 =>
  (if v11 = (-1) then
  fX9_canSoon_b79 fu z_told z_s r16 l1 l2 l3 l4 l6 l7 ((1 : Int32) <<< (l7 &&& 31)) l5
  else
  (if v11 ≤ 0 then
  fX9_canSoon_b79 fu z_told z_s r16 l1 l2 l3 l4 l6 l7 0 l5
  else
  (rd 66 z_s 0).bind fun v16 =>
  (if (v16 + l3) < (v11 - 1) then
  fX9_canSoon_b79 fu z_told z_s r16 l1 l2 l3 l4 l6 l7 0 l5
  else
  fX9_canSoon_b79 fu z_told z_s r16 l1 l2 l3 l4 l6 l7 ((1 : Int32) <<< (l7 &&& 31)) l5))))
def fX9_canSoon_b16 (fu : Nat) (z_told : Nat → Int32) (z_s : Nat → Int32) : Nat → Int32 → Int32 → Int32 → Int32 → Int32 → Int32 → Int32 → Option (Int32)
  | 0, _, _, _, _, _, _, _ => none
  | n + 1, l1, l2, l3, l4, l5, l6, l7 => fX9_canSoon_b16_body fu z_told z_s (fX9_canSoon_b16 fu z_told z_s n) l1 l2 l3 l4 l5 l6 l7
def fX9_canSoon (fu : Nat) (z_told : Nat → Int32) (z_s : Nat → Int32) (p1 : Int32) (p2 : Int32) (p3 : Int32) : Option (Int32) :=
  (fX9_gaveFor fu z_told z_s p1).bind fun v1 =>
  fX9_canSoon_b16 fu z_told z_s fu p1 p2 p3 v1 0 0 0
-- HalfPlanksModel.soon(I)I
def fX9_soon_b57 (fu : Nat) (z_told : Nat → Int32) (z_s : Nat → Int32) (r16 : Int32 → Int32 → Int32 → Option (Int32 × Int32)) (l1 : Int32) (l2 : Int32) (l3 : Int32) (z_thrown : Int32) : Option (Int32 × Int32) :=
  (if l3 = 0 then
  r16 l1 (l2 + 1) z_thrown
  else
  some (l2, z_thrown))
def fX9_soon_b27_body (fu : Nat) (z_told : Nat → Int32) (z_s : Nat → Int32) (r16 : Int32 → Int32 → Int32 → Option (Int32 × Int32)) (r27 : Int32 → Int32 → Int32 → Int32 → Int32 → Option (Int32 × Int32)) (l1 : Int32) (l2 : Int32) (l3 : Int32) (l4 : Int32) (z_thrown : Int32) : Option (Int32 × Int32) :=
  (rd 34 z_told 0).bind fun v4 =>
  (if v4 ≤ l4 then
  fX9_soon_b57 fu z_told z_s r16 l1 l2 l3 z_thrown
  else
  (if l3 = 0 then
  fX9_soon_b57 fu z_told z_s r16 l1 l2 l3 z_thrown
  else
  (fX9_canSoon fu z_told z_s l4 l1 l2).bind fun v8 =>
  r27 l1 l2 v8 (l4 + 1) z_thrown))
def fX9_soon_b27 (fu : Nat) (z_told : Nat → Int32) (z_s : Nat → Int32) (r16 : Int32 → Int32 → Int32 → Option (Int32 × Int32)) : Nat → Int32 → Int32 → Int32 → Int32 → Int32 → Option (Int32 × Int32)
  | 0, _, _, _, _, _ => none
  | n + 1, l1, l2, l3, l4, z_thrown => fX9_soon_b27_body fu z_told z_s r16 (fX9_soon_b27 fu z_told z_s r16 n) l1 l2 l3 l4 z_thrown
def fX9_soon_b16_body (fu : Nat) (z_told : Nat → Int32) (z_s : Nat → Int32) (r16 : Int32 → Int32 → Int32 → Option (Int32 × Int32)) (l1 : Int32) (l2 : Int32) (z_thrown : Int32) : Option (Int32 × Int32) :=
  (if 20 < l2 then
  some ((-9), z_thrown)
  else
  fX9_soon_b27 fu z_told z_s r16 fu l1 l2 1 0 z_thrown)
def fX9_soon_b16 (fu : Nat) (z_told : Nat → Int32) (z_s : Nat → Int32) : Nat → Int32 → Int32 → Int32 → Option (Int32 × Int32)
  | 0, _, _, _ => none
  | n + 1, l1, l2, z_thrown => fX9_soon_b16_body fu z_told z_s (fX9_soon_b16 fu z_told z_s n) l1 l2 z_thrown
def fX9_soon (fu : Nat) (z_told : Nat → Int32) (z_s : Nat → Int32) (z_thrown : Int32) (p1 : Int32) : Option (Int32 × Int32) :=
  (fX9_isLoad fu p1).bind fun v1 =>
  (if v1 = 0 then
  some ((-1), 0)
  else
  fX9_soon_b16 fu z_told z_s fu p1 0 0)
-- HalfPlanksModel.max(II)I
def fX9_max (fu : Nat) (p0 : Int32) (p1 : Int32) : Option (Int32) :=
  (if p0 ≤ p1 then
  some (p1)
  else
  some (p0))
-- HalfPlanksModel.min(II)I
def fX9_min (fu : Nat) (p0 : Int32) (p1 : Int32) : Option (Int32) :=
  (if p1 ≤ p0 then
  some (p1)
  else
  some (p0))
-- HalfPlanksModel.pair(III)I
def fX9_pair_b37_body (fu : Nat) (z_told : Nat → Int32) (z_s : Nat → Int32) (r37 : Int32 → Int32 → Int32 → Int32 → Int32 → Int32 → Option (Int32 × Int32)) (l1 : Int32) (l2 : Int32) (l3 : Int32) (l4 : Int32) (l5 : Int32) (z_thrown : Int32) : Option (Int32 × Int32) :=
  (rd 34 z_told 1).bind fun v7 =>
  (if v7 ≤ l5 then
  (rd 34 z_told (2 + l1)).bind fun v9 =>
  (rd 34 z_told (2 + l2)).bind fun v10 =>
  (if v9 = v10 then
  some ((-2), z_thrown)
  else
  (fX9_gaveFor fu z_told z_s l3).bind fun v12 =>
  (fX9_has fu v12 l1).bind fun v13 =>
  (if v13 = 0 then
  (fX9_gaveFor fu z_told z_s l3).bind fun v15 =>
  (fX9_has fu v15 l2).bind fun v16 =>
  (if v16 = 0 then
  (if l4 = 0 then
  (rd 34 z_told (26 + l1)).bind fun v19 =>
  (rd 34 z_told (26 + l2)).bind fun v20 =>
  (fX9_max fu v19 (v20 + 1)).bind fun v21 =>
  (fX9_max fu v20 (v19 + 1)).bind fun v22 =>
  (fX9_min fu v21 v22).bind fun v23 =>
  (fX9_min fu (v19 + v20) v23).bind fun v24 =>
  some (v24, z_thrown)
  else
  some ((-2), z_thrown))
  else
  some ((-2), z_thrown))
  else
  some ((-2), z_thrown)))
  else
  (if l4 = 0 then
  (rd 66 z_s ((2 + (8 * l5)) + l3)).bind fun v26 =>
  (if v26 ≤ 0 then
  r37 l1 l2 l3 0 (l5 + 1) z_thrown
  else
  r37 l1 l2 l3 1 (l5 + 1) z_thrown)
  else
  r37 l1 l2 l3 1 (l5 + 1) z_thrown))
def fX9_pair_b37 (fu : Nat) (z_told : Nat → Int32) (z_s : Nat → Int32) : Nat → Int32 → Int32 → Int32 → Int32 → Int32 → Int32 → Option (Int32 × Int32)
  | 0, _, _, _, _, _, _ => none
  | n + 1, l1, l2, l3, l4, l5, z_thrown => fX9_pair_b37_body fu z_told z_s (fX9_pair_b37 fu z_told z_s n) l1 l2 l3 l4 l5 z_thrown
def fX9_pair (fu : Nat) (z_told : Nat → Int32) (z_s : Nat → Int32) (z_thrown : Int32) (p1 : Int32) (p2 : Int32) (p3 : Int32) : Option (Int32 × Int32) :=
  (fX9_isPerson fu z_told p1).bind fun v1 =>
  (if v1 = 0 then
  some ((-1), 0)
  else
  (fX9_isPerson fu z_told p2).bind fun v3 =>
  (if v3 = 0 then
  some ((-1), 0)
  else
  (fX9_isPlank fu z_told p3).bind fun v5 =>
  (if v5 = 0 then
  some ((-1), 0)
  else
  fX9_pair_b37 fu z_told z_s fu p1 p2 p3 0 0 0)))
-- HalfPlanksModel.enough(I)I
def fX9_enough_b98 (fu : Nat) (z_told : Nat → Int32) (r19 : Int32 → Int32 → Int32 → Int32 → Option (Int32 × Int32)) (l1 : Int32) (l2 : Int32) (l3 : Int32) (l4 : Int32) (z_thrown : Int32) : Option (Int32 × Int32) :=
  (if l4 = 0 then
  r19 l1 l2 (l3 + 1) z_thrown
  else
  r19 l1 l3 (l3 + 1) z_thrown)
def fX9_enough_b58_body (fu : Nat) (z_told : Nat → Int32) (r19 : Int32 → Int32 → Int32 → Int32 → Option (Int32 × Int32)) (r58 : Int32 → Int32 → Int32 → Int32 → Int32 → Int32 → Option (Int32 × Int32)) (l1 : Int32) (l2 : Int32) (l3 : Int32) (l4 : Int32) (l5 : Int32) (z_thrown : Int32) : Option (Int32 × Int32) :=
  (rd 34 z_told 0).bind fun v6 =>
  (if v6 ≤ l5 then
  fX9_enough_b98 fu z_told r19 l1 l2 l3 l4 z_thrown
  else
  (if l4 = 0 then
  fX9_enough_b98 fu z_told r19 l1 l2 l3 l4 z_thrown
  else
  (fX9_bearsBy fu z_told l5 l3).bind fun v10 =>
  (if v10 < l1 then
  r58 l1 l2 l3 0 (l5 + 1) z_thrown
  else
  r58 l1 l2 l3 1 (l5 + 1) z_thrown)))
def fX9_enough_b58 (fu : Nat) (z_told : Nat → Int32) (r19 : Int32 → Int32 → Int32 → Int32 → Option (Int32 × Int32)) : Nat → Int32 → Int32 → Int32 → Int32 → Int32 → Int32 → Option (Int32 × Int32)
  | 0, _, _, _, _, _, _ => none
  | n + 1, l1, l2, l3, l4, l5, z_thrown => fX9_enough_b58_body fu z_told r19 (fX9_enough_b58 fu z_told r19 n) l1 l2 l3 l4 l5 z_thrown
def fX9_enough_b19_body (fu : Nat) (z_told : Nat → Int32) (r19 : Int32 → Int32 → Int32 → Int32 → Option (Int32 × Int32)) (l1 : Int32) (l2 : Int32) (l3 : Int32) (z_thrown : Int32) : Option (Int32 × Int32) :=
  (rd 34 z_told 1).bind fun v3 =>
  (if ((1 : Int32) <<< (v3 &&& 31)) ≤ l3 then
  some (l2, z_thrown)
  else
  (if l2 = (-9) then
  fX9_enough_b58 fu z_told r19 fu l1 l2 l3 1 0 z_thrown
  else
  (fX9_ones fu l3).bind fun v12 =>
  (fX9_ones fu l2).bind fun v13 =>
  (if v13 ≤ v12 then
  fX9_enough_b58 fu z_told r19 fu l1 l2 l3 0 0 z_thrown
  else
  fX9_enough_b58 fu z_told r19 fu l1 l2 l3 1 0 z_thrown)))
def fX9_enough_b19 (fu : Nat) (z_told : Nat → Int32) : Nat → Int32 → Int32 → Int32 → Int32 → Option (Int32 × Int32)
  | 0, _, _, _, _ => none
  | n + 1, l1, l2, l3, z_thrown => fX9_enough_b19_body fu z_told (fX9_enough_b19 fu z_told n) l1 l2 l3 z_thrown
def fX9_enough (fu : Nat) (z_told : Nat → Int32) (z_thrown : Int32) (p1 : Int32) : Option (Int32 × Int32) :=
  (fX9_isLoad fu p1).bind fun v1 =>
  (if v1 = 0 then
  some ((-1), 0)
  else
  fX9_enough_b19 fu z_told fu p1 (-9) 0 0)
-- HalfPlanksModel.friends(I)I
def fX9_friends_b80_body (fu : Nat) (z_told : Nat → Int32) (r56 : Int32 → Int32 → Int32 → Int32 → (Nat → Int32) → Int32 → Option (Int32 × (Nat → Int32) × Int32)) (r72 : Int32 → Int32 → Int32 → Int32 → Int32 → (Nat → Int32) → Int32 → Option (Int32 × (Nat → Int32) × Int32)) (r80 : Int32 → Int32 → Int32 → Int32 → Int32 → Int32 → (Nat → Int32) → Int32 → Option (Int32 × (Nat → Int32) × Int32)) (l1 : Int32) (l2 : Int32) (l3 : Int32) (l4 : Int32) (l5 : Int32) (l6 : Int32) (z_byTaken : Nat → Int32) (z_thrown : Int32) : Option (Int32 × (Nat → Int32) × Int32) :=
  (if l2 ≤ l6 then
  r72 l1 l2 l3 l4 (l5 + (-1)) z_byTaken z_thrown
  else
  (rd 256 z_byTaken l5).bind fun v9 =>
  (if v9 < 0 then
  r72 l1 l2 l3 l4 (l5 + (-1)) z_byTaken z_thrown
  else
  (if (l6 &&& l5) = 0 then
  (fX9_ones fu l6).bind fun v12 =>
  (if v12 = 2 then
  (fX9_bearsBy fu z_told l4 l6).bind fun v14 =>
  (if v14 < l1 then
  r80 l1 l2 l3 l4 l5 (l6 + 1) z_byTaken z_thrown
  else
  (rd 256 z_byTaken (l5 ||| l6)).bind fun v16 =>
  (rd 256 z_byTaken l5).bind fun v17 =>
  (fX9_max fu v16 (v17 + 1)).bind fun v18 =>
  (wr 256 z_byTaken (l5 ||| l6) v18).bind fun g19 =>
  (rd 256 g19 (l5 ||| l6)).bind fun v20 =>
  (fX9_max fu l3 v20).bind fun v21 =>
  r80 l1 l2 v21 l4 l5 (l6 + 1) g19 z_thrown)
  else
  r80 l1 l2 l3 l4 l5 (l6 + 1) z_byTaken z_thrown)
  else
  r80 l1 l2 l3 l4 l5 (l6 + 1) z_byTaken z_thrown)))
def fX9_friends_b80 (fu : Nat) (z_told : Nat → Int32) (r56 : Int32 → Int32 → Int32 → Int32 → (Nat → Int32) → Int32 → Option (Int32 × (Nat → Int32) × Int32)) (r72 : Int32 → Int32 → Int32 → Int32 → Int32 → (Nat → Int32) → Int32 → Option (Int32 × (Nat → Int32) × Int32)) : Nat → Int32 → Int32 → Int32 → Int32 → Int32 → Int32 → (Nat → Int32) → Int32 → Option (Int32 × (Nat → Int32) × Int32)
  | 0, _, _, _, _, _, _, _, _ => none
  | n + 1, l1, l2, l3, l4, l5, l6, z_byTaken, z_thrown => fX9_friends_b80_body fu z_told r56 r72 (fX9_friends_b80 fu z_told r56 r72 n) l1 l2 l3 l4 l5 l6 z_byTaken z_thrown
def fX9_friends_b72_body (fu : Nat) (z_told : Nat → Int32) (r56 : Int32 → Int32 → Int32 → Int32 → (Nat → Int32) → Int32 → Option (Int32 × (Nat → Int32) × Int32)) (r72 : Int32 → Int32 → Int32 → Int32 → Int32 → (Nat → Int32) → Int32 → Option (Int32 × (Nat → Int32) × Int32)) (l1 : Int32) (l2 : Int32) (l3 : Int32) (l4 : Int32) (l5 : Int32) (z_byTaken : Nat → Int32) (z_thrown : Int32) : Option (Int32 × (Nat → Int32) × Int32) :=
  (if l5 < 0 then
  r56 l1 l2 l3 (l4 + 1) z_byTaken z_thrown
  else
  fX9_friends_b80 fu z_told r56 r72 fu l1 l2 l3 l4 l5 0 z_byTaken z_thrown)
def fX9_friends_b72 (fu : Nat) (z_told : Nat → Int32) (r56 : Int32 → Int32 → Int32 → Int32 → (Nat → Int32) → Int32 → Option (Int32 × (Nat → Int32) × Int32)) : Nat → Int32 → Int32 → Int32 → Int32 → Int32 → (Nat → Int32) → Int32 → Option (Int32 × (Nat → Int32) × Int32)
  | 0, _, _, _, _, _, _, _ => none
  | n + 1, l1, l2, l3, l4, l5, z_byTaken, z_thrown => fX9_friends_b72_body fu z_told r56 (fX9_friends_b72 fu z_told r56 n) l1 l2 l3 l4 l5 z_byTaken z_thrown
def fX9_friends_b56_body (fu : Nat) (z_told : Nat → Int32) (r56 : Int32 → Int32 → Int32 → Int32 → (Nat → Int32) → Int32 → Option (Int32 × (Nat → Int32) × Int32)) (l1 : Int32) (l2 : Int32) (l3 : Int32) (l4 : Int32) (z_byTaken : Nat → Int32) (z_thrown : Int32) : Option (Int32 × (Nat → Int32) × Int32) :=
  (rd 34 z_told 0).bind fun v5 =>
  (if v5 ≤ l4 then
  some (l3, z_byTaken, z_thrown)
  else
  fX9_friends_b72 fu z_told r56 fu l1 l2 l3 l4 (l2 - 1) z_byTaken z_thrown)
def fX9_friends_b56 (fu : Nat) (z_told : Nat → Int32) : Nat → Int32 → Int32 → Int32 → Int32 → (Nat → Int32) → Int32 → Option (Int32 × (Nat → Int32) × Int32)
  | 0, _, _, _, _, _, _ => none
  | n + 1, l1, l2, l3, l4, z_byTaken, z_thrown => fX9_friends_b56_body fu z_told (fX9_friends_b56 fu z_told n) l1 l2 l3 l4 z_byTaken z_thrown
def fX9_friends_b44 (fu : Nat) (z_told : Nat → Int32) (r25 : Int32 → Int32 → Int32 → (Nat → Int32) → Int32 → Option (Int32 × (Nat → Int32) × Int32)) (l1 : Int32) (l2 : Int32) (l3 : Int32) (s0 : Int32) (s1 : Int32) (z_byTaken : Nat → Int32) (z_thrown : Int32) : Option (Int32 × (Nat → Int32) × Int32) :=
  (wr 256 z_byTaken s1 s0).bind fun g23 =>
  r25 l1 l2 (l3 + 1) g23 z_thrown
def fX9_friends_b25_body (fu : Nat) (z_told : Nat → Int32) (r25 : Int32 → Int32 → Int32 → (Nat → Int32) → Int32 → Option (Int32 × (Nat → Int32) × Int32)) (l1 : Int32) (l2 : Int32) (l3 : Int32) (z_byTaken : Nat → Int32) (z_thrown : Int32) : Option (Int32 × (Nat → Int32) × Int32) :=
  (if l2 ≤ l3 then
  fX9_friends_b56 fu z_told fu l1 l2 0 0 z_byTaken z_thrown
  else
  (if l3 = 0 then
  fX9_friends_b44 fu z_told r25 l1 l2 l3 0 l3 z_byTaken z_thrown
  else
  fX9_friends_b44 fu z_told r25 l1 l2 l3 (-1) l3 z_byTaken z_thrown))
def fX9_friends_b25 (fu : Nat) (z_told : Nat → Int32) : Nat → Int32 → Int32 → Int32 → (Nat → Int32) → Int32 → Option (Int32 × (Nat → Int32) × Int32)
  | 0, _, _, _, _, _ => none
  | n + 1, l1, l2, l3, z_byTaken, z_thrown => fX9_friends_b25_body fu z_told (fX9_friends_b25 fu z_told n) l1 l2 l3 z_byTaken z_thrown
def fX9_friends (fu : Nat) (z_told : Nat → Int32) (z_byTaken : Nat → Int32) (z_thrown : Int32) (p1 : Int32) : Option (Int32 × (Nat → Int32) × Int32) :=
  (fX9_isLoad fu p1).bind fun v1 =>
  (if v1 = 0 then
  some ((-1), z_byTaken, 0)
  else
  (rd 34 z_told 1).bind fun v3 =>
  fX9_friends_b25 fu z_told fu p1 ((1 : Int32) <<< (v3 &&& 31)) 0 z_byTaken 0)
-- HalfPlanksModel.breaksAgain(I)I
def fX9_breaksAgain_b32_body (fu : Nat) (z_told : Nat → Int32) (z_w : Nat → Int32) (r19 : Int32 → Int32 → (Nat → Int32) → Option (Int32 × (Nat → Int32))) (r32 : Int32 → Int32 → Int32 → (Nat → Int32) → Option (Int32 × (Nat → Int32))) (l2 : Int32) (l3 : Int32) (l4 : Int32) (z_v : Nat → Int32) : Option (Int32 × (Nat → Int32)) :=
  (if 66 ≤ l4 then
  (fX9_allBroken fu z_v l3).bind fun g6 =>
  (fX9_bridge fu z_told g6).bind fun v7 =>
  (fX9_min fu l2 v7).bind fun v8 =>
  r19 v8 (l3 + 1) g6
  else
  (rd 66 z_w l4).bind fun v9 =>
  (wr 66 z_v l4 v9).bind fun g10 =>
  r32 l2 l3 (l4 + 1) g10)
def fX9_breaksAgain_b32 (fu : Nat) (z_told : Nat → Int32) (z_w : Nat → Int32) (r19 : Int32 → Int32 → (Nat → Int32) → Option (Int32 × (Nat → Int32))) : Nat → Int32 → Int32 → Int32 → (Nat → Int32) → Option (Int32 × (Nat → Int32))
  | 0, _, _, _, _ => none
  | n + 1, l2, l3, l4, z_v => fX9_breaksAgain_b32_body fu z_told z_w r19 (fX9_breaksAgain_b32 fu z_told z_w r19 n) l2 l3 l4 z_v
def fX9_breaksAgain_b19_body (fu : Nat) (z_told : Nat → Int32) (z_w : Nat → Int32) (r19 : Int32 → Int32 → (Nat → Int32) → Option (Int32 × (Nat → Int32))) (l2 : Int32) (l3 : Int32) (z_v : Nat → Int32) : Option (Int32 × (Nat → Int32)) :=
  (rd 34 z_told 1).bind fun v2 =>
  (if v2 ≤ l3 then
  some (l2, z_v)
  else
  fX9_breaksAgain_b32 fu z_told z_w r19 fu l2 l3 0 z_v)
def fX9_breaksAgain_b19 (fu : Nat) (z_told : Nat → Int32) (z_w : Nat → Int32) : Nat → Int32 → Int32 → (Nat → Int32) → Option (Int32 × (Nat → Int32))
  | 0, _, _, _ => none
  | n + 1, l2, l3, z_v => fX9_breaksAgain_b19_body fu z_told z_w (fX9_breaksAgain_b19 fu z_told z_w n) l2 l3 z_v
def fX9_breaksAgain (fu : Nat) (z_told : Nat → Int32) (z_w : Nat → Int32) (z_v : Nat → Int32) (p1 : Int32) : Option (Int32 × (Nat → Int32)) :=
  (if p1 = 2 then
  (fX9_bridge fu z_told z_w).bind fun v11 =>
  some (v11, z_v)
  else
  fX9_breaksAgain_b19 fu z_told z_w fu 99 0 z_v)
-- HalfPlanksModel.mends(I)I
def fX9_mends_b21_body (fu : Nat) (z_told : Nat → Int32) (r8 : Int32 → Int32 → Int32 → (Nat → Int32) → (Nat → Int32) → Option (Int32 × (Nat → Int32) × (Nat → Int32))) (r21 : Int32 → Int32 → Int32 → Int32 → (Nat → Int32) → (Nat → Int32) → Option (Int32 × (Nat → Int32) × (Nat → Int32))) (l1 : Int32) (l2 : Int32) (l3 : Int32) (l4 : Int32) (z_w : Nat → Int32) (z_v : Nat → Int32) : Option (Int32 × (Nat → Int32) × (Nat → Int32)) :=
  (rd 34 z_told 0).bind fun v5 =>
  (if v5 ≤ l4 then
  r8 l1 l2 (l3 + 1) z_w z_v
  else
  (rd 66 z_w ((2 + (8 * l3)) + l4)).bind fun v7 =>
  (wr 66 z_w ((2 + (8 * l3)) + l4) (-1)).bind fun g8 =>
  (fX9_breaksAgain fu z_told g8 z_v l1).bind fun (v9, g10) =>
  (fX9_max fu l2 v9).bind fun v11 =>
  (wr 66 g8 ((2 + (8 * l3)) + l4) v7).bind fun g12 =>
  r21 l1 v11 l3 (l4 + 1) g12 g10)
def fX9_mends_b21 (fu : Nat) (z_told : Nat → Int32) (r8 : Int32 → Int32 → Int32 → (Nat → Int32) → (Nat → Int32) → Option (Int32 × (Nat → Int32) × (Nat → Int32))) : Nat → Int32 → Int32 → Int32 → Int32 → (Nat → Int32) → (Nat → Int32) → Option (Int32 × (Nat → Int32) × (Nat → Int32))
  | 0, _, _, _, _, _, _ => none
  | n + 1, l1, l2, l3, l4, z_w, z_v => fX9_mends_b21_body fu z_told r8 (fX9_mends_b21 fu z_told r8 n) l1 l2 l3 l4 z_w z_v
def fX9_mends_b8_body (fu : Nat) (z_told : Nat → Int32) (r8 : Int32 → Int32 → Int32 → (Nat → Int32) → (Nat → Int32) → Option (Int32 × (Nat → Int32) × (Nat → Int32))) (l1 : Int32) (l2 : Int32) (l3 : Int32) (z_w : Nat → Int32) (z_v : Nat → Int32) : Option (Int32 × (Nat → Int32) × (Nat → Int32)) :=
  (rd 34 z_told 1).bind fun v3 =>
  (if v3 ≤ l3 then
  some (l2, z_w, z_v)
  else
  fX9_mends_b21 fu z_told r8 fu l1 l2 l3 0 z_w z_v)
def fX9_mends_b8 (fu : Nat) (z_told : Nat → Int32) : Nat → Int32 → Int32 → Int32 → (Nat → Int32) → (Nat → Int32) → Option (Int32 × (Nat → Int32) × (Nat → Int32))
  | 0, _, _, _, _, _ => none
  | n + 1, l1, l2, l3, z_w, z_v => fX9_mends_b8_body fu z_told (fX9_mends_b8 fu z_told n) l1 l2 l3 z_w z_v
def fX9_mends (fu : Nat) (z_told : Nat → Int32) (z_w : Nat → Int32) (z_v : Nat → Int32) (p1 : Int32) : Option (Int32 × (Nat → Int32) × (Nat → Int32)) :=
  (fX9_breaksAgain fu z_told z_w z_v p1).bind fun (v1, g2) =>
  fX9_mends_b8 fu z_told fu p1 v1 0 z_w g2
-- HalfPlanksModel.byTurns(I)I
def fX9_byTurns_b31 (fu : Nat) (z_told : Nat → Int32) (z_s : Nat → Int32) (l2 : Int32) (z_w : Nat → Int32) (z_v : Nat → Int32) (z_thrown : Int32) : Option (Int32 × (Nat → Int32) × (Nat → Int32) × Int32) :=
  (if l2 = 0 then
  some (0, z_w, z_v, z_thrown)
  else
  (fX9_bridge fu z_told z_s).bind fun v6 =>
  some (v6, z_w, z_v, z_thrown))
def fX9_byTurns_b96 (fu : Nat) (z_told : Nat → Int32) (z_s : Nat → Int32) (r54 : Int32 → Int32 → Int32 → Int32 → (Nat → Int32) → (Nat → Int32) → Int32 → Option (Int32 × (Nat → Int32) × (Nat → Int32) × Int32)) (l1 : Int32) (l2 : Int32) (l4 : Int32) (s0 : Int32) (s1 : Int32) (z_w : Nat → Int32) (z_v : Nat → Int32) (z_thrown : Int32) : Option (Int32 × (Nat → Int32) × (Nat → Int32) × Int32) :=
  (fX9_min fu s1 s0).bind fun v17 =>
  r54 l1 l2 v17 (l4 + 1) z_w z_v z_thrown
def fX9_byTurns_b54_body (fu : Nat) (z_told : Nat → Int32) (z_s : Nat → Int32) (r54 : Int32 → Int32 → Int32 → Int32 → (Nat → Int32) → (Nat → Int32) → Int32 → Option (Int32 × (Nat → Int32) × (Nat → Int32) × Int32)) (l1 : Int32) (l2 : Int32) (l3 : Int32) (l4 : Int32) (z_w : Nat → Int32) (z_v : Nat → Int32) (z_thrown : Int32) : Option (Int32 × (Nat → Int32) × (Nat → Int32) × Int32) :=
  (if l2 ≤ l4 then
  some (l3, z_w, z_v, z_thrown)
  else
  (fX9_asNow fu z_s z_w).bind fun g10 =>
  (fX9_allBroken fu g10 l4).bind fun g12 =>
  (if l1 = 1 then
  (fX9_bridge fu z_told g12).bind fun v18 =>
  fX9_byTurns_b96 fu z_told z_s r54 l1 l2 l4 v18 l3 g12 z_v z_thrown
  else
  (fX9_mends fu z_told g12 z_v l1).bind fun (v14, g15, g16) =>
  fX9_byTurns_b96 fu z_told z_s r54 l1 l2 l4 v14 l3 g15 g16 z_thrown))
def fX9_byTurns_b54 (fu : Nat) (z_told : Nat → Int32) (z_s : Nat → Int32) : Nat → Int32 → Int32 → Int32 → Int32 → (Nat → Int32) → (Nat → Int32) → Int32 → Option (Int32 × (Nat → Int32) × (Nat → Int32) × Int32)
  | 0, _, _, _, _, _, _, _ => none
  | n + 1, l1, l2, l3, l4, z_w, z_v, z_thrown => fX9_byTurns_b54_body fu z_told z_s (fX9_byTurns_b54 fu z_told z_s n) l1 l2 l3 l4 z_w z_v z_thrown
def fX9_byTurns (fu : Nat) (z_told : Nat → Int32) (z_s : Nat → Int32) (z_w : Nat → Int32) (z_v : Nat → Int32) (z_thrown : Int32) (p1 : Int32) : Option (Int32 × (Nat → Int32) × (Nat → Int32) × Int32) :=
  (fX9_in fu p1 0 3).bind fun v1 =>
  (if v1 = 0 then
  some ((-1), z_w, z_v, 0)
  else
  (rd 34 z_told 1).bind fun v3 =>
  (if p1 = 0 then
  fX9_byTurns_b31 fu z_told z_s v3 z_w z_v 0
  else
  (if v3 = 0 then
  fX9_byTurns_b31 fu z_told z_s v3 z_w z_v 0
  else
  fX9_byTurns_b54 fu z_told z_s fu p1 v3 99 0 z_w z_v 0)))
-- HalfPlanksModel.gcd(JJ)J
def fX9_gcd_b6_body (fu : Nat) (r6 : Int64 → Int64 → Option (Int64)) (l4 : Int64) (l6 : Int64) : Option (Int64) :=
  (if (lg_cmp l6 0) = 0 then
  some (l4)
  else
  (rmL l4 l6).bind fun v2 =>
  r6 l6 v2)
def fX9_gcd_b6 (fu : Nat) : Nat → Int64 → Int64 → Option (Int64)
  | 0, _, _ => none
  | n + 1, l4, l6 => fX9_gcd_b6_body fu (fX9_gcd_b6 fu n) l4 l6
def fX9_gcd (fu : Nat) (p0 : Int64) (p2 : Int64) : Option (Int64) :=
  fX9_gcd_b6 fu fu p0 p2
-- HalfPlanksModel.odds(III)I
def fX9_odds_b101 (fu : Nat) (z_told : Nat → Int32) (z_s : Nat → Int32) (r42 : Int32 → Int32 → Int32 → Int64 → Int64 → Int32 → (Nat → Int32) → Int32 → Option (Int32 × (Nat → Int32) × Int32)) (r68 : Int32 → Int32 → Int32 → Int64 → Int64 → Int32 → Int64 → Int32 → (Nat → Int32) → Int32 → Option (Int32 × (Nat → Int32) × Int32)) (l1 : Int32) (l2 : Int32) (l3 : Int32) (l4 : Int64) (l6 : Int64) (l8 : Int32) (l11 : Int32) (s0 : Int64) (s1 : Int64) (z_w : Nat → Int32) (z_thrown : Int32) : Option (Int32 × (Nat → Int32) × Int32) :=
  (fX9_has fu l8 l11).bind fun v21 =>
  (if v21 = 0 then
  r68 l1 l2 l3 l4 (l6 * 10) l8 (s1 * s0) (l11 + 1) z_w z_thrown
  else
  (fX9_allBroken fu z_w l11).bind fun g24 =>
  r68 l1 l2 l3 l4 (l6 * 10) l8 (s1 * s0) (l11 + 1) g24 z_thrown)
def fX9_odds_b68_body (fu : Nat) (z_told : Nat → Int32) (z_s : Nat → Int32) (r42 : Int32 → Int32 → Int32 → Int64 → Int64 → Int32 → (Nat → Int32) → Int32 → Option (Int32 × (Nat → Int32) × Int32)) (r68 : Int32 → Int32 → Int32 → Int64 → Int64 → Int32 → Int64 → Int32 → (Nat → Int32) → Int32 → Option (Int32 × (Nat → Int32) × Int32)) (l1 : Int32) (l2 : Int32) (l3 : Int32) (l4 : Int64) (l6 : Int64) (l8 : Int32) (l9 : Int64) (l11 : Int32) (z_w : Nat → Int32) (z_thrown : Int32) : Option (Int32 × (Nat → Int32) × Int32) :=
  (rd 34 z_told 1).bind fun v15 =>
  (if v15 ≤ l11 then
  (fX9_bridge fu z_told z_w).bind fun v17 =>
  (if v17 < l2 then
  r42 l1 l2 l3 (l4 + 0) l6 (l8 + 1) z_w z_thrown
  else
  r42 l1 l2 l3 (l4 + l9) l6 (l8 + 1) z_w z_thrown)
  else
  (fX9_has fu l8 l11).bind fun v19 =>
  (if v19 = 0 then
  fX9_odds_b101 fu z_told z_s r42 r68 l1 l2 l3 l4 l6 l8 l11 ((10 - l1).toInt64) l9 z_w z_thrown
  else
  fX9_odds_b101 fu z_told z_s r42 r68 l1 l2 l3 l4 l6 l8 l11 l1.toInt64 l9 z_w z_thrown))
def fX9_odds_b68 (fu : Nat) (z_told : Nat → Int32) (z_s : Nat → Int32) (r42 : Int32 → Int32 → Int32 → Int64 → Int64 → Int32 → (Nat → Int32) → Int32 → Option (Int32 × (Nat → Int32) × Int32)) : Nat → Int32 → Int32 → Int32 → Int64 → Int64 → Int32 → Int64 → Int32 → (Nat → Int32) → Int32 → Option (Int32 × (Nat → Int32) × Int32)
  | 0, _, _, _, _, _, _, _, _, _, _ => none
  | n + 1, l1, l2, l3, l4, l6, l8, l9, l11, z_w, z_thrown => fX9_odds_b68_body fu z_told z_s r42 (fX9_odds_b68 fu z_told z_s r42 n) l1 l2 l3 l4 l6 l8 l9 l11 z_w z_thrown
def fX9_odds_b42_body (fu : Nat) (z_told : Nat → Int32) (z_s : Nat → Int32) (r42 : Int32 → Int32 → Int32 → Int64 → Int64 → Int32 → (Nat → Int32) → Int32 → Option (Int32 × (Nat → Int32) × Int32)) (l1 : Int32) (l2 : Int32) (l3 : Int32) (l4 : Int64) (l6 : Int64) (l8 : Int32) (z_w : Nat → Int32) (z_thrown : Int32) : Option (Int32 × (Nat → Int32) × Int32) :=
  (rd 34 z_told 1).bind fun v7 =>
  (if ((1 : Int32) <<< (v7 &&& 31)) ≤ l8 then
  (fX9_gcd fu l4 l6).bind fun v9 =>
  (if l3 = 0 then
  (dvL l4 v9).bind fun v12 =>
  some (v12.toInt32, z_w, z_thrown)
  else
  (dvL l6 v9).bind fun v11 =>
  some (v11.toInt32, z_w, z_thrown))
  else
  (fX9_asNow fu z_s z_w).bind fun g14 =>
  fX9_odds_b68 fu z_told z_s r42 fu l1 l2 l3 l4 1 l8 1 0 g14 z_thrown)
def fX9_odds_b42 (fu : Nat) (z_told : Nat → Int32) (z_s : Nat → Int32) : Nat → Int32 → Int32 → Int32 → Int64 → Int64 → Int32 → (Nat → Int32) → Int32 → Option (Int32 × (Nat → Int32) × Int32)
  | 0, _, _, _, _, _, _, _, _ => none
  | n + 1, l1, l2, l3, l4, l6, l8, z_w, z_thrown => fX9_odds_b42_body fu z_told z_s (fX9_odds_b42 fu z_told z_s n) l1 l2 l3 l4 l6 l8 z_w z_thrown
def fX9_odds (fu : Nat) (z_told : Nat → Int32) (z_s : Nat → Int32) (z_w : Nat → Int32) (z_thrown : Int32) (p1 : Int32) (p2 : Int32) (p3 : Int32) : Option (Int32 × (Nat → Int32) × Int32) :=
  (fX9_in fu p1 0 10).bind fun v1 =>
  (if v1 = 0 then
  some ((-1), z_w, 0)
  else
  (fX9_isLoad fu p2).bind fun v3 =>
  (if v3 = 0 then
  some ((-1), z_w, 0)
  else
  (fX9_in fu p3 0 1).bind fun v5 =>
  (if v5 = 0 then
  some ((-1), z_w, 0)
  else
  fX9_odds_b42 fu z_told z_s fu p1 p2 p3 0 1 0 z_w 0)))
-- HalfPlanksModel.winter(III)I
def fX9_winter_b155 (fu : Nat) (z_s : Nat → Int32) (z_told : Nat → Int32) (r48 : Int32 → Int32 → Int64 → Int32 → Int32 → (Nat → Int32) → Int32 → Option (Int32 × (Nat → Int32) × Int32)) (l1 : Int32) (l3 : Int32) (l4 : Int64) (l6 : Int32) (l7 : Int32) (z_w : Nat → Int32) (z_thrown : Int32) : Option (Int32 × (Nat → Int32) × Int32) :=
  (fX9_goes fu z_w).bind fun (v13, g14) =>
  (fX9_bridge fu z_told g14).bind fun v15 =>
  (if v15 < l3 then
  r48 l1 l3 l4 (l6 + 0) (l7 + 1) g14 z_thrown
  else
  r48 l1 l3 l4 (l6 + 1) (l7 + 1) g14 z_thrown)
def fX9_winter_b48_body (fu : Nat) (z_s : Nat → Int32) (z_told : Nat → Int32) (r48 : Int32 → Int32 → Int64 → Int32 → Int32 → (Nat → Int32) → Int32 → Option (Int32 × (Nat → Int32) × Int32)) (l1 : Int32) (l3 : Int32) (l4 : Int64) (l6 : Int32) (l7 : Int32) (z_w : Nat → Int32) (z_thrown : Int32) : Option (Int32 × (Nat → Int32) × Int32) :=
  (if l1 ≤ l7 then
  some (l6, z_w, z_thrown)
  else
  (rmL (l4 * 16807) 2147483647).bind fun v10 =>
  (rd 34 z_told 1).bind fun v11 =>
  (if v11 ≤ 0 then
  fX9_winter_b155 fu z_s z_told r48 l1 l3 v10 l6 l7 z_w z_thrown
  else
  (rd 34 z_told 1).bind fun v17 =>
  (rmL v10 v17.toInt64).bind fun v18 =>
  (dvL v10 8).bind fun v19 =>
  (rd 34 z_told 0).bind fun v20 =>
  (rmL v19 v20.toInt64).bind fun v21 =>
  (rd 66 z_w ((2 + (8 * v18.toInt32)) + v21.toInt32)).bind fun v22 =>
  (if v22 = 0 then
  (fX9_posts fu z_told z_w v18.toInt32 v21.toInt32).bind fun (v24, g25) =>
  fX9_winter_b155 fu z_s z_told r48 l1 l3 v10 l6 l7 g25 z_thrown
  else
  (wr 66 z_w ((2 + (8 * v18.toInt32)) + v21.toInt32) 0).bind fun g26 =>
  fX9_winter_b155 fu z_s z_told r48 l1 l3 v10 l6 l7 g26 z_thrown)))
def fX9_winter_b48 (fu : Nat) (z_s : Nat → Int32) (z_told : Nat → Int32) : Nat → Int32 → Int32 → Int64 → Int32 → Int32 → (Nat → Int32) → Int32 → Option (Int32 × (Nat → Int32) × Int32)
  | 0, _, _, _, _, _, _, _ => none
  | n + 1, l1, l3, l4, l6, l7, z_w, z_thrown => fX9_winter_b48_body fu z_s z_told (fX9_winter_b48 fu z_s z_told n) l1 l3 l4 l6 l7 z_w z_thrown
def fX9_winter (fu : Nat) (z_s : Nat → Int32) (z_told : Nat → Int32) (z_w : Nat → Int32) (z_thrown : Int32) (p1 : Int32) (p2 : Int32) (p3 : Int32) : Option (Int32 × (Nat → Int32) × Int32) :=
  (fX9_in fu p1 0 60).bind fun v1 =>
  (if v1 = 0 then
  some ((-1), z_w, 0)
  else
  (fX9_in fu p2 1 999999).bind fun v3 =>
  (if v3 = 0 then
  some ((-1), z_w, 0)
  else
  (fX9_isLoad fu p3).bind fun v5 =>
  (if v5 = 0 then
  some ((-1), z_w, 0)
  else
  (fX9_asNow fu z_s z_w).bind fun g8 =>
  fX9_winter_b48 fu z_s z_told fu p1 p3 p2.toInt64 0 0 g8 0)))
-- HalfPlanksModel.sees(II)I
def fX9_sees (fu : Nat) (z_seenMany : Int32) (z_seenLoad : Nat → Int32) (z_seenOver : Nat → Int32) (z_thrown : Int32) (p1 : Int32) (p2 : Int32) : Option (Int32 × Int32 × (Nat → Int32) × (Nat → Int32) × Int32) :=
  (fX9_isLoad fu p1).bind fun v1 =>
  (if v1 = 0 then
  some ((-1), z_seenMany, z_seenLoad, z_seenOver, 0)
  else
  (fX9_in fu p2 0 1).bind fun v3 =>
  (if v3 = 0 then
  some ((-1), z_seenMany, z_seenLoad, z_seenOver, 0)
  else
  (if z_seenMany = 6 then
  some ((-3), z_seenMany, z_seenLoad, z_seenOver, 0)
  else
  (wr 6 z_seenLoad z_seenMany p1).bind fun g6 =>
  (wr 6 z_seenOver z_seenMany p2).bind fun g7 =>
  some ((z_seenMany + 1), (z_seenMany + 1), g6, g7, 0))))
-- HalfPlanksModel.forget()I
def fX9_forget (fu : Nat) (z_seenMany : Int32) (z_thrown : Int32) : Option (Int32 × Int32 × Int32) :=
  some (z_seenMany, 0, 0)
-- HalfPlanksModel.bridgeBy(II)I
def fX9_bridgeBy (fu : Nat) (z_s : Nat → Int32) (z_told : Nat → Int32) (p1 : Int32) (p2 : Int32) : Option (Int32 × (Nat → Int32)) :=
  (rd 34 z_told (18 + p1)).bind fun v1 =>
  (wr 34 z_told (18 + p1) p2).bind fun g2 =>
  (fX9_bridge fu g2 z_s).bind fun v3 =>
  (wr 34 g2 (18 + p1) v1).bind fun g4 =>
  some (v3, g4)
-- HalfPlanksModel.wordsOf(I)I
def fX9_wordsOf_b71 (fu : Nat) (z_s : Nat → Int32) (z_seenMany : Int32) (z_seenLoad : Nat → Int32) (z_seenOver : Nat → Int32) (r4 : Int32 → Int32 → Int32 → (Nat → Int32) → Option (Int32 × (Nat → Int32))) (r24 : Int32 → Int32 → Int32 → Int32 → Int32 → Int32 → (Nat → Int32) → Option (Int32 × (Nat → Int32))) (l1 : Int32) (l2 : Int32) (l3 : Int32) (l4 : Int32) (l6 : Int32) (s0 : Int32) (s1 : Int32) (z_told : Nat → Int32) : Option (Int32 × (Nat → Int32)) :=
  (if s1 = s0 then
  r24 l1 l2 l3 l4 1 (l6 + 1) z_told
  else
  r24 l1 l2 l3 l4 0 (l6 + 1) z_told)
def fX9_wordsOf_b55 (fu : Nat) (z_s : Nat → Int32) (z_seenMany : Int32) (z_seenLoad : Nat → Int32) (z_seenOver : Nat → Int32) (r4 : Int32 → Int32 → Int32 → (Nat → Int32) → Option (Int32 × (Nat → Int32))) (r24 : Int32 → Int32 → Int32 → Int32 → Int32 → Int32 → (Nat → Int32) → Option (Int32 × (Nat → Int32))) (l1 : Int32) (l2 : Int32) (l3 : Int32) (l4 : Int32) (l6 : Int32) (s0 : Int32) (z_told : Nat → Int32) : Option (Int32 × (Nat → Int32)) :=
  (rd 6 z_seenOver l6).bind fun v9 =>
  (if v9 = 1 then
  fX9_wordsOf_b71 fu z_s z_seenMany z_seenLoad z_seenOver r4 r24 l1 l2 l3 l4 l6 1 s0 z_told
  else
  fX9_wordsOf_b71 fu z_s z_seenMany z_seenLoad z_seenOver r4 r24 l1 l2 l3 l4 l6 0 s0 z_told)
def fX9_wordsOf_b24_body (fu : Nat) (z_s : Nat → Int32) (z_seenMany : Int32) (z_seenLoad : Nat → Int32) (z_seenOver : Nat → Int32) (r4 : Int32 → Int32 → Int32 → (Nat → Int32) → Option (Int32 × (Nat → Int32))) (r24 : Int32 → Int32 → Int32 → Int32 → Int32 → Int32 → (Nat → Int32) → Option (Int32 × (Nat → Int32))) (l1 : Int32) (l2 : Int32) (l3 : Int32) (l4 : Int32) (l5 : Int32) (l6 : Int32) (z_told : Nat → Int32) : Option (Int32 × (Nat → Int32)) :=
  (if z_seenMany ≤ l6 then
  (if l5 = 0 then
  r4 l1 (l2 ||| 0) (l3 + 1) z_told
  else
  r4 l1 (l2 ||| ((1 : Int32) <<< (l3 &&& 31))) (l3 + 1) z_told)
  else
  (if l5 = 0 then
  r24 l1 l2 l3 l4 0 (l6 + 1) z_told
  else
  (rd 6 z_seenLoad l6).bind fun v7 =>
  (if l4 < v7 then
  fX9_wordsOf_b55 fu z_s z_seenMany z_seenLoad z_seenOver r4 r24 l1 l2 l3 l4 l6 0 z_told
  else
  fX9_wordsOf_b55 fu z_s z_seenMany z_seenLoad z_seenOver r4 r24 l1 l2 l3 l4 l6 1 z_told)))
def fX9_wordsOf_b24 (fu : Nat) (z_s : Nat → Int32) (z_seenMany : Int32) (z_seenLoad : Nat → Int32) (z_seenOver : Nat → Int32) (r4 : Int32 → Int32 → Int32 → (Nat → Int32) → Option (Int32 × (Nat → Int32))) : Nat → Int32 → Int32 → Int32 → Int32 → Int32 → Int32 → (Nat → Int32) → Option (Int32 × (Nat → Int32))
  | 0, _, _, _, _, _, _, _ => none
  | n + 1, l1, l2, l3, l4, l5, l6, z_told => fX9_wordsOf_b24_body fu z_s z_seenMany z_seenLoad z_seenOver r4 (fX9_wordsOf_b24 fu z_s z_seenMany z_seenLoad z_seenOver r4 n) l1 l2 l3 l4 l5 l6 z_told
def fX9_wordsOf_b4_body (fu : Nat) (z_s : Nat → Int32) (z_seenMany : Int32) (z_seenLoad : Nat → Int32) (z_seenOver : Nat → Int32) (r4 : Int32 → Int32 → Int32 → (Nat → Int32) → Option (Int32 × (Nat → Int32))) (l1 : Int32) (l2 : Int32) (l3 : Int32) (z_told : Nat → Int32) : Option (Int32 × (Nat → Int32)) :=
  (if 10 ≤ l3 then
  some (l2, z_told)
  else
  (fX9_bridgeBy fu z_s z_told l1 l3).bind fun (v2, g3) =>
  fX9_wordsOf_b24 fu z_s z_seenMany z_seenLoad z_seenOver r4 fu l1 l2 l3 v2 1 0 g3)
def fX9_wordsOf_b4 (fu : Nat) (z_s : Nat → Int32) (z_seenMany : Int32) (z_seenLoad : Nat → Int32) (z_seenOver : Nat → Int32) : Nat → Int32 → Int32 → Int32 → (Nat → Int32) → Option (Int32 × (Nat → Int32))
  | 0, _, _, _, _ => none
  | n + 1, l1, l2, l3, z_told => fX9_wordsOf_b4_body fu z_s z_seenMany z_seenLoad z_seenOver (fX9_wordsOf_b4 fu z_s z_seenMany z_seenLoad z_seenOver n) l1 l2 l3 z_told
def fX9_wordsOf (fu : Nat) (z_s : Nat → Int32) (z_seenMany : Int32) (z_seenLoad : Nat → Int32) (z_seenOver : Nat → Int32) (z_told : Nat → Int32) (p1 : Int32) : Option (Int32 × (Nat → Int32)) :=
  fX9_wordsOf_b4 fu z_s z_seenMany z_seenLoad z_seenOver fu p1 0 1 z_told
-- HalfPlanksModel.words(II)I
def fX9_words_b44_body (fu : Nat) (z_s : Nat → Int32) (z_seenMany : Int32) (z_seenLoad : Nat → Int32) (z_seenOver : Nat → Int32) (r44 : Int32 → Int32 → Int32 → Int32 → Int32 → Int32 → (Nat → Int32) → Int32 → Option (Int32 × (Nat → Int32) × Int32)) (l2 : Int32) (l3 : Int32) (l4 : Int32) (l5 : Int32) (l6 : Int32) (l7 : Int32) (z_told : Nat → Int32) (z_thrown : Int32) : Option (Int32 × (Nat → Int32) × Int32) :=
  (if 10 ≤ l7 then
  (if l2 = 0 then
  some (l4, z_told, z_thrown)
  else
  (if l2 = 1 then
  some (l5, z_told, z_thrown)
  else
  some (l6, z_told, z_thrown)))
  else
  (fX9_has fu l3 l7).bind fun v10 =>
  (if v10 = 0 then
  r44 l2 l3 l4 l5 l6 (l7 + 1) z_told z_thrown
  else
  (if l5 = (-9) then
  r44 l2 l3 (l4 + 1) l7 l7 (l7 + 1) z_told z_thrown
  else
  r44 l2 l3 (l4 + 1) l5 l7 (l7 + 1) z_told z_thrown)))
def fX9_words_b44 (fu : Nat) (z_s : Nat → Int32) (z_seenMany : Int32) (z_seenLoad : Nat → Int32) (z_seenOver : Nat → Int32) : Nat → Int32 → Int32 → Int32 → Int32 → Int32 → Int32 → (Nat → Int32) → Int32 → Option (Int32 × (Nat → Int32) × Int32)
  | 0, _, _, _, _, _, _, _, _ => none
  | n + 1, l2, l3, l4, l5, l6, l7, z_told, z_thrown => fX9_words_b44_body fu z_s z_seenMany z_seenLoad z_seenOver (fX9_words_b44 fu z_s z_seenMany z_seenLoad z_seenOver n) l2 l3 l4 l5 l6 l7 z_told z_thrown
def fX9_words (fu : Nat) (z_s : Nat → Int32) (z_seenMany : Int32) (z_seenLoad : Nat → Int32) (z_seenOver : Nat → Int32) (z_told : Nat → Int32) (z_thrown : Int32) (p1 : Int32) (p2 : Int32) : Option (Int32 × (Nat → Int32) × Int32) :=
  (fX9_isPerson fu z_told p1).bind fun v1 =>
  (if v1 = 0 then
  some ((-1), z_told, 0)
  else
  (fX9_in fu p2 0 2).bind fun v3 =>
  (if v3 = 0 then
  some ((-1), z_told, 0)
  else
  (fX9_wordsOf fu z_s z_seenMany z_seenLoad z_seenOver z_told p1).bind fun (v5, g6) =>
  fX9_words_b44 fu z_s z_seenMany z_seenLoad z_seenOver fu p2 v5 0 (-9) (-9) 1 g6 0))
-- HalfPlanksModel.next(I)I
def fX9_next_b146 (fu : Nat) (z_s : Nat → Int32) (z_seenMany : Int32) (z_seenLoad : Nat → Int32) (z_seenOver : Nat → Int32) (r59 : Int32 → Int32 → Int32 → Int32 → Int32 → Int32 → (Nat → Int32) → Int32 → Option (Int32 × (Nat → Int32) × Int32)) (l1 : Int32) (l2 : Int32) (l3 : Int32) (l5 : Int32) (l6 : Int32) (l8 : Int32) (s0 : Int32) (z_told : Nat → Int32) (z_thrown : Int32) : Option (Int32 × (Nat → Int32) × Int32) :=
  (fX9_min fu l5 l8).bind fun v11 =>
  r59 l1 l2 l3 s0 v11 (l6 + 1) z_told z_thrown
def fX9_next_b77_body (fu : Nat) (z_s : Nat → Int32) (z_seenMany : Int32) (z_seenLoad : Nat → Int32) (z_seenOver : Nat → Int32) (r59 : Int32 → Int32 → Int32 → Int32 → Int32 → Int32 → (Nat → Int32) → Int32 → Option (Int32 × (Nat → Int32) × Int32)) (r77 : Int32 → Int32 → Int32 → Int32 → Int32 → Int32 → Int32 → Int32 → (Nat → Int32) → Int32 → Option (Int32 × (Nat → Int32) × Int32)) (l1 : Int32) (l2 : Int32) (l3 : Int32) (l4 : Int32) (l5 : Int32) (l6 : Int32) (l7 : Int32) (l8 : Int32) (z_told : Nat → Int32) (z_thrown : Int32) : Option (Int32 × (Nat → Int32) × Int32) :=
  (if 10 ≤ l8 then
  (fX9_max fu l7 (l3 - l7)).bind fun v9 =>
  (if l5 ≤ v9 then
  fX9_next_b146 fu z_s z_seenMany z_seenLoad z_seenOver r59 l1 l2 l3 l5 l6 v9 l4 z_told z_thrown
  else
  fX9_next_b146 fu z_s z_seenMany z_seenLoad z_seenOver r59 l1 l2 l3 l5 l6 v9 l6 z_told z_thrown)
  else
  (fX9_has fu l2 l8).bind fun v12 =>
  (if v12 = 0 then
  r77 l1 l2 l3 l4 l5 l6 (l7 + 0) (l8 + 1) z_told z_thrown
  else
  (fX9_bridgeBy fu z_s z_told l1 l8).bind fun (v14, g15) =>
  (if v14 < l6 then
  r77 l1 l2 l3 l4 l5 l6 (l7 + 0) (l8 + 1) g15 z_thrown
  else
  r77 l1 l2 l3 l4 l5 l6 (l7 + 1) (l8 + 1) g15 z_thrown)))
def fX9_next_b77 (fu : Nat) (z_s : Nat → Int32) (z_seenMany : Int32) (z_seenLoad : Nat → Int32) (z_seenOver : Nat → Int32) (r59 : Int32 → Int32 → Int32 → Int32 → Int32 → Int32 → (Nat → Int32) → Int32 → Option (Int32 × (Nat → Int32) × Int32)) : Nat → Int32 → Int32 → Int32 → Int32 → Int32 → Int32 → Int32 → Int32 → (Nat → Int32) → Int32 → Option (Int32 × (Nat → Int32) × Int32)
  | 0, _, _, _, _, _, _, _, _, _, _ => none
  | n + 1, l1, l2, l3, l4, l5, l6, l7, l8, z_told, z_thrown => fX9_next_b77_body fu z_s z_seenMany z_seenLoad z_seenOver r59 (fX9_next_b77 fu z_s z_seenMany z_seenLoad z_seenOver r59 n) l1 l2 l3 l4 l5 l6 l7 l8 z_told z_thrown
def fX9_next_b59_body (fu : Nat) (z_s : Nat → Int32) (z_seenMany : Int32) (z_seenLoad : Nat → Int32) (z_seenOver : Nat → Int32) (r59 : Int32 → Int32 → Int32 → Int32 → Int32 → Int32 → (Nat → Int32) → Int32 → Option (Int32 × (Nat → Int32) × Int32)) (l1 : Int32) (l2 : Int32) (l3 : Int32) (l4 : Int32) (l5 : Int32) (l6 : Int32) (z_told : Nat → Int32) (z_thrown : Int32) : Option (Int32 × (Nat → Int32) × Int32) :=
  (if 36 < l6 then
  some (l4, z_told, z_thrown)
  else
  (if l3 ≤ 1 then
  some (l4, z_told, z_thrown)
  else
  fX9_next_b77 fu z_s z_seenMany z_seenLoad z_seenOver r59 fu l1 l2 l3 l4 l5 l6 0 1 z_told z_thrown))
def fX9_next_b59 (fu : Nat) (z_s : Nat → Int32) (z_seenMany : Int32) (z_seenLoad : Nat → Int32) (z_seenOver : Nat → Int32) : Nat → Int32 → Int32 → Int32 → Int32 → Int32 → Int32 → (Nat → Int32) → Int32 → Option (Int32 × (Nat → Int32) × Int32)
  | 0, _, _, _, _, _, _, _, _ => none
  | n + 1, l1, l2, l3, l4, l5, l6, z_told, z_thrown => fX9_next_b59_body fu z_s z_seenMany z_seenLoad z_seenOver (fX9_next_b59 fu z_s z_seenMany z_seenLoad z_seenOver n) l1 l2 l3 l4 l5 l6 z_told z_thrown
def fX9_next_b26_body (fu : Nat) (z_s : Nat → Int32) (z_seenMany : Int32) (z_seenLoad : Nat → Int32) (z_seenOver : Nat → Int32) (r26 : Int32 → Int32 → Int32 → Int32 → (Nat → Int32) → Int32 → Option (Int32 × (Nat → Int32) × Int32)) (l1 : Int32) (l2 : Int32) (l3 : Int32) (l4 : Int32) (z_told : Nat → Int32) (z_thrown : Int32) : Option (Int32 × (Nat → Int32) × Int32) :=
  (if 10 ≤ l4 then
  fX9_next_b59 fu z_s z_seenMany z_seenLoad z_seenOver fu l1 l2 l3 (-9) 99 1 z_told z_thrown
  else
  r26 l1 l2 (l3 + ((l2 >>> (l4 &&& 31)) &&& 1)) (l4 + 1) z_told z_thrown)
def fX9_next_b26 (fu : Nat) (z_s : Nat → Int32) (z_seenMany : Int32) (z_seenLoad : Nat → Int32) (z_seenOver : Nat → Int32) : Nat → Int32 → Int32 → Int32 → Int32 → (Nat → Int32) → Int32 → Option (Int32 × (Nat → Int32) × Int32)
  | 0, _, _, _, _, _, _ => none
  | n + 1, l1, l2, l3, l4, z_told, z_thrown => fX9_next_b26_body fu z_s z_seenMany z_seenLoad z_seenOver (fX9_next_b26 fu z_s z_seenMany z_seenLoad z_seenOver n) l1 l2 l3 l4 z_told z_thrown
def fX9_next (fu : Nat) (z_s : Nat → Int32) (z_seenMany : Int32) (z_seenLoad : Nat → Int32) (z_seenOver : Nat → Int32) (z_told : Nat → Int32) (z_thrown : Int32) (p1 : Int32) : Option (Int32 × (Nat → Int32) × Int32) :=
  (fX9_isPerson fu z_told p1).bind fun v1 =>
  (if v1 = 0 then
  some ((-1), z_told, 0)
  else
  (fX9_wordsOf fu z_s z_seenMany z_seenLoad z_seenOver z_told p1).bind fun (v3, g4) =>
  fX9_next_b26 fu z_s z_seenMany z_seenLoad z_seenOver fu p1 v3 0 1 g4 0)
-- HalfPlanksModel.rate(II)I
def fX9_rate_b135 (fu : Nat) (z_told : Nat → Int32) (z_s : Nat → Int32) (l1 : Int32) (l2 : Int32) (l3 : Int32) (l4 : Int32) (l5 : Int32) (l6 : Int32) (s0 : Int64) (s1 : Int64) (z_trace : Int64) (z_thrown : Int32) : Option (Int32 × Int64 × Int32) :=
  (if l1 = 0 then
  some (l3, (s1 + s0), z_thrown)
  else
  (if l1 = 1 then
  some (l4, (s1 + s0), z_thrown)
  else
  (if l1 = 2 then
  some ((2 * l4), (s1 + s0), z_thrown)
  else
  (if l1 = 3 then
  some ((l3 + l5), (s1 + s0), z_thrown)
  else
  (if l1 = 4 then
  some (l6, (s1 + s0), z_thrown)
  else
  some (((3 * l6) + l2), (s1 + s0), z_thrown))))))
def fX9_rate (fu : Nat) (z_told : Nat → Int32) (z_s : Nat → Int32) (z_trace : Int64) (z_thrown : Int32) (p1 : Int32) (p2 : Int32) : Option (Int32 × Int64 × Int32) :=
  (fX9_in fu p1 0 5).bind fun v1 =>
  (if v1 = 0 then
  some ((-1000000), z_trace, 0)
  else
  (fX9_isPerson fu z_told p2).bind fun v3 =>
  (if v3 = 0 then
  some ((-1000000), z_trace, 0)
  else
  (rd 34 z_told (18 + p2)).bind fun v5 =>
  (rd 34 z_told (26 + p2)).bind fun v6 =>
  (fX9_given fu z_told z_s p2 1).bind fun v7 =>
  (fX9_ones fu v7).bind fun v8 =>
  (fX9_given fu z_told z_s p2 0).bind fun v9 =>
  (fX9_ones fu v9).bind fun v10 =>
  (if p1 = 0 then
  fX9_rate_b135 fu z_told z_s p1 p2 v5 (v5 + v6) v8 ((v5 - v8) - v10) 1 z_trace z_trace 0
  else
  (if p1 = 1 then
  fX9_rate_b135 fu z_told z_s p1 p2 v5 (v5 + v6) v8 ((v5 - v8) - v10) 11 z_trace z_trace 0
  else
  (if p1 = 2 then
  fX9_rate_b135 fu z_told z_s p1 p2 v5 (v5 + v6) v8 ((v5 - v8) - v10) 111 z_trace z_trace 0
  else
  (if p1 = 3 then
  fX9_rate_b135 fu z_told z_s p1 p2 v5 (v5 + v6) v8 ((v5 - v8) - v10) 1001 z_trace z_trace 0
  else
  (if p1 = 4 then
  fX9_rate_b135 fu z_told z_s p1 p2 v5 (v5 + v6) v8 ((v5 - v8) - v10) 10001 z_trace z_trace 0
  else
  fX9_rate_b135 fu z_told z_s p1 p2 v5 (v5 + v6) v8 ((v5 - v8) - v10) 110001 z_trace z_trace 0)))))))
-- HalfPlanksModel.keep(I)I
def fX9_keep_b18_body (fu : Nat) (z_s : Nat → Int32) (r18 : Int32 → Int32 → (Nat → Int32) → (Nat → Int32) → Int32 → Option (Int32 × (Nat → Int32) × (Nat → Int32) × Int32)) (l1 : Int32) (l2 : Int32) (z_kept : Nat → Int32) (z_isKept : Nat → Int32) (z_thrown : Int32) : Option (Int32 × (Nat → Int32) × (Nat → Int32) × Int32) :=
  (if 66 ≤ l2 then
  (wr 2 z_isKept l1 (vp_nar .boolean 1)).bind fun g4 =>
  (rd 66 z_s 0).bind fun v5 =>
  some (v5, z_kept, g4, z_thrown)
  else
  (rd 66 z_s l2).bind fun v6 =>
  (wr 132 z_kept ((66 * l1) + l2) v6).bind fun g7 =>
  r18 l1 (l2 + 1) g7 z_isKept z_thrown)
def fX9_keep_b18 (fu : Nat) (z_s : Nat → Int32) : Nat → Int32 → Int32 → (Nat → Int32) → (Nat → Int32) → Int32 → Option (Int32 × (Nat → Int32) × (Nat → Int32) × Int32)
  | 0, _, _, _, _, _ => none
  | n + 1, l1, l2, z_kept, z_isKept, z_thrown => fX9_keep_b18_body fu z_s (fX9_keep_b18 fu z_s n) l1 l2 z_kept z_isKept z_thrown
def fX9_keep (fu : Nat) (z_s : Nat → Int32) (z_kept : Nat → Int32) (z_isKept : Nat → Int32) (z_thrown : Int32) (p1 : Int32) : Option (Int32 × (Nat → Int32) × (Nat → Int32) × Int32) :=
  (fX9_in fu p1 0 1).bind fun v1 =>
  (if v1 = 0 then
  some ((-1), z_kept, z_isKept, 0)
  else
  fX9_keep_b18 fu z_s fu p1 0 z_kept z_isKept 0)
-- HalfPlanksModel.back(I)I
def fX9_back_b30_body (fu : Nat) (z_isKept : Nat → Int32) (z_kept : Nat → Int32) (r30 : Int32 → Int32 → (Nat → Int32) → Int32 → Int32 → Option (Int32 × (Nat → Int32) × Int32 × Int32)) (l1 : Int32) (l2 : Int32) (z_s : Nat → Int32) (z_thrown : Int32) (z_undoMany : Int32) : Option (Int32 × (Nat → Int32) × Int32 × Int32) :=
  (if 66 ≤ l2 then
  (rd 66 z_s 0).bind fun v6 =>
  some (v6, z_s, z_thrown, 0)
  else
  (rd 132 z_kept ((66 * l1) + l2)).bind fun v7 =>
  (wr 66 z_s l2 v7).bind fun g8 =>
  r30 l1 (l2 + 1) g8 z_thrown z_undoMany)
def fX9_back_b30 (fu : Nat) (z_isKept : Nat → Int32) (z_kept : Nat → Int32) : Nat → Int32 → Int32 → (Nat → Int32) → Int32 → Int32 → Option (Int32 × (Nat → Int32) × Int32 × Int32)
  | 0, _, _, _, _, _ => none
  | n + 1, l1, l2, z_s, z_thrown, z_undoMany => fX9_back_b30_body fu z_isKept z_kept (fX9_back_b30 fu z_isKept z_kept n) l1 l2 z_s z_thrown z_undoMany
def fX9_back (fu : Nat) (z_isKept : Nat → Int32) (z_kept : Nat → Int32) (z_s : Nat → Int32) (z_thrown : Int32) (z_undoMany : Int32) (p1 : Int32) : Option (Int32 × (Nat → Int32) × Int32 × Int32) :=
  (fX9_in fu p1 0 1).bind fun v1 =>
  (if v1 = 0 then
  some ((-1), z_s, 0, z_undoMany)
  else
  (rd 2 z_isKept p1).bind fun v3 =>
  (if v3 = 0 then
  some ((-2), z_s, 0, z_undoMany)
  else
  fX9_back_b30 fu z_isKept z_kept fu p1 0 z_s 0 z_undoMany))
-- HalfPlanksModel.count(I)I
def fX9_count (fu : Nat) (z_told : Nat → Int32) (z_seenMany : Int32) (z_typed : Int32) (z_thrown : Int32) (p1 : Int32) : Option (Int32 × Int32) :=
  (fX9_in fu p1 0 1).bind fun v1 =>
  (if v1 = 0 then
  (if p1 = 2 then
  some (z_seenMany, 0)
  else
  (if p1 = 3 then
  some (z_typed, 0)
  else
  some ((-1), 0)))
  else
  (rd 34 z_told p1).bind fun v5 =>
  some (v5, 0))
-- HalfPlanksModel.trace()J
def fX9_trace (fu : Nat) (z_trace : Int64) (z_thrown : Int32) : Option (Int64 × Int32) :=
  some (z_trace, 0)
