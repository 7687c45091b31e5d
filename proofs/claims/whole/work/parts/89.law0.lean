-- what holds at the law's entry
set_option maxHeartbeats 4000000 in
set_option maxRecDepth 100000 in
theorem law_KC {p : Program} {s : State} {m : MethodId} {meth : Method} {c : Code} {b L : Nat} {xs : Nat → Int32} (C0 : lw_At p s m meth c b L xs) : ∃ (D : va_G) (cI cZ cQ : ClassId), KC D (TY cI cZ cQ) s := by
  obtain ⟨hx, hb, hr, hml, hown0, hts0, hX, hbl, hlocks, hgv⟩ := id C0
  have hts := tb_law hts0
  obtain ⟨c0, i0, k0⟩ := u_known (C := RX0) (T := TX0) (N := 8) (n := 8) hts inTX0 (hts _ q66)
  obtain ⟨c1, i1, k1⟩ := u_known (C := RX1) (T := TX1) (N := 4) (n := 4) hts inTX1 (hts _ q232)
  obtain ⟨c2, i2, k2⟩ := u_known (C := RX2) (T := TX2) (N := 9) (n := 9) hts inTX2 (hts _ q253)
  obtain ⟨c3, i3, k3⟩ := u_known (C := RX3) (T := TX3) (N := 3) (n := 3) hts inTX3 (hts _ q195)
  obtain ⟨c4, i4, k4⟩ := u_known (C := RX4) (T := TX4) (N := 3) (n := 3) hts inTX4 (hts _ q215)
  obtain ⟨c5, i5, k5⟩ := u_known (C := RX5) (T := TX5) (N := 5) (n := 5) hts inTX5 (hts _ q163)
  obtain ⟨c6, i6, k6⟩ := u_known (C := RX6) (T := TX6) (N := 7) (n := 7) hts inTX6 (hts _ q122)
  obtain ⟨c7, i7, k7⟩ := u_known (C := RX7) (T := TX7) (N := 2) (n := 2) hts inTX7 (hts _ q150)
  obtain ⟨c8, i8, k8⟩ := u_known (C := RX8) (T := TX8) (N := 14) (n := 14) hts inTX8 (hts _ q58)
  obtain ⟨c9, i9, k9⟩ := u_known (C := RX9) (T := TX9) (N := 23) (n := 23) hts inTX9 (hts _ q892)
  obtain ⟨cI, kI, compI, a1, a2, a3⟩ := Cond.arrayClass_spec (hts0 _ (List.mem_of_getElem? (i := 120) (by decide +kernel)) : (Cond.arrayClass .int).before #[Value.ref b] s = true)
  obtain ⟨cZ, kZ, compZ, b1, b2, b3⟩ := Cond.arrayClass_spec (hts0 _ (List.mem_of_getElem? (i := 230) (by decide +kernel)) : (Cond.arrayClass .boolean).before #[Value.ref b] s = true)
  have hov : (Cond.arrayOver (.object "HalfPlanks$Promises")).before #[Value.ref b] s = true := hts0 _ (List.mem_of_getElem? (i := 201) (by decide +kernel))
  obtain ⟨comp, cQ, kQ, f1, f2, f3, f4, f5⟩ := Cond.arrayOver_spec hov
  refine ⟨(fun k => if k = 0 then c0 else if k = 1 then c1 else if k = 2 then c2 else if k = 3 then c3 else if k = 4 then c4 else if k = 5 then c5 else if k = 6 then c6 else if k = 7 then c7 else if k = 8 then c8 else c9, fun k => if k = 0 then i0 else if k = 1 then i1 else if k = 2 then i2 else if k = 3 then i3 else if k = 4 then i4 else if k = 5 then i5 else if k = 6 then i6 else if k = 7 then i7 else if k = 8 then i8 else i9), cI, cZ, cQ, ⟨⟨fun k q hq => ?_, fun k q hq => ?_⟩, ?_⟩, va_AO.of hov⟩
  · match k, hq with
    | 0, hq => cases hq; exact k0
    | 1, hq => cases hq; exact k1
    | 2, hq => cases hq; exact k2
    | 3, hq => cases hq; exact k3
    | 4, hq => cases hq; exact k4
    | 5, hq => cases hq; exact k5
    | 6, hq => cases hq; exact k6
    | 7, hq => cases hq; exact k7
    | 8, hq => cases hq; exact k8
    | 9, hq => cases hq; exact k9
    | k + 10, hq => simp [vwCl] at hq
  · match k, hq with
    | 0, hq => cases hq; exact ⟨fun n z => ⟨fun k h => (by cases h), kI, a2, compI, a3⟩, a1⟩
    | 1, hq => cases hq; exact ⟨fun n z => ⟨fun k h => (by cases h), kZ, b2, compZ, b3⟩, b1⟩
    | 2, hq => cases hq; exact ⟨fun n z => ⟨fun k h => (by cases h), kQ, f3, comp, f4⟩, kQ, comp, f3, f4, f1, f5⟩
    | k + 3, hq => simp [TY] at hq
  · show ∀ q ∈ NL, va_Nw (.methodLinkNest q.1 q.2.1 q.2.2.1 q.2.2.2) s
    unfold NL
    exact List.forall_mem_cons.mpr ⟨va_Nw.of rfl (hts0 _ (List.mem_of_getElem? (i := 67) (by decide +kernel))), List.forall_mem_cons.mpr ⟨va_Nw.of rfl (hts0 _ (List.mem_of_getElem? (i := 164) (by decide +kernel))), List.forall_mem_cons.mpr ⟨va_Nw.of rfl (hts0 _ (List.mem_of_getElem? (i := 202) (by decide +kernel))), List.forall_mem_cons.mpr ⟨va_Nw.of rfl (hts0 _ (List.mem_of_getElem? (i := 238) (by decide +kernel))), List.forall_mem_cons.mpr ⟨va_Nw.of rfl (hts0 _ (List.mem_of_getElem? (i := 461) (by decide +kernel))), List.forall_mem_cons.mpr ⟨va_Nw.of rfl (hts0 _ (List.mem_of_getElem? (i := 479) (by decide +kernel))), List.forall_mem_cons.mpr ⟨va_Nw.of rfl (hts0 _ (List.mem_of_getElem? (i := 501) (by decide +kernel))), List.forall_mem_cons.mpr ⟨va_Nw.of rfl (hts0 _ (List.mem_of_getElem? (i := 591) (by decide +kernel))), List.forall_mem_cons.mpr ⟨va_Nw.of rfl (hts0 _ (List.mem_of_getElem? (i := 676) (by decide +kernel))), List.forall_mem_cons.mpr ⟨va_Nw.of rfl (hts0 _ (List.mem_of_getElem? (i := 749) (by decide +kernel))), List.forall_mem_cons.mpr ⟨va_Nw.of rfl (hts0 _ (List.mem_of_getElem? (i := 761) (by decide +kernel))), fun _ h => absurd h List.not_mem_nil⟩⟩⟩⟩⟩⟩⟩⟩⟩⟩⟩
def tmS : Nat → Term := fun i => if i = 0 then .string "HalfPlanks$Reader" 101 else .string "HalfPlanks$Reader" 76
set_option maxHeartbeats 4000000 in
set_option maxRecDepth 100000 in
theorem law_SK {p : Program} {s : State} {m : MethodId} {meth : Method} {c : Code} {b L : Nat} {xs : Nat → Int32} (C0 : lw_At p s m meth c b L xs) : ∃ (adK adV : Nat → Nat), SK adK adV (fun q => s.heap.size ≤ q) s s.heap := by
  obtain ⟨hx, hb, hr, hml, hown0, hts0, hX, hbl, hlocks, hgv⟩ := id C0
  have hs := flat_of_before _ hgv
  have hA : ∀ a : Nat, a < s.heap.size → ¬ (fun q : Nat => s.heap.size ≤ q) a := fun a h => Nat.not_le.mpr h
  have hex : ∀ i : Nat, i < 2 → (Cond.exactly (tmS i) "java/lang/String").before #[Value.ref b] s = true := fun i hi => by
    rcases (by omega : i = 0 ∨ i = 1) with rfl | rfl
    · exact hs (Cond.exactly (.string "HalfPlanks$Reader" 101) "java/lang/String") (by decide +kernel)
    · exact hs (Cond.exactly (.string "HalfPlanks$Reader" 76) "java/lang/String") (by decide +kernel)
  have hco : ∀ i : Nat, i < 2 → (Cond.eq (.field (tmS i) "java/lang/String" "coder" "B") (.int 0)).before #[Value.ref b] s = true := fun i hi => by
    rcases (by omega : i = 0 ∨ i = 1) with rfl | rfl
    · exact hs (Cond.eq (.field (.string "HalfPlanks$Reader" 101) "java/lang/String" "coder" "B") (.int 0)) (by decide +kernel)
    · exact hs (Cond.eq (.field (.string "HalfPlanks$Reader" 76) "java/lang/String" "coder" "B") (.int 0)) (by decide +kernel)
  have har : ∀ i : Nat, i < 2 → (Cond.arrayOf (.field (tmS i) "java/lang/String" "value" "[B") .byte).before #[Value.ref b] s = true := fun i hi => by
    rcases (by omega : i = 0 ∨ i = 1) with rfl | rfl
    · exact hs (Cond.arrayOf (.field (.string "HalfPlanks$Reader" 101) "java/lang/String" "value" "[B") .byte) (by decide +kernel)
    · exact hs (Cond.arrayOf (.field (.string "HalfPlanks$Reader" 76) "java/lang/String" "value" "[B") .byte) (by decide +kernel)
  have hle : ∀ i : Nat, i < 2 → (Cond.eq (.length (.field (tmS i) "java/lang/String" "value" "[B")) (.int (Int32.ofNat (lenS.getD i 0)))).before #[Value.ref b] s = true := fun i hi => by
    rcases (by omega : i = 0 ∨ i = 1) with rfl | rfl
    · exact hs (Cond.eq (.length (.field (.string "HalfPlanks$Reader" 101) "java/lang/String" "value" "[B")) (.int 10)) (by decide +kernel)
    · exact hs (Cond.eq (.length (.field (.string "HalfPlanks$Reader" 76) "java/lang/String" "value" "[B")) (.int 5)) (by decide +kernel)
  have hel : ∀ i : Nat, i < 2 → ∀ j : Nat, j < lenS.getD i 0 → (Cond.eq (.elem (.field (tmS i) "java/lang/String" "value" "[B") (.int (Int32.ofNat j))) (.int ((bytS.getD i []).getD j 0))).before #[Value.ref b] s = true := fun i hi j hj => by
    rcases (by omega : i = 0 ∨ i = 1) with rfl | rfl
    · have hj2 : j = 0 ∨ j = 1 ∨ j = 2 ∨ j = 3 ∨ j = 4 ∨ j = 5 ∨ j = 6 ∨ j = 7 ∨ j = 8 ∨ j = 9 := by have : j < 10 := hj; omega
      rcases hj2 with rfl | rfl | rfl | rfl | rfl | rfl | rfl | rfl | rfl | rfl
      · exact hs (Cond.eq (.elem (.field (.string "HalfPlanks$Reader" 101) "java/lang/String" "value" "[B") (.int 0)) (.int 110)) (by decide +kernel)
      · exact hs (Cond.eq (.elem (.field (.string "HalfPlanks$Reader" 101) "java/lang/String" "value" "[B") (.int 1)) (.int 117)) (by decide +kernel)
      · exact hs (Cond.eq (.elem (.field (.string "HalfPlanks$Reader" 101) "java/lang/String" "value" "[B") (.int 2)) (.int 118)) (by decide +kernel)
      · exact hs (Cond.eq (.elem (.field (.string "HalfPlanks$Reader" 101) "java/lang/String" "value" "[B") (.int 3)) (.int 120)) (by decide +kernel)
      · exact hs (Cond.eq (.elem (.field (.string "HalfPlanks$Reader" 101) "java/lang/String" "value" "[B") (.int 4)) (.int 112)) (by decide +kernel)
      · exact hs (Cond.eq (.elem (.field (.string "HalfPlanks$Reader" 101) "java/lang/String" "value" "[B") (.int 5)) (.int 99)) (by decide +kernel)
      · exact hs (Cond.eq (.elem (.field (.string "HalfPlanks$Reader" 101) "java/lang/String" "value" "[B") (.int 6)) (.int 115)) (by decide +kernel)
      · exact hs (Cond.eq (.elem (.field (.string "HalfPlanks$Reader" 101) "java/lang/String" "value" "[B") (.int 7)) (.int 109)) (by decide +kernel)
      · exact hs (Cond.eq (.elem (.field (.string "HalfPlanks$Reader" 101) "java/lang/String" "value" "[B") (.int 8)) (.int 108)) (by decide +kernel)
      · exact hs (Cond.eq (.elem (.field (.string "HalfPlanks$Reader" 101) "java/lang/String" "value" "[B") (.int 9)) (.int 59)) (by decide +kernel)
    · have hj2 : j = 0 ∨ j = 1 ∨ j = 2 ∨ j = 3 ∨ j = 4 := by have : j < 5 := hj; omega
      rcases hj2 with rfl | rfl | rfl | rfl | rfl
      · exact hs (Cond.eq (.elem (.field (.string "HalfPlanks$Reader" 76) "java/lang/String" "value" "[B") (.int 0)) (.int 112)) (by decide +kernel)
      · exact hs (Cond.eq (.elem (.field (.string "HalfPlanks$Reader" 76) "java/lang/String" "value" "[B") (.int 1)) (.int 99)) (by decide +kernel)
      · exact hs (Cond.eq (.elem (.field (.string "HalfPlanks$Reader" 76) "java/lang/String" "value" "[B") (.int 2)) (.int 115)) (by decide +kernel)
      · exact hs (Cond.eq (.elem (.field (.string "HalfPlanks$Reader" 76) "java/lang/String" "value" "[B") (.int 3)) (.int 109)) (by decide +kernel)
      · exact hs (Cond.eq (.elem (.field (.string "HalfPlanks$Reader" 76) "java/lang/String" "value" "[B") (.int 4)) (.int 108)) (by decide +kernel)
  have hne0 := hs (Cond.not (Cond.eq (.string "HalfPlanks$Reader" 101) (.string "HalfPlanks$Reader" 76))) (by decide +kernel)
  have hne : ∀ i j : Nat, i < 2 → j < 2 → i ≠ j → (Cond.not (Cond.eq (tmS i) (tmS j))).before #[Value.ref b] s = true ∨ (Cond.not (Cond.eq (tmS j) (tmS i))).before #[Value.ref b] s = true := fun i j hi hj h => by
    rcases (by omega : (i = 0 ∧ j = 1) ∨ (i = 1 ∧ j = 0)) with ⟨rfl, rfl⟩ | ⟨rfl, rfl⟩
    · exact Or.inl hne0
    · exact Or.inr hne0
  obtain ⟨adK, adV, s1, s2⟩ := vk_Sof (N := 2) (tm := tmS) (len := lenS) (byt := bytS) (A := fun q => s.heap.size ≤ q) (fun i hi => by rcases (by omega : i = 0 ∨ i = 1) with rfl | rfl <;> decide) hex hco har hle hel hne hA
  refine ⟨adK, adV, s1, vk_R.of (hts0 _ (List.mem_of_getElem? (i := 364) (by decide +kernel))) (s2 0 (by omega)), vk_R.of (hts0 _ (List.mem_of_getElem? (i := 470) (by decide +kernel))) (s2 1 (by omega)), va_Zof (hts0 _ (List.mem_of_getElem? (i := 378) (by decide +kernel))) (hts0 _ (List.mem_of_getElem? (i := 50) (by decide +kernel))) (va_eqt (hs (Cond.eq (.static "java/lang/String" "COMPACT_STRINGS" "Z") (.int 1)) (by decide +kernel))) hA⟩
