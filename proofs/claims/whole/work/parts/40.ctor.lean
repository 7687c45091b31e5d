theorem dX0_init_0 : decode cX0_init 0 = .ok (.aload_n 0, 1) := by decide +kernel
theorem dX0_init_1 : decode cX0_init 1 = .ok (.invokespecial 3, 3) := by decide +kernel
theorem dX0_init_4 : decode cX0_init 4 = .ok (.aload_n 0, 1) := by decide +kernel
theorem dX0_init_5 : decode cX0_init 5 = .ok (.iconst 3, 1) := by decide +kernel
theorem dX0_init_6 : decode cX0_init 6 = .ok (.putfield 9, 3) := by decide +kernel
theorem dX0_init_9 : decode cX0_init 9 = .ok (.aload_n 0, 1) := by decide +kernel
theorem dX0_init_10 : decode cX0_init 10 = .ok (.iconst 0, 1) := by decide +kernel
theorem dX0_init_11 : decode cX0_init 11 = .ok (.putfield 15, 3) := by decide +kernel
theorem dX0_init_14 : decode cX0_init 14 = .ok (.aload_n 0, 1) := by decide +kernel
theorem dX0_init_15 : decode cX0_init 15 = .ok (.iconst 0, 1) := by decide +kernel
theorem dX0_init_16 : decode cX0_init 16 = .ok (.putfield 18, 3) := by decide +kernel
theorem dX0_init_19 : decode cX0_init 19 = .ok (.aload_n 0, 1) := by decide +kernel
theorem dX0_init_20 : decode cX0_init 20 = .ok (.bipush 8, 2) := by decide +kernel
theorem dX0_init_22 : decode cX0_init 22 = .ok (.newarray .int, 2) := by decide +kernel
theorem dX0_init_24 : decode cX0_init 24 = .ok (.putfield 21, 3) := by decide +kernel
theorem dX0_init_27 : decode cX0_init 27 = .ok (.aload_n 0, 1) := by decide +kernel
theorem dX0_init_28 : decode cX0_init 28 = .ok (.bipush 8, 2) := by decide +kernel
theorem dX0_init_30 : decode cX0_init 30 = .ok (.newarray .int, 2) := by decide +kernel
theorem dX0_init_32 : decode cX0_init 32 = .ok (.putfield 25, 3) := by decide +kernel
theorem dX0_init_35 : decode cX0_init 35 = .ok (.aload_n 0, 1) := by decide +kernel
theorem dX0_init_36 : decode cX0_init 36 = .ok (.bipush 8, 2) := by decide +kernel
theorem dX0_init_38 : decode cX0_init 38 = .ok (.newarray .int, 2) := by decide +kernel
theorem dX0_init_40 : decode cX0_init 40 = .ok (.putfield 28, 3) := by decide +kernel
theorem dX0_init_43 : decode cX0_init 43 = .ok (.aload_n 0, 1) := by decide +kernel
theorem dX0_init_44 : decode cX0_init 44 = .ok (.bipush 8, 2) := by decide +kernel
theorem dX0_init_46 : decode cX0_init 46 = .ok (.newarray .int, 2) := by decide +kernel
theorem dX0_init_48 : decode cX0_init 48 = .ok (.putfield 31, 3) := by decide +kernel
theorem dX0_init_51 : decode cX0_init 51 = .ok (.aload_n 0, 1) := by decide +kernel
theorem dX0_init_52 : decode cX0_init 52 = .ok (.bipush 8, 2) := by decide +kernel
theorem dX0_init_54 : decode cX0_init 54 = .ok (.newarray .int, 2) := by decide +kernel
theorem dX0_init_56 : decode cX0_init 56 = .ok (.putfield 34, 3) := by decide +kernel
theorem dX0_init_59 : decode cX0_init 59 = .ok (.return_, 1) := by decide +kernel
theorem dX5_init_0 : decode cX5_init 0 = .ok (.aload_n 0, 1) := by decide +kernel
theorem dX5_init_1 : decode cX5_init 1 = .ok (.invokespecial 3, 3) := by decide +kernel
theorem dX5_init_4 : decode cX5_init 4 = .ok (.aload_n 0, 1) := by decide +kernel
theorem dX5_init_5 : decode cX5_init 5 = .ok (.iconst 0, 1) := by decide +kernel
theorem dX5_init_6 : decode cX5_init 6 = .ok (.putfield 9, 3) := by decide +kernel
theorem dX5_init_9 : decode cX5_init 9 = .ok (.aload_n 0, 1) := by decide +kernel
theorem dX5_init_10 : decode cX5_init 10 = .ok (.iconst 0, 1) := by decide +kernel
theorem dX5_init_11 : decode cX5_init 11 = .ok (.putfield 15, 3) := by decide +kernel
theorem dX5_init_14 : decode cX5_init 14 = .ok (.aload_n 0, 1) := by decide +kernel
theorem dX5_init_15 : decode cX5_init 15 = .ok (.bipush 8, 2) := by decide +kernel
theorem dX5_init_17 : decode cX5_init 17 = .ok (.newarray .int, 2) := by decide +kernel
theorem dX5_init_19 : decode cX5_init 19 = .ok (.putfield 18, 3) := by decide +kernel
theorem dX5_init_22 : decode cX5_init 22 = .ok (.aload_n 0, 1) := by decide +kernel
theorem dX5_init_23 : decode cX5_init 23 = .ok (.bipush 8, 2) := by decide +kernel
theorem dX5_init_25 : decode cX5_init 25 = .ok (.newarray .int, 2) := by decide +kernel
theorem dX5_init_27 : decode cX5_init 27 = .ok (.putfield 22, 3) := by decide +kernel
theorem dX5_init_30 : decode cX5_init 30 = .ok (.aload_n 0, 1) := by decide +kernel
theorem dX5_init_31 : decode cX5_init 31 = .ok (.bipush 64, 2) := by decide +kernel
theorem dX5_init_33 : decode cX5_init 33 = .ok (.newarray .int, 2) := by decide +kernel
theorem dX5_init_35 : decode cX5_init 35 = .ok (.putfield 25, 3) := by decide +kernel
theorem dX5_init_38 : decode cX5_init 38 = .ok (.return_, 1) := by decide +kernel
theorem dX6_init_0 : decode cX6_init 0 = .ok (.aload_n 0, 1) := by decide +kernel
theorem dX6_init_1 : decode cX6_init 1 = .ok (.invokespecial 3, 3) := by decide +kernel
theorem dX6_init_4 : decode cX6_init 4 = .ok (.aload_n 0, 1) := by decide +kernel
theorem dX6_init_5 : decode cX6_init 5 = .ok (.iconst 0, 1) := by decide +kernel
theorem dX6_init_6 : decode cX6_init 6 = .ok (.putfield 9, 3) := by decide +kernel
theorem dX6_init_9 : decode cX6_init 9 = .ok (.aload_n 0, 1) := by decide +kernel
theorem dX6_init_10 : decode cX6_init 10 = .ok (.iconst 0, 1) := by decide +kernel
theorem dX6_init_11 : decode cX6_init 11 = .ok (.putfield 15, 3) := by decide +kernel
theorem dX6_init_14 : decode cX6_init 14 = .ok (.aload_n 0, 1) := by decide +kernel
theorem dX6_init_15 : decode cX6_init 15 = .ok (.iconst 0, 1) := by decide +kernel
theorem dX6_init_16 : decode cX6_init 16 = .ok (.putfield 18, 3) := by decide +kernel
theorem dX6_init_19 : decode cX6_init 19 = .ok (.aload_n 0, 1) := by decide +kernel
theorem dX6_init_20 : decode cX6_init 20 = .ok (.iconst (-1), 1) := by decide +kernel
theorem dX6_init_21 : decode cX6_init 21 = .ok (.putfield 21, 3) := by decide +kernel
theorem dX6_init_24 : decode cX6_init 24 = .ok (.aload_n 0, 1) := by decide +kernel
theorem dX6_init_25 : decode cX6_init 25 = .ok (.iconst 0, 1) := by decide +kernel
theorem dX6_init_26 : decode cX6_init 26 = .ok (.putfield 24, 3) := by decide +kernel
theorem dX6_init_29 : decode cX6_init 29 = .ok (.aload_n 0, 1) := by decide +kernel
theorem dX6_init_30 : decode cX6_init 30 = .ok (.aload_n 1, 1) := by decide +kernel
theorem dX6_init_31 : decode cX6_init 31 = .ok (.putfield 27, 3) := by decide +kernel
theorem dX6_init_34 : decode cX6_init 34 = .ok (.aload_n 0, 1) := by decide +kernel
theorem dX6_init_35 : decode cX6_init 35 = .ok (.aload_n 2, 1) := by decide +kernel
theorem dX6_init_36 : decode cX6_init 36 = .ok (.putfield 31, 3) := by decide +kernel
theorem dX6_init_39 : decode cX6_init 39 = .ok (.return_, 1) := by decide +kernel
theorem dX7_init_0 : decode cX7_init 0 = .ok (.aload_n 0, 1) := by decide +kernel
theorem dX7_init_1 : decode cX7_init 1 = .ok (.invokespecial 3, 3) := by decide +kernel
theorem dX7_init_4 : decode cX7_init 4 = .ok (.aload_n 0, 1) := by decide +kernel
theorem dX7_init_5 : decode cX7_init 5 = .ok (.sipush 512, 3) := by decide +kernel
theorem dX7_init_8 : decode cX7_init 8 = .ok (.newarray .int, 2) := by decide +kernel
theorem dX7_init_10 : decode cX7_init 10 = .ok (.putfield 11, 3) := by decide +kernel
theorem dX7_init_13 : decode cX7_init 13 = .ok (.aload_n 0, 1) := by decide +kernel
theorem dX7_init_14 : decode cX7_init 14 = .ok (.aload_n 1, 1) := by decide +kernel
theorem dX7_init_15 : decode cX7_init 15 = .ok (.putfield 15, 3) := by decide +kernel
theorem dX7_init_18 : decode cX7_init 18 = .ok (.return_, 1) := by decide +kernel
theorem dX4_init_0 : decode cX4_init 0 = .ok (.aload_n 0, 1) := by decide +kernel
theorem dX4_init_1 : decode cX4_init 1 = .ok (.invokespecial 3, 3) := by decide +kernel
theorem dX4_init_4 : decode cX4_init 4 = .ok (.aload_n 0, 1) := by decide +kernel
theorem dX4_init_5 : decode cX4_init 5 = .ok (.aload_n 1, 1) := by decide +kernel
theorem dX4_init_6 : decode cX4_init 6 = .ok (.putfield 9, 3) := by decide +kernel
theorem dX4_init_9 : decode cX4_init 9 = .ok (.aload_n 0, 1) := by decide +kernel
theorem dX4_init_10 : decode cX4_init 10 = .ok (.aload_n 2, 1) := by decide +kernel
theorem dX4_init_11 : decode cX4_init 11 = .ok (.putfield 15, 3) := by decide +kernel
theorem dX4_init_14 : decode cX4_init 14 = .ok (.aload_n 0, 1) := by decide +kernel
theorem dX4_init_15 : decode cX4_init 15 = .ok (.aload_n 3, 1) := by decide +kernel
theorem dX4_init_16 : decode cX4_init 16 = .ok (.putfield 19, 3) := by decide +kernel
theorem dX4_init_19 : decode cX4_init 19 = .ok (.return_, 1) := by decide +kernel
theorem dX1_init_0 : decode cX1_init 0 = .ok (.aload_n 0, 1) := by decide +kernel
theorem dX1_init_1 : decode cX1_init 1 = .ok (.invokespecial 3, 3) := by decide +kernel
theorem dX1_init_4 : decode cX1_init 4 = .ok (.aload_n 0, 1) := by decide +kernel
theorem dX1_init_5 : decode cX1_init 5 = .ok (.new 9, 3) := by decide +kernel
theorem dX1_init_8 : decode cX1_init 8 = .ok (.dup, 1) := by decide +kernel
theorem dX1_init_9 : decode cX1_init 9 = .ok (.invokespecial 11, 3) := by decide +kernel
theorem dX1_init_12 : decode cX1_init 12 = .ok (.putfield 12, 3) := by decide +kernel
theorem dX1_init_15 : decode cX1_init 15 = .ok (.aload_n 0, 1) := by decide +kernel
theorem dX1_init_16 : decode cX1_init 16 = .ok (.aload_n 1, 1) := by decide +kernel
theorem dX1_init_17 : decode cX1_init 17 = .ok (.putfield 18, 3) := by decide +kernel
theorem dX1_init_20 : decode cX1_init 20 = .ok (.aload_n 0, 1) := by decide +kernel
theorem dX1_init_21 : decode cX1_init 21 = .ok (.aload_n 2, 1) := by decide +kernel
theorem dX1_init_22 : decode cX1_init 22 = .ok (.putfield 22, 3) := by decide +kernel
theorem dX1_init_25 : decode cX1_init 25 = .ok (.aload_n 0, 1) := by decide +kernel
theorem dX1_init_26 : decode cX1_init 26 = .ok (.aload_n 3, 1) := by decide +kernel
theorem dX1_init_27 : decode cX1_init 27 = .ok (.putfield 26, 3) := by decide +kernel
theorem dX1_init_30 : decode cX1_init 30 = .ok (.return_, 1) := by decide +kernel
theorem dX2_init_0 : decode cX2_init 0 = .ok (.aload_n 0, 1) := by decide +kernel
theorem dX2_init_1 : decode cX2_init 1 = .ok (.invokespecial 3, 3) := by decide +kernel
theorem dX2_init_4 : decode cX2_init 4 = .ok (.aload_n 0, 1) := by decide +kernel
theorem dX2_init_5 : decode cX2_init 5 = .ok (.bipush 6, 2) := by decide +kernel
theorem dX2_init_7 : decode cX2_init 7 = .ok (.newarray .int, 2) := by decide +kernel
theorem dX2_init_9 : decode cX2_init 9 = .ok (.putfield 9, 3) := by decide +kernel
theorem dX2_init_12 : decode cX2_init 12 = .ok (.aload_n 0, 1) := by decide +kernel
theorem dX2_init_13 : decode cX2_init 13 = .ok (.bipush 6, 2) := by decide +kernel
theorem dX2_init_15 : decode cX2_init 15 = .ok (.newarray .boolean, 2) := by decide +kernel
theorem dX2_init_17 : decode cX2_init 17 = .ok (.putfield 15, 3) := by decide +kernel
theorem dX2_init_20 : decode cX2_init 20 = .ok (.aload_n 0, 1) := by decide +kernel
theorem dX2_init_21 : decode cX2_init 21 = .ok (.iconst 0, 1) := by decide +kernel
theorem dX2_init_22 : decode cX2_init 22 = .ok (.putfield 19, 3) := by decide +kernel
theorem dX2_init_25 : decode cX2_init 25 = .ok (.aload_n 0, 1) := by decide +kernel
theorem dX2_init_26 : decode cX2_init 26 = .ok (.bipush 9, 2) := by decide +kernel
theorem dX2_init_28 : decode cX2_init 28 = .ok (.newarray .int, 2) := by decide +kernel
theorem dX2_init_30 : decode cX2_init 30 = .ok (.putfield 23, 3) := by decide +kernel
theorem dX2_init_33 : decode cX2_init 33 = .ok (.aload_n 0, 1) := by decide +kernel
theorem dX2_init_34 : decode cX2_init 34 = .ok (.bipush (-9), 2) := by decide +kernel
theorem dX2_init_36 : decode cX2_init 36 = .ok (.putfield 26, 3) := by decide +kernel
theorem dX2_init_39 : decode cX2_init 39 = .ok (.aload_n 0, 1) := by decide +kernel
theorem dX2_init_40 : decode cX2_init 40 = .ok (.bipush (-9), 2) := by decide +kernel
theorem dX2_init_42 : decode cX2_init 42 = .ok (.putfield 29, 3) := by decide +kernel
theorem dX2_init_45 : decode cX2_init 45 = .ok (.aload_n 0, 1) := by decide +kernel
theorem dX2_init_46 : decode cX2_init 46 = .ok (.aload_n 1, 1) := by decide +kernel
theorem dX2_init_47 : decode cX2_init 47 = .ok (.putfield 32, 3) := by decide +kernel
theorem dX2_init_50 : decode cX2_init 50 = .ok (.aload_n 0, 1) := by decide +kernel
theorem dX2_init_51 : decode cX2_init 51 = .ok (.aload_n 2, 1) := by decide +kernel
theorem dX2_init_52 : decode cX2_init 52 = .ok (.putfield 36, 3) := by decide +kernel
theorem dX2_init_55 : decode cX2_init 55 = .ok (.aload_n 0, 1) := by decide +kernel
theorem dX2_init_56 : decode cX2_init 56 = .ok (.aload_n 3, 1) := by decide +kernel
theorem dX2_init_57 : decode cX2_init 57 = .ok (.putfield 40, 3) := by decide +kernel
theorem dX2_init_60 : decode cX2_init 60 = .ok (.return_, 1) := by decide +kernel
theorem dX3_init_0 : decode cX3_init 0 = .ok (.aload_n 0, 1) := by decide +kernel
theorem dX3_init_1 : decode cX3_init 1 = .ok (.invokespecial 3, 3) := by decide +kernel
theorem dX3_init_4 : decode cX3_init 4 = .ok (.aload_n 0, 1) := by decide +kernel
theorem dX3_init_5 : decode cX3_init 5 = .ok (.bipush 10, 2) := by decide +kernel
theorem dX3_init_7 : decode cX3_init 7 = .ok (.anewarray 9, 3) := by decide +kernel
theorem dX3_init_10 : decode cX3_init 10 = .ok (.putfield 11, 3) := by decide +kernel
theorem dX3_init_13 : decode cX3_init 13 = .ok (.aload_n 0, 1) := by decide +kernel
theorem dX3_init_14 : decode cX3_init 14 = .ok (.iconst 0, 1) := by decide +kernel
theorem dX3_init_15 : decode cX3_init 15 = .ok (.putfield 17, 3) := by decide +kernel
theorem dX3_init_18 : decode cX3_init 18 = .ok (.aload_n 0, 1) := by decide +kernel
theorem dX3_init_19 : decode cX3_init 19 = .ok (.iconst 0, 1) := by decide +kernel
theorem dX3_init_20 : decode cX3_init 20 = .ok (.putfield 21, 3) := by decide +kernel
theorem dX3_init_23 : decode cX3_init 23 = .ok (.iconst 0, 1) := by decide +kernel
theorem dX3_init_24 : decode cX3_init 24 = .ok (.istore_n 1, 1) := by decide +kernel
theorem dX3_init_25 : decode cX3_init 25 = .ok (.iload_n 1, 1) := by decide +kernel
theorem dX3_init_26 : decode cX3_init 26 = .ok (.bipush 10, 2) := by decide +kernel
theorem dX3_init_28 : decode cX3_init 28 = .ok (.if_icmp .ge 22, 3) := by decide +kernel
theorem dX3_init_31 : decode cX3_init 31 = .ok (.aload_n 0, 1) := by decide +kernel
theorem dX3_init_32 : decode cX3_init 32 = .ok (.getfield 11, 3) := by decide +kernel
theorem dX3_init_35 : decode cX3_init 35 = .ok (.iload_n 1, 1) := by decide +kernel
theorem dX3_init_36 : decode cX3_init 36 = .ok (.new 9, 3) := by decide +kernel
theorem dX3_init_39 : decode cX3_init 39 = .ok (.dup, 1) := by decide +kernel
theorem dX3_init_40 : decode cX3_init 40 = .ok (.invokespecial 24, 3) := by decide +kernel
theorem dX3_init_43 : decode cX3_init 43 = .ok (.aastore, 1) := by decide +kernel
theorem dX3_init_44 : decode cX3_init 44 = .ok (.iinc 1 1, 3) := by decide +kernel
theorem dX3_init_47 : decode cX3_init 47 = .ok (.goto (-22), 3) := by decide +kernel
theorem dX3_init_50 : decode cX3_init 50 = .ok (.return_, 1) := by decide +kernel
def KC (D : va_G) (tys : List (ClassId × FieldType)) (U : State) : Prop := KW D tys U ∧ va_AO "HalfPlanks$Promises" U
theorem KC.warm {D : va_G} {tys : List (ClassId × FieldType)} {s U : State} (hW : s.WarmedH U.vm) (h : KC D tys s) : KC D tys U := ⟨h.1.warm hW, h.2.moved hW.alike⟩
def kcP (D : va_G) (tys : List (ClassId × FieldType)) (sz : Nat) (ws : va_W) (av : List Value) : Array Value → State → Prop := va_Pc av (fun U => U.heap.size = sz ∧ va_P D vwCl ws U.heap ∧ KC D tys U ∧ va_D (fun _ => True) ws)
theorem kcB {D : va_G} {tys : List (ClassId × FieldType)} {sz : Nat} {ws : va_W} {av : List Value} : FrameBlind (kcP D tys sz ws av) := fun v U g mk h => ⟨h.1, h.2.1, h.2.2.1, ⟨h.2.2.2.1.1.call, va_AO.moved (u := U) (U := U.calling g mk v) (Vm.Alike.refl U.vm) h.2.2.2.1.2⟩, h.2.2.2.2⟩
theorem P_ref {D : va_G} {cl : List vw_C} {ws : va_W} {H : Heap} (i : Nat) {a n : Nat} {cA : ClassId} {f g : Nat → Option Nat} (hP : va_P D cl ws H) (hi : ws[i]? = some (a, .inl (cA, n, .inr (.inr (.inr (.inr f)))))) (h : ∀ j, j < n → f j = g j) : va_P D cl (ws.set i (a, .inl (cA, n, .inr (.inr (.inr (.inr g)))))) H := by
  intro k q hk
  by_cases hki : k = i
  · subst hki
    have hl := (List.getElem?_eq_some_iff.mp hi).1
    rw [List.getElem?_set_self hl] at hk
    cases hk
    have h1 : H[a]? = some (vp_cell cA (n, .inr (.inr (.inr (.inr f))))) := hP k _ hi
    show H[a]? = some (vp_cell cA (n, .inr (.inr (.inr (.inr g)))))
    rw [h1]
    have e : arrV cA n (fun j => va_rf (f j)) = arrV cA n (fun j => va_rf (g j)) := by
      unfold arrV
      congr 2
      funext j
      show va_rf (f j.val) = va_rf (g j.val)
      rw [h j.val j.isLt]
    exact congrArg some e
  · rw [List.getElem?_set_ne (Ne.symm hki)] at hk
    exact hP k q hk
theorem D_ref {A : Nat → Prop} {ws : va_W} (i : Nat) {a n : Nat} {cA : ClassId} {f g : Nat → Option Nat} (hD : va_D A ws) (hi : ws[i]? = some (a, .inl (cA, n, .inr (.inr (.inr (.inr f)))))) : va_D A (ws.set i (a, .inl (cA, n, .inr (.inr (.inr (.inr g)))))) := hD.set hi
section
variable {p : Program} {l : Launch} {e : Env} {R : Room} {s : State} {m : MethodId} {args : Array Value} {below : List Frame} {meth : Method} {c : Code} {H : Heap} {locs : List Loc} {cells slots : Nat} {Q : State → Prop} {cc : ByteArray} {pc : Nat} {ls : Array Slot} {rest : List Value} {D : va_G} {cl : List vw_C} {A : Nat → Prop} {tys : List (ClassId × FieldType)} {ws : va_W} {H0 : Heap}
theorem x_newa (hx : p.tables.exec = Jvm.exec) (hb : c.code = cc) {atype : ArrayType} {ty : FieldType} {N' : Nat} (harr : (Cond.arrayClass ty).before args s = true) (hty : newarray.typeOf atype = ty) (hK : va_K D cl tys s) (t0 : Nat) {cA : ClassId} (ht : tys[t0]? = some (cA, ty)) (hP : va_P D cl ws H) (hD : va_D A ws) (hS : va_S A H0 H locs) (hA : ∀ q, H0.size ≤ q → A q)
    {n : Int32} {a0 : vp_A} (ha : ∀ cA : ClassId, vp_cell cA a0 = arrV cA N' (fun _ => defaultValue ty)) (hn : ¬ n < 0) (hN : n.toNatClampNeg = N') (hbytes : N' * componentBytes ty ≤ 536870912) (hcells : cells + 1 ≤ R.cells) (hslots : slots + N' ≤ R.slots) (hpr : refKind ty = false) (hdg : decode cc pc = .ok (.newarray atype, 2))
    (kk : ∀ (q : Nat) (H1 : Heap), va_P D cl (ws ++ [(q, .inl (cA, a0))]) H1 → va_D A (ws ++ [(q, .inl (cA, a0))]) → va_S A H0 H1 locs → W p l e R s m args below meth c H1 locs (cells + 1) (slots + N') Q (F0 m (pc + 2) ls (.ref q :: rest))) : W p l e R s m args below meth c H locs cells slots Q (F0 m pc ls (.int n :: rest)) := by
  subst hty
  refine va_newa hx hb harr rfl hK hP hD hS hA ha hn hN hbytes hcells hslots hdg (fun q c1 H1 hK1 hP1 hD1 hS1 => ?_)
  have h1 := (hK1.2 tys.length (c1, newarray.typeOf atype) (by simp)).2
  have h2 := (hK.2 t0 _ ht).2
  have e1 : s.vm.findClass ("[" ++ (newarray.typeOf atype).toString) = some c1 := by cases atype <;> exact h1
  have e2 : s.vm.findClass ("[" ++ (newarray.typeOf atype).toString) = some cA := by cases atype <;> exact h2
  have e3 : c1 = cA := Option.some.inj (e1.symm.trans e2)
  subst e3
  exact kk q H1 hP1 hD1 hS1
theorem x_newq (hx : p.tables.exec = Jvm.exec) (hb : c.code = cc) {own C : String} {index N' : Nat} (hown : s.vm.findClass own = some m.cls) (hclink : (Cond.classLink own index C).before args s = true) (hover : va_AO C s) (hK : va_K D cl tys s) (t0 : Nat) {cA : ClassId} (ht : tys[t0]? = some (cA, .object C)) (hP : va_P D cl ws H) (hD : va_D A ws) (hS : va_S A H0 H locs) (hA : ∀ q, H0.size ≤ q → A q)
    {n : Int32} (hn : ¬ n < 0) (hN : n.toNatClampNeg = N') (hbytes : N' * 4 ≤ 536870912) (hcells : cells + 1 ≤ R.cells) (hslots : slots + N' ≤ R.slots) (hdg : decode cc pc = .ok (.anewarray index, 3))
    (kk : ∀ (q : Nat) (H1 : Heap), va_P D cl (ws ++ [(q, .inl (cA, N', .inr (.inr (.inr (.inr (fun _ => none))))))]) H1 → va_D A (ws ++ [(q, .inl (cA, N', .inr (.inr (.inr (.inr (fun _ => none))))))]) → va_S A H0 H1 locs → W p l e R s m args below meth c H1 locs (cells + 1) (slots + N') Q (F0 m (pc + 3) ls (.ref q :: rest))) : W p l e R s m args below meth c H locs cells slots Q (F0 m pc ls (.int n :: rest)) := by
  refine va_newq hx hb hown hclink hover hK hP hD hS hA hn hN hbytes hcells hslots hdg (fun q c1 H1 hK1 hP1 hD1 hS1 => ?_)
  obtain ⟨-, -, -, -, -, e1⟩ := (hK1.2 tys.length (c1, .object C) (by simp)).2
  obtain ⟨-, -, -, -, -, e2⟩ := (hK.2 t0 _ ht).2
  have e3 : c1 = cA := Option.some.inj (e1.symm.trans e2)
  subst e3
  exact kk q H1 hP1 hD1 hS1
end

set_option maxHeartbeats 8000000 in
set_option maxRecDepth 100000 in
theorem tX0_init {l : Launch} {D : va_G} {cI cZ cQ : ClassId} {h0  sz : Nat} : Met l yX0_init (.code yX0_init cX0_init 1 none :: TB) ({ frames := 1, cells := 5, slots := 40, locals := 12 } : Room) (kcP D (TY cI cZ cQ) sz [(h0, .inr (0, [.int 0, .int 0, .int 0, .null, .null, .null, .null, .null]))] [.ref h0]) (va_Qv (fun _ : Nat → Nat → Nat => True) (fun u t => va_P D vwCl [(h0, .inr (0, [.int 3, .int 0, .int 0, .ref (u 0 0), .ref (u 0 1), .ref (u 0 2), .ref (u 0 3), .ref (u 0 4)])), ((u 0 0), .inl (cI, 8, .inl (fun _ => 0))), ((u 0 1), .inl (cI, 8, .inl (fun _ => 0))), ((u 0 2), .inl (cI, 8, .inl (fun _ => 0))), ((u 0 3), .inl (cI, 8, .inl (fun _ => 0))), ((u 0 4), .inl (cI, 8, .inl (fun _ => 0)))] t.heap ∧ va_D (va_A [(h0, .inr (0, [.int 0, .int 0, .int 0, .null, .null, .null, .null, .null]))] sz) [(h0, .inr (0, [.int 3, .int 0, .int 0, .ref (u 0 0), .ref (u 0 1), .ref (u 0 2), .ref (u 0 3), .ref (u 0 4)])), ((u 0 0), .inl (cI, 8, .inl (fun _ => 0))), ((u 0 1), .inl (cI, 8, .inl (fun _ => 0))), ((u 0 2), .inl (cI, 8, .inl (fun _ => 0))), ((u 0 3), .inl (cI, 8, .inl (fun _ => 0))), ((u 0 4), .inl (cI, 8, .inl (fun _ => 0)))]) (va_A [(h0, .inr (0, [.int 0, .int 0, .int 0, .null, .null, .null, .null, .null]))] sz)) 5 40 (va_A [(h0, .inr (0, [.int 0, .int 0, .int 0, .null, .null, .null, .null, .null]))] sz) := by
  refine Met.ofW (cc := cX0_init) (maxL := 1) (ret := none) (by decide) rfl ?_
  intro p e s m args below meth c s₁ B hml hv
  obtain ⟨rfl, hsz, hP, hKC, hD0⟩ := hv
  have hx := B.exec
  have hb := B.bytes
  have hr := B.returns
  have hts : ∀ w ∈ TB, w.before ([.ref h0] : List Value).toArray s = true := fun w h => atoms_spec (ws := .code yX0_init cX0_init 1 none :: TB) B.pre w (List.mem_cons_of_mem _ h)
  have hown : s.vm.findClass RX0 = some m.cls := findClass_of_methodNamed B.named
  have hlocks := B.notSynchronized
  have hin : meth.name = "<init>" := (name_of_methodNamed B.named B.method).1
  have hKW := hKC.1
  have hAO := hKC.2
  have hK := hKW.1
  subst hsz
  have hD := hD0.self (sz := s.heap.size)
  generalize hAe : va_A [(h0, .inr (0, [.int 0, .int 0, .int 0, .null, .null, .null, .null, .null]))] s.heap.size = A at hD ⊢
  have hA : ∀ q : Nat, s.heap.size ≤ q → A q := fun q h => by rw [← hAe]; exact Or.inr h
  have hS : va_S A s.heap s.heap [] := va_S.rf
  have hl := lv_entry [.ref h0] (n := 1) (Nat.le_of_ble_eq_true rfl)
  rw [lg_entry_eq]
  generalize (lg_sl [.ref h0] ++ List.replicate (1 - (lg_sl [.ref h0]).length) Slot.unset).toArray = ls at hl ⊢
  have hl : lv_has ls 1 [(0, .ref h0)] := hl
  refine lv_aload_n hx hb dX0_init_0 rfl (lv_at hl 0 rfl) ?_
  refine W.objInit hx hb hown (hts _ q70) (hts _ q63) (hts _ q64) rfl (by rw [hml]; exact hl.1) rfl dX0_init_1 (Nat.le_of_ble_eq_true rfl) (Nat.le_of_ble_eq_true rfl) ?_
  refine W.eq (g2 := F0 m 4 ls []) rfl ?_
  refine lv_aload_n hx hb dX0_init_4 rfl (lv_at hl 0 rfl) ?_
  refine lv_iconst (v := 3) hx hb dX0_init_5 (by decide) ?_
  refine va_put (D := D) (ci := 0) (v := .int 3) (ty := .int) (C := RX0) (T := TX0) (N := 8) hx hb hts inTX0 tyX0 tyX0_ok nmX0 hown hK hP hD hS 0 rfl rfl 0 (by decide) (hts _ q71) (fun _ h9 => h9) rfl (by decide +kernel) rfl rfl (Nat.le_of_ble_eq_true rfl) dX0_init_6 (fun H locs hP hD hS => ?_)
  have hP : va_P D vwCl ([(h0, .inr (0, [.int 3, .int 0, .int 0, .null, .null, .null, .null, .null]))]) H := hP
  have hD : va_D A ([(h0, .inr (0, [.int 3, .int 0, .int 0, .null, .null, .null, .null, .null]))]) := hD
  refine lv_aload_n hx hb dX0_init_9 rfl (lv_at hl 0 rfl) ?_
  refine lv_iconst (v := 0) hx hb dX0_init_10 (by decide) ?_
  refine va_put (D := D) (ci := 0) (v := .int 0) (ty := .int) (C := RX0) (T := TX0) (N := 8) hx hb hts inTX0 tyX0 tyX0_ok nmX0 hown hK hP hD hS 0 rfl rfl 1 (by decide) (hts _ q78) (fun _ h9 => h9) rfl (by decide +kernel) rfl rfl (Nat.le_of_ble_eq_true rfl) dX0_init_11 (fun H locs hP hD hS => ?_)
  have hP : va_P D vwCl ([(h0, .inr (0, [.int 3, .int 0, .int 0, .null, .null, .null, .null, .null]))]) H := hP
  have hD : va_D A ([(h0, .inr (0, [.int 3, .int 0, .int 0, .null, .null, .null, .null, .null]))]) := hD
  refine lv_aload_n hx hb dX0_init_14 rfl (lv_at hl 0 rfl) ?_
  refine lv_iconst (v := 0) hx hb dX0_init_15 (by decide) ?_
  refine va_put (D := D) (ci := 0) (v := .int 0) (ty := .int) (C := RX0) (T := TX0) (N := 8) hx hb hts inTX0 tyX0 tyX0_ok nmX0 hown hK hP hD hS 0 rfl rfl 2 (by decide) (hts _ q85) (fun _ h9 => h9) rfl (by decide +kernel) rfl rfl (Nat.le_of_ble_eq_true rfl) dX0_init_16 (fun H locs hP hD hS => ?_)
  have hP : va_P D vwCl ([(h0, .inr (0, [.int 3, .int 0, .int 0, .null, .null, .null, .null, .null]))]) H := hP
  have hD : va_D A ([(h0, .inr (0, [.int 3, .int 0, .int 0, .null, .null, .null, .null, .null]))]) := hD
  refine lv_aload_n hx hb dX0_init_19 rfl (lv_at hl 0 rfl) ?_
  refine lv_bipush (v := 8) hx hb dX0_init_20 (by decide) ?_
  refine x_newa (atype := .int) (ty := .int) (N' := 8) hx hb (hts _ q120) rfl hK 0 rfl hP hD hS hA (a0 := (8, .inl (fun _ => 0))) (fun cA => rfl) (by decide) (by decide) (Nat.le_of_ble_eq_true rfl) (Nat.le_of_ble_eq_true rfl) (Nat.le_of_ble_eq_true rfl) rfl dX0_init_22 (fun q1 H hP hD hS => ?_)
  have hP : va_P D vwCl ([(h0, .inr (0, [.int 3, .int 0, .int 0, .null, .null, .null, .null, .null])), (q1, .inl (cI, 8, .inl (fun _ => 0)))]) H := hP
  have hD : va_D A ([(h0, .inr (0, [.int 3, .int 0, .int 0, .null, .null, .null, .null, .null])), (q1, .inl (cI, 8, .inl (fun _ => 0)))]) := hD
  refine va_putF (D := D) (ci := 0) (v := .ref q1) (ty := .array .int) (C := RX0) (T := TX0) (N := 8) hx hb hts inTX0 tyX0 tyX0_ok nmX0 hown hK hP hD hS 0 rfl rfl 3 (by decide) (hts _ q86) (fun _ h9 => h9) rfl hin rfl (by decide +kernel) rfl rfl (Nat.le_of_ble_eq_true rfl) dX0_init_24 (fun H locs hP hD hS => ?_)
  have hP : va_P D vwCl ([(h0, .inr (0, [.int 3, .int 0, .int 0, .ref q1, .null, .null, .null, .null])), (q1, .inl (cI, 8, .inl (fun _ => 0)))]) H := hP
  have hD : va_D A ([(h0, .inr (0, [.int 3, .int 0, .int 0, .ref q1, .null, .null, .null, .null])), (q1, .inl (cI, 8, .inl (fun _ => 0)))]) := hD
  refine lv_aload_n hx hb dX0_init_27 rfl (lv_at hl 0 rfl) ?_
  refine lv_bipush (v := 8) hx hb dX0_init_28 (by decide) ?_
  refine x_newa (atype := .int) (ty := .int) (N' := 8) hx hb (hts _ q120) rfl hK 0 rfl hP hD hS hA (a0 := (8, .inl (fun _ => 0))) (fun cA => rfl) (by decide) (by decide) (Nat.le_of_ble_eq_true rfl) (Nat.le_of_ble_eq_true rfl) (Nat.le_of_ble_eq_true rfl) rfl dX0_init_30 (fun q2 H hP hD hS => ?_)
  have hP : va_P D vwCl ([(h0, .inr (0, [.int 3, .int 0, .int 0, .ref q1, .null, .null, .null, .null])), (q1, .inl (cI, 8, .inl (fun _ => 0))), (q2, .inl (cI, 8, .inl (fun _ => 0)))]) H := hP
  have hD : va_D A ([(h0, .inr (0, [.int 3, .int 0, .int 0, .ref q1, .null, .null, .null, .null])), (q1, .inl (cI, 8, .inl (fun _ => 0))), (q2, .inl (cI, 8, .inl (fun _ => 0)))]) := hD
  refine va_putF (D := D) (ci := 0) (v := .ref q2) (ty := .array .int) (C := RX0) (T := TX0) (N := 8) hx hb hts inTX0 tyX0 tyX0_ok nmX0 hown hK hP hD hS 0 rfl rfl 4 (by decide) (hts _ q90) (fun _ h9 => h9) rfl hin rfl (by decide +kernel) rfl rfl (Nat.le_of_ble_eq_true rfl) dX0_init_32 (fun H locs hP hD hS => ?_)
  have hP : va_P D vwCl ([(h0, .inr (0, [.int 3, .int 0, .int 0, .ref q1, .ref q2, .null, .null, .null])), (q1, .inl (cI, 8, .inl (fun _ => 0))), (q2, .inl (cI, 8, .inl (fun _ => 0)))]) H := hP
  have hD : va_D A ([(h0, .inr (0, [.int 3, .int 0, .int 0, .ref q1, .ref q2, .null, .null, .null])), (q1, .inl (cI, 8, .inl (fun _ => 0))), (q2, .inl (cI, 8, .inl (fun _ => 0)))]) := hD
  refine lv_aload_n hx hb dX0_init_35 rfl (lv_at hl 0 rfl) ?_
  refine lv_bipush (v := 8) hx hb dX0_init_36 (by decide) ?_
  refine x_newa (atype := .int) (ty := .int) (N' := 8) hx hb (hts _ q120) rfl hK 0 rfl hP hD hS hA (a0 := (8, .inl (fun _ => 0))) (fun cA => rfl) (by decide) (by decide) (Nat.le_of_ble_eq_true rfl) (Nat.le_of_ble_eq_true rfl) (Nat.le_of_ble_eq_true rfl) rfl dX0_init_38 (fun q3 H hP hD hS => ?_)
  have hP : va_P D vwCl ([(h0, .inr (0, [.int 3, .int 0, .int 0, .ref q1, .ref q2, .null, .null, .null])), (q1, .inl (cI, 8, .inl (fun _ => 0))), (q2, .inl (cI, 8, .inl (fun _ => 0))), (q3, .inl (cI, 8, .inl (fun _ => 0)))]) H := hP
  have hD : va_D A ([(h0, .inr (0, [.int 3, .int 0, .int 0, .ref q1, .ref q2, .null, .null, .null])), (q1, .inl (cI, 8, .inl (fun _ => 0))), (q2, .inl (cI, 8, .inl (fun _ => 0))), (q3, .inl (cI, 8, .inl (fun _ => 0)))]) := hD
  refine va_putF (D := D) (ci := 0) (v := .ref q3) (ty := .array .int) (C := RX0) (T := TX0) (N := 8) hx hb hts inTX0 tyX0 tyX0_ok nmX0 hown hK hP hD hS 0 rfl rfl 5 (by decide) (hts _ q93) (fun _ h9 => h9) rfl hin rfl (by decide +kernel) rfl rfl (Nat.le_of_ble_eq_true rfl) dX0_init_40 (fun H locs hP hD hS => ?_)
  have hP : va_P D vwCl ([(h0, .inr (0, [.int 3, .int 0, .int 0, .ref q1, .ref q2, .ref q3, .null, .null])), (q1, .inl (cI, 8, .inl (fun _ => 0))), (q2, .inl (cI, 8, .inl (fun _ => 0))), (q3, .inl (cI, 8, .inl (fun _ => 0)))]) H := hP
  have hD : va_D A ([(h0, .inr (0, [.int 3, .int 0, .int 0, .ref q1, .ref q2, .ref q3, .null, .null])), (q1, .inl (cI, 8, .inl (fun _ => 0))), (q2, .inl (cI, 8, .inl (fun _ => 0))), (q3, .inl (cI, 8, .inl (fun _ => 0)))]) := hD
  refine lv_aload_n hx hb dX0_init_43 rfl (lv_at hl 0 rfl) ?_
  refine lv_bipush (v := 8) hx hb dX0_init_44 (by decide) ?_
  refine x_newa (atype := .int) (ty := .int) (N' := 8) hx hb (hts _ q120) rfl hK 0 rfl hP hD hS hA (a0 := (8, .inl (fun _ => 0))) (fun cA => rfl) (by decide) (by decide) (Nat.le_of_ble_eq_true rfl) (Nat.le_of_ble_eq_true rfl) (Nat.le_of_ble_eq_true rfl) rfl dX0_init_46 (fun q4 H hP hD hS => ?_)
  have hP : va_P D vwCl ([(h0, .inr (0, [.int 3, .int 0, .int 0, .ref q1, .ref q2, .ref q3, .null, .null])), (q1, .inl (cI, 8, .inl (fun _ => 0))), (q2, .inl (cI, 8, .inl (fun _ => 0))), (q3, .inl (cI, 8, .inl (fun _ => 0))), (q4, .inl (cI, 8, .inl (fun _ => 0)))]) H := hP
  have hD : va_D A ([(h0, .inr (0, [.int 3, .int 0, .int 0, .ref q1, .ref q2, .ref q3, .null, .null])), (q1, .inl (cI, 8, .inl (fun _ => 0))), (q2, .inl (cI, 8, .inl (fun _ => 0))), (q3, .inl (cI, 8, .inl (fun _ => 0))), (q4, .inl (cI, 8, .inl (fun _ => 0)))]) := hD
  refine va_putF (D := D) (ci := 0) (v := .ref q4) (ty := .array .int) (C := RX0) (T := TX0) (N := 8) hx hb hts inTX0 tyX0 tyX0_ok nmX0 hown hK hP hD hS 0 rfl rfl 6 (by decide) (hts _ q96) (fun _ h9 => h9) rfl hin rfl (by decide +kernel) rfl rfl (Nat.le_of_ble_eq_true rfl) dX0_init_48 (fun H locs hP hD hS => ?_)
  have hP : va_P D vwCl ([(h0, .inr (0, [.int 3, .int 0, .int 0, .ref q1, .ref q2, .ref q3, .ref q4, .null])), (q1, .inl (cI, 8, .inl (fun _ => 0))), (q2, .inl (cI, 8, .inl (fun _ => 0))), (q3, .inl (cI, 8, .inl (fun _ => 0))), (q4, .inl (cI, 8, .inl (fun _ => 0)))]) H := hP
  have hD : va_D A ([(h0, .inr (0, [.int 3, .int 0, .int 0, .ref q1, .ref q2, .ref q3, .ref q4, .null])), (q1, .inl (cI, 8, .inl (fun _ => 0))), (q2, .inl (cI, 8, .inl (fun _ => 0))), (q3, .inl (cI, 8, .inl (fun _ => 0))), (q4, .inl (cI, 8, .inl (fun _ => 0)))]) := hD
  refine lv_aload_n hx hb dX0_init_51 rfl (lv_at hl 0 rfl) ?_
  refine lv_bipush (v := 8) hx hb dX0_init_52 (by decide) ?_
  refine x_newa (atype := .int) (ty := .int) (N' := 8) hx hb (hts _ q120) rfl hK 0 rfl hP hD hS hA (a0 := (8, .inl (fun _ => 0))) (fun cA => rfl) (by decide) (by decide) (Nat.le_of_ble_eq_true rfl) (Nat.le_of_ble_eq_true rfl) (Nat.le_of_ble_eq_true rfl) rfl dX0_init_54 (fun q5 H hP hD hS => ?_)
  have hP : va_P D vwCl ([(h0, .inr (0, [.int 3, .int 0, .int 0, .ref q1, .ref q2, .ref q3, .ref q4, .null])), (q1, .inl (cI, 8, .inl (fun _ => 0))), (q2, .inl (cI, 8, .inl (fun _ => 0))), (q3, .inl (cI, 8, .inl (fun _ => 0))), (q4, .inl (cI, 8, .inl (fun _ => 0))), (q5, .inl (cI, 8, .inl (fun _ => 0)))]) H := hP
  have hD : va_D A ([(h0, .inr (0, [.int 3, .int 0, .int 0, .ref q1, .ref q2, .ref q3, .ref q4, .null])), (q1, .inl (cI, 8, .inl (fun _ => 0))), (q2, .inl (cI, 8, .inl (fun _ => 0))), (q3, .inl (cI, 8, .inl (fun _ => 0))), (q4, .inl (cI, 8, .inl (fun _ => 0))), (q5, .inl (cI, 8, .inl (fun _ => 0)))]) := hD
  refine va_putF (D := D) (ci := 0) (v := .ref q5) (ty := .array .int) (C := RX0) (T := TX0) (N := 8) hx hb hts inTX0 tyX0 tyX0_ok nmX0 hown hK hP hD hS 0 rfl rfl 7 (by decide) (hts _ q100) (fun _ h9 => h9) rfl hin rfl (by decide +kernel) rfl rfl (Nat.le_of_ble_eq_true rfl) dX0_init_56 (fun H locs hP hD hS => ?_)
  have hP : va_P D vwCl ([(h0, .inr (0, [.int 3, .int 0, .int 0, .ref q1, .ref q2, .ref q3, .ref q4, .ref q5])), (q1, .inl (cI, 8, .inl (fun _ => 0))), (q2, .inl (cI, 8, .inl (fun _ => 0))), (q3, .inl (cI, 8, .inl (fun _ => 0))), (q4, .inl (cI, 8, .inl (fun _ => 0))), (q5, .inl (cI, 8, .inl (fun _ => 0)))]) H := hP
  have hD : va_D A ([(h0, .inr (0, [.int 3, .int 0, .int 0, .ref q1, .ref q2, .ref q3, .ref q4, .ref q5])), (q1, .inl (cI, 8, .inl (fun _ => 0))), (q2, .inl (cI, 8, .inl (fun _ => 0))), (q3, .inl (cI, 8, .inl (fun _ => 0))), (q4, .inl (cI, 8, .inl (fun _ => 0))), (q5, .inl (cI, 8, .inl (fun _ => 0)))]) := hD
  have hP : va_P D vwCl [(h0, .inr (0, [.int 3, .int 0, .int 0, .ref q1, .ref q2, .ref q3, .ref q4, .ref q5])), (q1, .inl (cI, 8, .inl (fun _ => 0))), (q2, .inl (cI, 8, .inl (fun _ => 0))), (q3, .inl (cI, 8, .inl (fun _ => 0))), (q4, .inl (cI, 8, .inl (fun _ => 0))), (q5, .inl (cI, 8, .inl (fun _ => 0)))] H := hP
  have hD : va_D A [(h0, .inr (0, [.int 3, .int 0, .int 0, .ref q1, .ref q2, .ref q3, .ref q4, .ref q5])), (q1, .inl (cI, 8, .inl (fun _ => 0))), (q2, .inl (cI, 8, .inl (fun _ => 0))), (q3, .inl (cI, 8, .inl (fun _ => 0))), (q4, .inl (cI, 8, .inl (fun _ => 0))), (q5, .inl (cI, 8, .inl (fun _ => 0)))] := hD
  obtain ⟨u, hu⟩ : ∃ u : Nat → Nat → Nat, u 0 0 = q1 ∧ u 0 1 = q2 ∧ u 0 2 = q3 ∧ u 0 3 = q4 ∧ u 0 4 = q5 := ⟨(fun i => ([(fun k => ([q1, q2, q3, q4, q5] : List Nat).getD k 0)] : List (Nat → Nat)).getD i (fun _ => 0)), rfl, rfl, rfl, rfl, rfl⟩
  obtain ⟨e0, e1, e2, e3, e4⟩ := hu
  exact W.vret hx hb hr (fun t ht hW => ⟨⟨u, rfl, trivial, by rw [ht]; simp only [e0, e1, e2, e3, e4]; exact hP, by simp only [e0, e1, e2, e3, e4]; exact hD⟩, hS.F ht⟩) hS.2.2 dX0_init_59

set_option maxHeartbeats 8000000 in
set_option maxRecDepth 100000 in
theorem tX5_init {l : Launch} {D : va_G} {cI cZ cQ : ClassId} {h0  sz : Nat} : Met l yX5_init (.code yX5_init cX5_init 1 none :: TB) ({ frames := 1, cells := 3, slots := 80, locals := 12 } : Room) (kcP D (TY cI cZ cQ) sz [(h0, .inr (5, [.int 0, .int 0, .null, .null, .null]))] [.ref h0]) (va_Qv (fun _ : Nat → Nat → Nat => True) (fun u t => va_P D vwCl [(h0, .inr (5, [.int 0, .int 0, .ref (u 0 0), .ref (u 0 1), .ref (u 0 2)])), ((u 0 0), .inl (cI, 8, .inl (fun _ => 0))), ((u 0 1), .inl (cI, 8, .inl (fun _ => 0))), ((u 0 2), .inl (cI, 64, .inl (fun _ => 0)))] t.heap ∧ va_D (va_A [(h0, .inr (5, [.int 0, .int 0, .null, .null, .null]))] sz) [(h0, .inr (5, [.int 0, .int 0, .ref (u 0 0), .ref (u 0 1), .ref (u 0 2)])), ((u 0 0), .inl (cI, 8, .inl (fun _ => 0))), ((u 0 1), .inl (cI, 8, .inl (fun _ => 0))), ((u 0 2), .inl (cI, 64, .inl (fun _ => 0)))]) (va_A [(h0, .inr (5, [.int 0, .int 0, .null, .null, .null]))] sz)) 3 80 (va_A [(h0, .inr (5, [.int 0, .int 0, .null, .null, .null]))] sz) := by
  refine Met.ofW (cc := cX5_init) (maxL := 1) (ret := none) (by decide) rfl ?_
  intro p e s m args below meth c s₁ B hml hv
  obtain ⟨rfl, hsz, hP, hKC, hD0⟩ := hv
  have hx := B.exec
  have hb := B.bytes
  have hr := B.returns
  have hts : ∀ w ∈ TB, w.before ([.ref h0] : List Value).toArray s = true := fun w h => atoms_spec (ws := .code yX5_init cX5_init 1 none :: TB) B.pre w (List.mem_cons_of_mem _ h)
  have hown : s.vm.findClass RX5 = some m.cls := findClass_of_methodNamed B.named
  have hlocks := B.notSynchronized
  have hin : meth.name = "<init>" := (name_of_methodNamed B.named B.method).1
  have hKW := hKC.1
  have hAO := hKC.2
  have hK := hKW.1
  subst hsz
  have hD := hD0.self (sz := s.heap.size)
  generalize hAe : va_A [(h0, .inr (5, [.int 0, .int 0, .null, .null, .null]))] s.heap.size = A at hD ⊢
  have hA : ∀ q : Nat, s.heap.size ≤ q → A q := fun q h => by rw [← hAe]; exact Or.inr h
  have hS : va_S A s.heap s.heap [] := va_S.rf
  have hl := lv_entry [.ref h0] (n := 1) (Nat.le_of_ble_eq_true rfl)
  rw [lg_entry_eq]
  generalize (lg_sl [.ref h0] ++ List.replicate (1 - (lg_sl [.ref h0]).length) Slot.unset).toArray = ls at hl ⊢
  have hl : lv_has ls 1 [(0, .ref h0)] := hl
  refine lv_aload_n hx hb dX5_init_0 rfl (lv_at hl 0 rfl) ?_
  refine W.objInit hx hb hown (hts _ q167) (hts _ q63) (hts _ q64) rfl (by rw [hml]; exact hl.1) rfl dX5_init_1 (Nat.le_of_ble_eq_true rfl) (Nat.le_of_ble_eq_true rfl) ?_
  refine W.eq (g2 := F0 m 4 ls []) rfl ?_
  refine lv_aload_n hx hb dX5_init_4 rfl (lv_at hl 0 rfl) ?_
  refine lv_iconst (v := 0) hx hb dX5_init_5 (by decide) ?_
  refine va_put (D := D) (ci := 5) (v := .int 0) (ty := .int) (C := RX5) (T := TX5) (N := 5) hx hb hts inTX5 tyX5 tyX5_ok nmX5 hown hK hP hD hS 0 rfl rfl 0 (by decide) (hts _ q168) (fun _ h9 => h9) rfl (by decide +kernel) rfl rfl (Nat.le_of_ble_eq_true rfl) dX5_init_6 (fun H locs hP hD hS => ?_)
  have hP : va_P D vwCl ([(h0, .inr (5, [.int 0, .int 0, .null, .null, .null]))]) H := hP
  have hD : va_D A ([(h0, .inr (5, [.int 0, .int 0, .null, .null, .null]))]) := hD
  refine lv_aload_n hx hb dX5_init_9 rfl (lv_at hl 0 rfl) ?_
  refine lv_iconst (v := 0) hx hb dX5_init_10 (by decide) ?_
  refine va_put (D := D) (ci := 5) (v := .int 0) (ty := .int) (C := RX5) (T := TX5) (N := 5) hx hb hts inTX5 tyX5 tyX5_ok nmX5 hown hK hP hD hS 0 rfl rfl 1 (by decide) (hts _ q171) (fun _ h9 => h9) rfl (by decide +kernel) rfl rfl (Nat.le_of_ble_eq_true rfl) dX5_init_11 (fun H locs hP hD hS => ?_)
  have hP : va_P D vwCl ([(h0, .inr (5, [.int 0, .int 0, .null, .null, .null]))]) H := hP
  have hD : va_D A ([(h0, .inr (5, [.int 0, .int 0, .null, .null, .null]))]) := hD
  refine lv_aload_n hx hb dX5_init_14 rfl (lv_at hl 0 rfl) ?_
  refine lv_bipush (v := 8) hx hb dX5_init_15 (by decide) ?_
  refine x_newa (atype := .int) (ty := .int) (N' := 8) hx hb (hts _ q120) rfl hK 0 rfl hP hD hS hA (a0 := (8, .inl (fun _ => 0))) (fun cA => rfl) (by decide) (by decide) (Nat.le_of_ble_eq_true rfl) (Nat.le_of_ble_eq_true rfl) (Nat.le_of_ble_eq_true rfl) rfl dX5_init_17 (fun q1 H hP hD hS => ?_)
  have hP : va_P D vwCl ([(h0, .inr (5, [.int 0, .int 0, .null, .null, .null])), (q1, .inl (cI, 8, .inl (fun _ => 0)))]) H := hP
  have hD : va_D A ([(h0, .inr (5, [.int 0, .int 0, .null, .null, .null])), (q1, .inl (cI, 8, .inl (fun _ => 0)))]) := hD
  refine va_putF (D := D) (ci := 5) (v := .ref q1) (ty := .array .int) (C := RX5) (T := TX5) (N := 5) hx hb hts inTX5 tyX5 tyX5_ok nmX5 hown hK hP hD hS 0 rfl rfl 2 (by decide) (hts _ q173) (fun _ h9 => h9) rfl hin rfl (by decide +kernel) rfl rfl (Nat.le_of_ble_eq_true rfl) dX5_init_19 (fun H locs hP hD hS => ?_)
  have hP : va_P D vwCl ([(h0, .inr (5, [.int 0, .int 0, .ref q1, .null, .null])), (q1, .inl (cI, 8, .inl (fun _ => 0)))]) H := hP
  have hD : va_D A ([(h0, .inr (5, [.int 0, .int 0, .ref q1, .null, .null])), (q1, .inl (cI, 8, .inl (fun _ => 0)))]) := hD
  refine lv_aload_n hx hb dX5_init_22 rfl (lv_at hl 0 rfl) ?_
  refine lv_bipush (v := 8) hx hb dX5_init_23 (by decide) ?_
  refine x_newa (atype := .int) (ty := .int) (N' := 8) hx hb (hts _ q120) rfl hK 0 rfl hP hD hS hA (a0 := (8, .inl (fun _ => 0))) (fun cA => rfl) (by decide) (by decide) (Nat.le_of_ble_eq_true rfl) (Nat.le_of_ble_eq_true rfl) (Nat.le_of_ble_eq_true rfl) rfl dX5_init_25 (fun q2 H hP hD hS => ?_)
  have hP : va_P D vwCl ([(h0, .inr (5, [.int 0, .int 0, .ref q1, .null, .null])), (q1, .inl (cI, 8, .inl (fun _ => 0))), (q2, .inl (cI, 8, .inl (fun _ => 0)))]) H := hP
  have hD : va_D A ([(h0, .inr (5, [.int 0, .int 0, .ref q1, .null, .null])), (q1, .inl (cI, 8, .inl (fun _ => 0))), (q2, .inl (cI, 8, .inl (fun _ => 0)))]) := hD
  refine va_putF (D := D) (ci := 5) (v := .ref q2) (ty := .array .int) (C := RX5) (T := TX5) (N := 5) hx hb hts inTX5 tyX5 tyX5_ok nmX5 hown hK hP hD hS 0 rfl rfl 3 (by decide) (hts _ q179) (fun _ h9 => h9) rfl hin rfl (by decide +kernel) rfl rfl (Nat.le_of_ble_eq_true rfl) dX5_init_27 (fun H locs hP hD hS => ?_)
  have hP : va_P D vwCl ([(h0, .inr (5, [.int 0, .int 0, .ref q1, .ref q2, .null])), (q1, .inl (cI, 8, .inl (fun _ => 0))), (q2, .inl (cI, 8, .inl (fun _ => 0)))]) H := hP
  have hD : va_D A ([(h0, .inr (5, [.int 0, .int 0, .ref q1, .ref q2, .null])), (q1, .inl (cI, 8, .inl (fun _ => 0))), (q2, .inl (cI, 8, .inl (fun _ => 0)))]) := hD
  refine lv_aload_n hx hb dX5_init_30 rfl (lv_at hl 0 rfl) ?_
  refine lv_bipush (v := 64) hx hb dX5_init_31 (by decide) ?_
  refine x_newa (atype := .int) (ty := .int) (N' := 64) hx hb (hts _ q120) rfl hK 0 rfl hP hD hS hA (a0 := (64, .inl (fun _ => 0))) (fun cA => rfl) (by decide) (by decide) (Nat.le_of_ble_eq_true rfl) (Nat.le_of_ble_eq_true rfl) (Nat.le_of_ble_eq_true rfl) rfl dX5_init_33 (fun q3 H hP hD hS => ?_)
  have hP : va_P D vwCl ([(h0, .inr (5, [.int 0, .int 0, .ref q1, .ref q2, .null])), (q1, .inl (cI, 8, .inl (fun _ => 0))), (q2, .inl (cI, 8, .inl (fun _ => 0))), (q3, .inl (cI, 64, .inl (fun _ => 0)))]) H := hP
  have hD : va_D A ([(h0, .inr (5, [.int 0, .int 0, .ref q1, .ref q2, .null])), (q1, .inl (cI, 8, .inl (fun _ => 0))), (q2, .inl (cI, 8, .inl (fun _ => 0))), (q3, .inl (cI, 64, .inl (fun _ => 0)))]) := hD
  refine va_putF (D := D) (ci := 5) (v := .ref q3) (ty := .array .int) (C := RX5) (T := TX5) (N := 5) hx hb hts inTX5 tyX5 tyX5_ok nmX5 hown hK hP hD hS 0 rfl rfl 4 (by decide) (hts _ q182) (fun _ h9 => h9) rfl hin rfl (by decide +kernel) rfl rfl (Nat.le_of_ble_eq_true rfl) dX5_init_35 (fun H locs hP hD hS => ?_)
  have hP : va_P D vwCl ([(h0, .inr (5, [.int 0, .int 0, .ref q1, .ref q2, .ref q3])), (q1, .inl (cI, 8, .inl (fun _ => 0))), (q2, .inl (cI, 8, .inl (fun _ => 0))), (q3, .inl (cI, 64, .inl (fun _ => 0)))]) H := hP
  have hD : va_D A ([(h0, .inr (5, [.int 0, .int 0, .ref q1, .ref q2, .ref q3])), (q1, .inl (cI, 8, .inl (fun _ => 0))), (q2, .inl (cI, 8, .inl (fun _ => 0))), (q3, .inl (cI, 64, .inl (fun _ => 0)))]) := hD
  have hP : va_P D vwCl [(h0, .inr (5, [.int 0, .int 0, .ref q1, .ref q2, .ref q3])), (q1, .inl (cI, 8, .inl (fun _ => 0))), (q2, .inl (cI, 8, .inl (fun _ => 0))), (q3, .inl (cI, 64, .inl (fun _ => 0)))] H := hP
  have hD : va_D A [(h0, .inr (5, [.int 0, .int 0, .ref q1, .ref q2, .ref q3])), (q1, .inl (cI, 8, .inl (fun _ => 0))), (q2, .inl (cI, 8, .inl (fun _ => 0))), (q3, .inl (cI, 64, .inl (fun _ => 0)))] := hD
  obtain ⟨u, hu⟩ : ∃ u : Nat → Nat → Nat, u 0 0 = q1 ∧ u 0 1 = q2 ∧ u 0 2 = q3 := ⟨(fun i => ([(fun k => ([q1, q2, q3] : List Nat).getD k 0)] : List (Nat → Nat)).getD i (fun _ => 0)), rfl, rfl, rfl⟩
  obtain ⟨e0, e1, e2⟩ := hu
  exact W.vret hx hb hr (fun t ht hW => ⟨⟨u, rfl, trivial, by rw [ht]; simp only [e0, e1, e2]; exact hP, by simp only [e0, e1, e2]; exact hD⟩, hS.F ht⟩) hS.2.2 dX5_init_38

set_option maxHeartbeats 8000000 in
set_option maxRecDepth 100000 in
theorem tX6_init {l : Launch} {D : va_G} {cI cZ cQ : ClassId} {h0 r1 r2 sz : Nat} : Met l yX6_init (.code yX6_init cX6_init 3 none :: TB) ({ frames := 1, cells := 0, slots := 0, locals := 12 } : Room) (kcP D (TY cI cZ cQ) sz [(h0, .inr (6, [.null, .null, .int 0, .int 0, .int 0, .int 0, .int 0]))] [.ref h0, .ref r1, .ref r2]) (va_Qv (fun _ : Nat → Nat → Nat => True) (fun u t => va_P D vwCl [(h0, .inr (6, [.ref r1, .ref r2, .int 0, .int 0, .int 0, .int (-1), .int 0]))] t.heap ∧ va_D (va_A [(h0, .inr (6, [.null, .null, .int 0, .int 0, .int 0, .int 0, .int 0]))] sz) [(h0, .inr (6, [.ref r1, .ref r2, .int 0, .int 0, .int 0, .int (-1), .int 0]))]) (va_A [(h0, .inr (6, [.null, .null, .int 0, .int 0, .int 0, .int 0, .int 0]))] sz)) 0 0 (va_A [(h0, .inr (6, [.null, .null, .int 0, .int 0, .int 0, .int 0, .int 0]))] sz) := by
  refine Met.ofW (cc := cX6_init) (maxL := 3) (ret := none) (by decide) rfl ?_
  intro p e s m args below meth c s₁ B hml hv
  obtain ⟨rfl, hsz, hP, hKC, hD0⟩ := hv
  have hx := B.exec
  have hb := B.bytes
  have hr := B.returns
  have hts : ∀ w ∈ TB, w.before ([.ref h0, .ref r1, .ref r2] : List Value).toArray s = true := fun w h => atoms_spec (ws := .code yX6_init cX6_init 3 none :: TB) B.pre w (List.mem_cons_of_mem _ h)
  have hown : s.vm.findClass RX6 = some m.cls := findClass_of_methodNamed B.named
  have hlocks := B.notSynchronized
  have hin : meth.name = "<init>" := (name_of_methodNamed B.named B.method).1
  have hKW := hKC.1
  have hAO := hKC.2
  have hK := hKW.1
  subst hsz
  have hD := hD0.self (sz := s.heap.size)
  generalize hAe : va_A [(h0, .inr (6, [.null, .null, .int 0, .int 0, .int 0, .int 0, .int 0]))] s.heap.size = A at hD ⊢
  have hA : ∀ q : Nat, s.heap.size ≤ q → A q := fun q h => by rw [← hAe]; exact Or.inr h
  have hS : va_S A s.heap s.heap [] := va_S.rf
  have hl := lv_entry [.ref h0, .ref r1, .ref r2] (n := 3) (Nat.le_of_ble_eq_true rfl)
  rw [lg_entry_eq]
  generalize (lg_sl [.ref h0, .ref r1, .ref r2] ++ List.replicate (3 - (lg_sl [.ref h0, .ref r1, .ref r2]).length) Slot.unset).toArray = ls at hl ⊢
  have hl : lv_has ls 3 [(0, .ref h0), (1, .ref r1), (2, .ref r2)] := hl
  refine lv_aload_n hx hb dX6_init_0 rfl (lv_at hl 0 rfl) ?_
  refine W.objInit hx hb hown (hts _ q126) (hts _ q63) (hts _ q64) rfl (by rw [hml]; exact hl.1) rfl dX6_init_1 (Nat.le_of_ble_eq_true rfl) (Nat.le_of_ble_eq_true rfl) ?_
  refine W.eq (g2 := F0 m 4 ls []) rfl ?_
  refine lv_aload_n hx hb dX6_init_4 rfl (lv_at hl 0 rfl) ?_
  refine lv_iconst (v := 0) hx hb dX6_init_5 (by decide) ?_
  refine va_put (D := D) (ci := 6) (v := .int 0) (ty := .int) (C := RX6) (T := TX6) (N := 7) hx hb hts inTX6 tyX6 tyX6_ok nmX6 hown hK hP hD hS 0 rfl rfl 2 (by decide) (hts _ q129) (fun _ h9 => h9) rfl (by decide +kernel) rfl rfl (Nat.le_of_ble_eq_true rfl) dX6_init_6 (fun H locs hP hD hS => ?_)
  have hP : va_P D vwCl ([(h0, .inr (6, [.null, .null, .int 0, .int 0, .int 0, .int 0, .int 0]))]) H := hP
  have hD : va_D A ([(h0, .inr (6, [.null, .null, .int 0, .int 0, .int 0, .int 0, .int 0]))]) := hD
  refine lv_aload_n hx hb dX6_init_9 rfl (lv_at hl 0 rfl) ?_
  refine lv_iconst (v := 0) hx hb dX6_init_10 (by decide) ?_
  refine va_put (D := D) (ci := 6) (v := .int 0) (ty := .int) (C := RX6) (T := TX6) (N := 7) hx hb hts inTX6 tyX6 tyX6_ok nmX6 hown hK hP hD hS 0 rfl rfl 3 (by decide) (hts _ q130) (fun _ h9 => h9) rfl (by decide +kernel) rfl rfl (Nat.le_of_ble_eq_true rfl) dX6_init_11 (fun H locs hP hD hS => ?_)
  have hP : va_P D vwCl ([(h0, .inr (6, [.null, .null, .int 0, .int 0, .int 0, .int 0, .int 0]))]) H := hP
  have hD : va_D A ([(h0, .inr (6, [.null, .null, .int 0, .int 0, .int 0, .int 0, .int 0]))]) := hD
  refine lv_aload_n hx hb dX6_init_14 rfl (lv_at hl 0 rfl) ?_
  refine lv_iconst (v := 0) hx hb dX6_init_15 (by decide) ?_
  refine va_put (D := D) (ci := 6) (v := .int 0) (ty := .int) (C := RX6) (T := TX6) (N := 7) hx hb hts inTX6 tyX6 tyX6_ok nmX6 hown hK hP hD hS 0 rfl rfl 4 (by decide) (hts _ q131) (fun _ h9 => h9) rfl (by decide +kernel) rfl rfl (Nat.le_of_ble_eq_true rfl) dX6_init_16 (fun H locs hP hD hS => ?_)
  have hP : va_P D vwCl ([(h0, .inr (6, [.null, .null, .int 0, .int 0, .int 0, .int 0, .int 0]))]) H := hP
  have hD : va_D A ([(h0, .inr (6, [.null, .null, .int 0, .int 0, .int 0, .int 0, .int 0]))]) := hD
  refine lv_aload_n hx hb dX6_init_19 rfl (lv_at hl 0 rfl) ?_
  refine lv_iconst (v := -1) hx hb dX6_init_20 (by decide) ?_
  refine va_put (D := D) (ci := 6) (v := .int (-1)) (ty := .int) (C := RX6) (T := TX6) (N := 7) hx hb hts inTX6 tyX6 tyX6_ok nmX6 hown hK hP hD hS 0 rfl rfl 5 (by decide) (hts _ q132) (fun _ h9 => h9) rfl (by decide +kernel) rfl rfl (Nat.le_of_ble_eq_true rfl) dX6_init_21 (fun H locs hP hD hS => ?_)
  have hP : va_P D vwCl ([(h0, .inr (6, [.null, .null, .int 0, .int 0, .int 0, .int (-1), .int 0]))]) H := hP
  have hD : va_D A ([(h0, .inr (6, [.null, .null, .int 0, .int 0, .int 0, .int (-1), .int 0]))]) := hD
  refine lv_aload_n hx hb dX6_init_24 rfl (lv_at hl 0 rfl) ?_
  refine lv_iconst (v := 0) hx hb dX6_init_25 (by decide) ?_
  refine va_put (D := D) (ci := 6) (v := .int 0) (ty := .int) (C := RX6) (T := TX6) (N := 7) hx hb hts inTX6 tyX6 tyX6_ok nmX6 hown hK hP hD hS 0 rfl rfl 6 (by decide) (hts _ q133) (fun _ h9 => h9) rfl (by decide +kernel) rfl rfl (Nat.le_of_ble_eq_true rfl) dX6_init_26 (fun H locs hP hD hS => ?_)
  have hP : va_P D vwCl ([(h0, .inr (6, [.null, .null, .int 0, .int 0, .int 0, .int (-1), .int 0]))]) H := hP
  have hD : va_D A ([(h0, .inr (6, [.null, .null, .int 0, .int 0, .int 0, .int (-1), .int 0]))]) := hD
  refine lv_aload_n hx hb dX6_init_29 rfl (lv_at hl 0 rfl) ?_
  refine lv_aload_n hx hb dX6_init_30 rfl (lv_at hl 1 rfl) ?_
  refine va_putF (D := D) (ci := 6) (v := .ref r1) (ty := .array .int) (C := RX6) (T := TX6) (N := 7) hx hb hts inTX6 tyX6 tyX6_ok nmX6 hown hK hP hD hS 0 rfl rfl 0 (by decide) (hts _ q127) (fun _ h9 => h9) rfl hin rfl (by decide +kernel) rfl rfl (Nat.le_of_ble_eq_true rfl) dX6_init_31 (fun H locs hP hD hS => ?_)
  have hP : va_P D vwCl ([(h0, .inr (6, [.ref r1, .null, .int 0, .int 0, .int 0, .int (-1), .int 0]))]) H := hP
  have hD : va_D A ([(h0, .inr (6, [.ref r1, .null, .int 0, .int 0, .int 0, .int (-1), .int 0]))]) := hD
  refine lv_aload_n hx hb dX6_init_34 rfl (lv_at hl 0 rfl) ?_
  refine lv_aload_n hx hb dX6_init_35 rfl (lv_at hl 2 rfl) ?_
  refine va_putF (D := D) (ci := 6) (v := .ref r2) (ty := .object "HalfPlanks$Folk") (C := RX6) (T := TX6) (N := 7) hx hb hts inTX6 tyX6 tyX6_ok nmX6 hown hK hP hD hS 0 rfl rfl 1 (by decide) (hts _ q128) (fun _ h9 => h9) rfl hin rfl (by decide +kernel) rfl rfl (Nat.le_of_ble_eq_true rfl) dX6_init_36 (fun H locs hP hD hS => ?_)
  have hP : va_P D vwCl ([(h0, .inr (6, [.ref r1, .ref r2, .int 0, .int 0, .int 0, .int (-1), .int 0]))]) H := hP
  have hD : va_D A ([(h0, .inr (6, [.ref r1, .ref r2, .int 0, .int 0, .int 0, .int (-1), .int 0]))]) := hD
  have hP : va_P D vwCl [(h0, .inr (6, [.ref r1, .ref r2, .int 0, .int 0, .int 0, .int (-1), .int 0]))] H := hP
  have hD : va_D A [(h0, .inr (6, [.ref r1, .ref r2, .int 0, .int 0, .int 0, .int (-1), .int 0]))] := hD
  obtain ⟨u, hu⟩ : ∃ u : Nat → Nat → Nat, u = fun _ _ => 0 := ⟨_, rfl⟩
  exact W.vret hx hb hr (fun t ht hW => ⟨⟨u, rfl, trivial, by rw [ht]; exact hP, by exact hD⟩, hS.F ht⟩) hS.2.2 dX6_init_39

set_option maxHeartbeats 8000000 in
set_option maxRecDepth 100000 in
theorem tX7_init {l : Launch} {D : va_G} {cI cZ cQ : ClassId} {h0 r1 sz : Nat} : Met l yX7_init (.code yX7_init cX7_init 2 none :: TB) ({ frames := 1, cells := 1, slots := 512, locals := 12 } : Room) (kcP D (TY cI cZ cQ) sz [(h0, .inr (7, [.null, .null]))] [.ref h0, .ref r1]) (va_Qv (fun _ : Nat → Nat → Nat => True) (fun u t => va_P D vwCl [(h0, .inr (7, [.ref r1, .ref (u 0 0)])), ((u 0 0), .inl (cI, 512, .inl (fun _ => 0)))] t.heap ∧ va_D (va_A [(h0, .inr (7, [.null, .null]))] sz) [(h0, .inr (7, [.ref r1, .ref (u 0 0)])), ((u 0 0), .inl (cI, 512, .inl (fun _ => 0)))]) (va_A [(h0, .inr (7, [.null, .null]))] sz)) 1 512 (va_A [(h0, .inr (7, [.null, .null]))] sz) := by
  refine Met.ofW (cc := cX7_init) (maxL := 2) (ret := none) (by decide) rfl ?_
  intro p e s m args below meth c s₁ B hml hv
  obtain ⟨rfl, hsz, hP, hKC, hD0⟩ := hv
  have hx := B.exec
  have hb := B.bytes
  have hr := B.returns
  have hts : ∀ w ∈ TB, w.before ([.ref h0, .ref r1] : List Value).toArray s = true := fun w h => atoms_spec (ws := .code yX7_init cX7_init 2 none :: TB) B.pre w (List.mem_cons_of_mem _ h)
  have hown : s.vm.findClass RX7 = some m.cls := findClass_of_methodNamed B.named
  have hlocks := B.notSynchronized
  have hin : meth.name = "<init>" := (name_of_methodNamed B.named B.method).1
  have hKW := hKC.1
  have hAO := hKC.2
  have hK := hKW.1
  subst hsz
  have hD := hD0.self (sz := s.heap.size)
  generalize hAe : va_A [(h0, .inr (7, [.null, .null]))] s.heap.size = A at hD ⊢
  have hA : ∀ q : Nat, s.heap.size ≤ q → A q := fun q h => by rw [← hAe]; exact Or.inr h
  have hS : va_S A s.heap s.heap [] := va_S.rf
  have hl := lv_entry [.ref h0, .ref r1] (n := 2) (Nat.le_of_ble_eq_true rfl)
  rw [lg_entry_eq]
  generalize (lg_sl [.ref h0, .ref r1] ++ List.replicate (2 - (lg_sl [.ref h0, .ref r1]).length) Slot.unset).toArray = ls at hl ⊢
  have hl : lv_has ls 2 [(0, .ref h0), (1, .ref r1)] := hl
  refine lv_aload_n hx hb dX7_init_0 rfl (lv_at hl 0 rfl) ?_
  refine W.objInit hx hb hown (hts _ q154) (hts _ q63) (hts _ q64) rfl (by rw [hml]; exact hl.1) rfl dX7_init_1 (Nat.le_of_ble_eq_true rfl) (Nat.le_of_ble_eq_true rfl) ?_
  refine W.eq (g2 := F0 m 4 ls []) rfl ?_
  refine lv_aload_n hx hb dX7_init_4 rfl (lv_at hl 0 rfl) ?_
  refine lv_sipush (v := 512) hx hb dX7_init_5 (by decide) ?_
  refine x_newa (atype := .int) (ty := .int) (N' := 512) hx hb (hts _ q120) rfl hK 0 rfl hP hD hS hA (a0 := (512, .inl (fun _ => 0))) (fun cA => rfl) (by decide) (by decide) (Nat.le_of_ble_eq_true rfl) (Nat.le_of_ble_eq_true rfl) (Nat.le_of_ble_eq_true rfl) rfl dX7_init_8 (fun q1 H hP hD hS => ?_)
  have hP : va_P D vwCl ([(h0, .inr (7, [.null, .null])), (q1, .inl (cI, 512, .inl (fun _ => 0)))]) H := hP
  have hD : va_D A ([(h0, .inr (7, [.null, .null])), (q1, .inl (cI, 512, .inl (fun _ => 0)))]) := hD
  refine va_putF (D := D) (ci := 7) (v := .ref q1) (ty := .array .int) (C := RX7) (T := TX7) (N := 2) hx hb hts inTX7 tyX7 tyX7_ok nmX7 hown hK hP hD hS 0 rfl rfl 1 (by decide) (hts _ q156) (fun _ h9 => h9) rfl hin rfl (by decide +kernel) rfl rfl (Nat.le_of_ble_eq_true rfl) dX7_init_10 (fun H locs hP hD hS => ?_)
  have hP : va_P D vwCl ([(h0, .inr (7, [.null, .ref q1])), (q1, .inl (cI, 512, .inl (fun _ => 0)))]) H := hP
  have hD : va_D A ([(h0, .inr (7, [.null, .ref q1])), (q1, .inl (cI, 512, .inl (fun _ => 0)))]) := hD
  refine lv_aload_n hx hb dX7_init_13 rfl (lv_at hl 0 rfl) ?_
  refine lv_aload_n hx hb dX7_init_14 rfl (lv_at hl 1 rfl) ?_
  refine va_putF (D := D) (ci := 7) (v := .ref r1) (ty := .object "HalfPlanks$Folk") (C := RX7) (T := TX7) (N := 2) hx hb hts inTX7 tyX7 tyX7_ok nmX7 hown hK hP hD hS 0 rfl rfl 0 (by decide) (hts _ q155) (fun _ h9 => h9) rfl hin rfl (by decide +kernel) rfl rfl (Nat.le_of_ble_eq_true rfl) dX7_init_15 (fun H locs hP hD hS => ?_)
  have hP : va_P D vwCl ([(h0, .inr (7, [.ref r1, .ref q1])), (q1, .inl (cI, 512, .inl (fun _ => 0)))]) H := hP
  have hD : va_D A ([(h0, .inr (7, [.ref r1, .ref q1])), (q1, .inl (cI, 512, .inl (fun _ => 0)))]) := hD
  have hP : va_P D vwCl [(h0, .inr (7, [.ref r1, .ref q1])), (q1, .inl (cI, 512, .inl (fun _ => 0)))] H := hP
  have hD : va_D A [(h0, .inr (7, [.ref r1, .ref q1])), (q1, .inl (cI, 512, .inl (fun _ => 0)))] := hD
  obtain ⟨u, hu⟩ : ∃ u : Nat → Nat → Nat, u 0 0 = q1 := ⟨(fun i => ([(fun k => ([q1] : List Nat).getD k 0)] : List (Nat → Nat)).getD i (fun _ => 0)), rfl⟩
  have e0 := hu
  exact W.vret hx hb hr (fun t ht hW => ⟨⟨u, rfl, trivial, by rw [ht]; simp only [e0]; exact hP, by simp only [e0]; exact hD⟩, hS.F ht⟩) hS.2.2 dX7_init_18

set_option maxHeartbeats 8000000 in
set_option maxRecDepth 100000 in
theorem tX4_init {l : Launch} {D : va_G} {cI cZ cQ : ClassId} {h0 r1 r2 r3 sz : Nat} : Met l yX4_init (.code yX4_init cX4_init 4 none :: TB) ({ frames := 1, cells := 0, slots := 0, locals := 12 } : Room) (kcP D (TY cI cZ cQ) sz [(h0, .inr (4, [.null, .null, .null]))] [.ref h0, .ref r1, .ref r2, .ref r3]) (va_Qv (fun _ : Nat → Nat → Nat => True) (fun u t => va_P D vwCl [(h0, .inr (4, [.ref r1, .ref r2, .ref r3]))] t.heap ∧ va_D (va_A [(h0, .inr (4, [.null, .null, .null]))] sz) [(h0, .inr (4, [.ref r1, .ref r2, .ref r3]))]) (va_A [(h0, .inr (4, [.null, .null, .null]))] sz)) 0 0 (va_A [(h0, .inr (4, [.null, .null, .null]))] sz) := by
  refine Met.ofW (cc := cX4_init) (maxL := 4) (ret := none) (by decide) rfl ?_
  intro p e s m args below meth c s₁ B hml hv
  obtain ⟨rfl, hsz, hP, hKC, hD0⟩ := hv
  have hx := B.exec
  have hb := B.bytes
  have hr := B.returns
  have hts : ∀ w ∈ TB, w.before ([.ref h0, .ref r1, .ref r2, .ref r3] : List Value).toArray s = true := fun w h => atoms_spec (ws := .code yX4_init cX4_init 4 none :: TB) B.pre w (List.mem_cons_of_mem _ h)
  have hown : s.vm.findClass RX4 = some m.cls := findClass_of_methodNamed B.named
  have hlocks := B.notSynchronized
  have hin : meth.name = "<init>" := (name_of_methodNamed B.named B.method).1
  have hKW := hKC.1
  have hAO := hKC.2
  have hK := hKW.1
  subst hsz
  have hD := hD0.self (sz := s.heap.size)
  generalize hAe : va_A [(h0, .inr (4, [.null, .null, .null]))] s.heap.size = A at hD ⊢
  have hA : ∀ q : Nat, s.heap.size ≤ q → A q := fun q h => by rw [← hAe]; exact Or.inr h
  have hS : va_S A s.heap s.heap [] := va_S.rf
  have hl := lv_entry [.ref h0, .ref r1, .ref r2, .ref r3] (n := 4) (Nat.le_of_ble_eq_true rfl)
  rw [lg_entry_eq]
  generalize (lg_sl [.ref h0, .ref r1, .ref r2, .ref r3] ++ List.replicate (4 - (lg_sl [.ref h0, .ref r1, .ref r2, .ref r3]).length) Slot.unset).toArray = ls at hl ⊢
  have hl : lv_has ls 4 [(0, .ref h0), (1, .ref r1), (2, .ref r2), (3, .ref r3)] := hl
  refine lv_aload_n hx hb dX4_init_0 rfl (lv_at hl 0 rfl) ?_
  refine W.objInit hx hb hown (hts _ q219) (hts _ q63) (hts _ q64) rfl (by rw [hml]; exact hl.1) rfl dX4_init_1 (Nat.le_of_ble_eq_true rfl) (Nat.le_of_ble_eq_true rfl) ?_
  refine W.eq (g2 := F0 m 4 ls []) rfl ?_
  refine lv_aload_n hx hb dX4_init_4 rfl (lv_at hl 0 rfl) ?_
  refine lv_aload_n hx hb dX4_init_5 rfl (lv_at hl 1 rfl) ?_
  refine va_putF (D := D) (ci := 4) (v := .ref r1) (ty := .object "HalfPlanks$Folk") (C := RX4) (T := TX4) (N := 3) hx hb hts inTX4 tyX4 tyX4_ok nmX4 hown hK hP hD hS 0 rfl rfl 0 (by decide) (hts _ q220) (fun _ h9 => h9) rfl hin rfl (by decide +kernel) rfl rfl (Nat.le_of_ble_eq_true rfl) dX4_init_6 (fun H locs hP hD hS => ?_)
  have hP : va_P D vwCl ([(h0, .inr (4, [.ref r1, .null, .null]))]) H := hP
  have hD : va_D A ([(h0, .inr (4, [.ref r1, .null, .null]))]) := hD
  refine lv_aload_n hx hb dX4_init_9 rfl (lv_at hl 0 rfl) ?_
  refine lv_aload_n hx hb dX4_init_10 rfl (lv_at hl 2 rfl) ?_
  refine va_putF (D := D) (ci := 4) (v := .ref r2) (ty := .object "HalfPlanks$Strength") (C := RX4) (T := TX4) (N := 3) hx hb hts inTX4 tyX4 tyX4_ok nmX4 hown hK hP hD hS 0 rfl rfl 1 (by decide) (hts _ q221) (fun _ h9 => h9) rfl hin rfl (by decide +kernel) rfl rfl (Nat.le_of_ble_eq_true rfl) dX4_init_11 (fun H locs hP hD hS => ?_)
  have hP : va_P D vwCl ([(h0, .inr (4, [.ref r1, .ref r2, .null]))]) H := hP
  have hD : va_D A ([(h0, .inr (4, [.ref r1, .ref r2, .null]))]) := hD
  refine lv_aload_n hx hb dX4_init_14 rfl (lv_at hl 0 rfl) ?_
  refine lv_aload_n hx hb dX4_init_15 rfl (lv_at hl 3 rfl) ?_
  refine va_putF (D := D) (ci := 4) (v := .ref r3) (ty := .object "HalfPlanks$Promises") (C := RX4) (T := TX4) (N := 3) hx hb hts inTX4 tyX4 tyX4_ok nmX4 hown hK hP hD hS 0 rfl rfl 2 (by decide) (hts _ q222) (fun _ h9 => h9) rfl hin rfl (by decide +kernel) rfl rfl (Nat.le_of_ble_eq_true rfl) dX4_init_16 (fun H locs hP hD hS => ?_)
  have hP : va_P D vwCl ([(h0, .inr (4, [.ref r1, .ref r2, .ref r3]))]) H := hP
  have hD : va_D A ([(h0, .inr (4, [.ref r1, .ref r2, .ref r3]))]) := hD
  have hP : va_P D vwCl [(h0, .inr (4, [.ref r1, .ref r2, .ref r3]))] H := hP
  have hD : va_D A [(h0, .inr (4, [.ref r1, .ref r2, .ref r3]))] := hD
  obtain ⟨u, hu⟩ : ∃ u : Nat → Nat → Nat, u = fun _ _ => 0 := ⟨_, rfl⟩
  exact W.vret hx hb hr (fun t ht hW => ⟨⟨u, rfl, trivial, by rw [ht]; exact hP, by exact hD⟩, hS.F ht⟩) hS.2.2 dX4_init_19

set_option maxHeartbeats 8000000 in
set_option maxRecDepth 100000 in
theorem tX1_init {l : Launch} {D : va_G} {cI cZ cQ : ClassId} {h0 r1 r2 r3 sz : Nat} : Met l yX1_init (.code yX1_init cX1_init 4 none :: TB) ({ frames := 2, cells := 4, slots := 85, locals := 32 } : Room) (kcP D (TY cI cZ cQ) sz [(h0, .inr (1, [.null, .null, .null, .null]))] [.ref h0, .ref r1, .ref r2, .ref r3]) (va_Qv (fun _ : Nat → Nat → Nat => True) (fun u t => va_P D vwCl [(h0, .inr (1, [.ref r1, .ref r2, .ref r3, .ref (u 0 0)])), ((u 0 0), .inr (5, [.int 0, .int 0, .ref (u 0 1), .ref (u 0 2), .ref (u 0 3)])), ((u 0 1), .inl (cI, 8, .inl (fun _ => 0))), ((u 0 2), .inl (cI, 8, .inl (fun _ => 0))), ((u 0 3), .inl (cI, 64, .inl (fun _ => 0)))] t.heap ∧ va_D (va_A [(h0, .inr (1, [.null, .null, .null, .null]))] sz) [(h0, .inr (1, [.ref r1, .ref r2, .ref r3, .ref (u 0 0)])), ((u 0 0), .inr (5, [.int 0, .int 0, .ref (u 0 1), .ref (u 0 2), .ref (u 0 3)])), ((u 0 1), .inl (cI, 8, .inl (fun _ => 0))), ((u 0 2), .inl (cI, 8, .inl (fun _ => 0))), ((u 0 3), .inl (cI, 64, .inl (fun _ => 0)))]) (va_A [(h0, .inr (1, [.null, .null, .null, .null]))] sz)) 4 85 (va_A [(h0, .inr (1, [.null, .null, .null, .null]))] sz) := by
  refine Met.ofW (cc := cX1_init) (maxL := 4) (ret := none) (by decide) rfl ?_
  intro p e s m args below meth c s₁ B hml hv
  obtain ⟨rfl, hsz, hP, hKC, hD0⟩ := hv
  have hx := B.exec
  have hb := B.bytes
  have hr := B.returns
  have hts : ∀ w ∈ TB, w.before ([.ref h0, .ref r1, .ref r2, .ref r3] : List Value).toArray s = true := fun w h => atoms_spec (ws := .code yX1_init cX1_init 4 none :: TB) B.pre w (List.mem_cons_of_mem _ h)
  have hown : s.vm.findClass RX1 = some m.cls := findClass_of_methodNamed B.named
  have hlocks := B.notSynchronized
  have hin : meth.name = "<init>" := (name_of_methodNamed B.named B.method).1
  have hKW := hKC.1
  have hAO := hKC.2
  have hK := hKW.1
  subst hsz
  have hD := hD0.self (sz := s.heap.size)
  generalize hAe : va_A [(h0, .inr (1, [.null, .null, .null, .null]))] s.heap.size = A at hD ⊢
  have hA : ∀ q : Nat, s.heap.size ≤ q → A q := fun q h => by rw [← hAe]; exact Or.inr h
  have hS : va_S A s.heap s.heap [] := va_S.rf
  have hl := lv_entry [.ref h0, .ref r1, .ref r2, .ref r3] (n := 4) (Nat.le_of_ble_eq_true rfl)
  rw [lg_entry_eq]
  generalize (lg_sl [.ref h0, .ref r1, .ref r2, .ref r3] ++ List.replicate (4 - (lg_sl [.ref h0, .ref r1, .ref r2, .ref r3]).length) Slot.unset).toArray = ls at hl ⊢
  have hl : lv_has ls 4 [(0, .ref h0), (1, .ref r1), (2, .ref r2), (3, .ref r3)] := hl
  refine lv_aload_n hx hb dX1_init_0 rfl (lv_at hl 0 rfl) ?_
  refine W.objInit hx hb hown (hts _ q236) (hts _ q63) (hts _ q64) rfl (by rw [hml]; exact hl.1) rfl dX1_init_1 (Nat.le_of_ble_eq_true rfl) (Nat.le_of_ble_eq_true rfl) ?_
  refine W.eq (g2 := F0 m 4 ls []) rfl ?_
  refine lv_aload_n hx hb dX1_init_4 rfl (lv_at hl 0 rfl) ?_
  refine va_new (ci := 5) (fs := [.int 0, .int 0, .null, .null, .null]) (C := RX5) (T := TX5) (N := 5) hx hb hts inTX5 tyX5 tyX5_ok hown (hts _ q237) (hts _ q163) (hts _ q43) hK hP hD hS hA rfl (fun j hj => by rcases (show j = 0 ∨ j = 1 ∨ j = 2 ∨ j = 3 ∨ j = 4 by omega) with rfl | rfl | rfl | rfl | rfl <;> rfl) (Nat.le_of_ble_eq_true rfl) (Nat.le_of_ble_eq_true rfl) dX1_init_5 (fun q1 H hP hD hS => ?_)
  have hP : va_P D vwCl ([(h0, .inr (1, [.null, .null, .null, .null])), (q1, .inr (5, [.int 0, .int 0, .null, .null, .null]))]) H := hP
  have hD : va_D A ([(h0, .inr (1, [.null, .null, .null, .null])), (q1, .inr (5, [.int 0, .int 0, .null, .null, .null]))]) := hD
  refine lv_dup hx hb dX1_init_8 rfl ?_
  have hPc := hP.sub (ws' := [(q1, .inr (5, [.int 0, .int 0, .null, .null, .null]))]) [1] rfl
  have hDc := hD.sub (ws' := [(q1, .inr (5, [.int 0, .int 0, .null, .null, .null]))]) [1] (by decide) rfl
  have hFc := va_free (wc := [(q1, .inr (5, [.int 0, .int 0, .null, .null, .null]))]) hD hS hA [1] rfl
  refine va_callv (va_runIN (As := []) (rest := [.ref q1, .ref h0]) ⟨hx, hb, hml, hown, hts⟩ (tX5_init (h0 := q1) (sz := H.size)) ⟨va_cnB 0 hts (tb_one q166) rfl rfl rfl (hKW.2 ("HalfPlanks$Gambler", 11, yX5_init, "HalfPlanks") (by decide +kernel)) (hts _ q43) (by decide +kernel) ⟨Nat.le_of_ble_eq_true rfl, Nat.le_of_ble_eq_true rfl⟩, rfl, hts _ q165⟩ ⟨kcB, fun U hU hW => ⟨rfl, by rw [hU], by rw [hU]; exact hPc, hKC.warm hW, hDc.weaken (fun _ _ _ _ => trivial)⟩⟩ rfl rfl hl.1 rfl (lv_room (Nat.le_of_ble_eq_true rfl)) dX1_init_9 ⟨Nat.le_of_ble_eq_true rfl, Nat.le_of_ble_eq_true rfl⟩) hS (fun q _ h => hFc q h) hFc (fun u2 t H1 locs ht hvm _ hB hz1 hk1 hS => ?_)
  obtain ⟨hP1, hD1⟩ := hB
  rw [ht] at hP1
  obtain ⟨hP, hD⟩ := va_join (wr := [(h0, .inr (1, [.null, .null, .null, .null]))]) (w1 := [(q1, .inr (5, [.int 0, .int 0, .ref (u2 0 0), .ref (u2 0 1), .ref (u2 0 2)])), ((u2 0 0), .inl (cI, 8, .inl (fun _ => 0))), ((u2 0 1), .inl (cI, 8, .inl (fun _ => 0))), ((u2 0 2), .inl (cI, 64, .inl (fun _ => 0)))]) hP hD [1] [0] rfl rfl (by decide) (by decide) hk1 hFc hP1 hD1
  generalize H1 = H at hP hS ⊢
  have hP : va_P D vwCl ([(h0, .inr (1, [.null, .null, .null, .null])), (q1, .inr (5, [.int 0, .int 0, .ref (u2 0 0), .ref (u2 0 1), .ref (u2 0 2)])), ((u2 0 0), .inl (cI, 8, .inl (fun _ => 0))), ((u2 0 1), .inl (cI, 8, .inl (fun _ => 0))), ((u2 0 2), .inl (cI, 64, .inl (fun _ => 0)))]) H := hP
  have hD : va_D A ([(h0, .inr (1, [.null, .null, .null, .null])), (q1, .inr (5, [.int 0, .int 0, .ref (u2 0 0), .ref (u2 0 1), .ref (u2 0 2)])), ((u2 0 0), .inl (cI, 8, .inl (fun _ => 0))), ((u2 0 1), .inl (cI, 8, .inl (fun _ => 0))), ((u2 0 2), .inl (cI, 64, .inl (fun _ => 0)))]) := hD
  refine va_putF (D := D) (ci := 1) (v := .ref q1) (ty := .object "HalfPlanks$Promises") (C := RX1) (T := TX1) (N := 4) hx hb hts inTX1 tyX1 tyX1_ok nmX1 hown hK hP hD hS 0 rfl rfl 3 (by decide) (hts _ q242) (fun _ h9 => h9) rfl hin rfl (by decide +kernel) rfl rfl (Nat.le_of_ble_eq_true rfl) dX1_init_12 (fun H locs hP hD hS => ?_)
  have hP : va_P D vwCl ([(h0, .inr (1, [.null, .null, .null, .ref q1])), (q1, .inr (5, [.int 0, .int 0, .ref (u2 0 0), .ref (u2 0 1), .ref (u2 0 2)])), ((u2 0 0), .inl (cI, 8, .inl (fun _ => 0))), ((u2 0 1), .inl (cI, 8, .inl (fun _ => 0))), ((u2 0 2), .inl (cI, 64, .inl (fun _ => 0)))]) H := hP
  have hD : va_D A ([(h0, .inr (1, [.null, .null, .null, .ref q1])), (q1, .inr (5, [.int 0, .int 0, .ref (u2 0 0), .ref (u2 0 1), .ref (u2 0 2)])), ((u2 0 0), .inl (cI, 8, .inl (fun _ => 0))), ((u2 0 1), .inl (cI, 8, .inl (fun _ => 0))), ((u2 0 2), .inl (cI, 64, .inl (fun _ => 0)))]) := hD
  refine lv_aload_n hx hb dX1_init_15 rfl (lv_at hl 0 rfl) ?_
  refine lv_aload_n hx hb dX1_init_16 rfl (lv_at hl 1 rfl) ?_
  refine va_putF (D := D) (ci := 1) (v := .ref r1) (ty := .object "HalfPlanks$Folk") (C := RX1) (T := TX1) (N := 4) hx hb hts inTX1 tyX1 tyX1_ok nmX1 hown hK hP hD hS 0 rfl rfl 0 (by decide) (hts _ q239) (fun _ h9 => h9) rfl hin rfl (by decide +kernel) rfl rfl (Nat.le_of_ble_eq_true rfl) dX1_init_17 (fun H locs hP hD hS => ?_)
  have hP : va_P D vwCl ([(h0, .inr (1, [.ref r1, .null, .null, .ref q1])), (q1, .inr (5, [.int 0, .int 0, .ref (u2 0 0), .ref (u2 0 1), .ref (u2 0 2)])), ((u2 0 0), .inl (cI, 8, .inl (fun _ => 0))), ((u2 0 1), .inl (cI, 8, .inl (fun _ => 0))), ((u2 0 2), .inl (cI, 64, .inl (fun _ => 0)))]) H := hP
  have hD : va_D A ([(h0, .inr (1, [.ref r1, .null, .null, .ref q1])), (q1, .inr (5, [.int 0, .int 0, .ref (u2 0 0), .ref (u2 0 1), .ref (u2 0 2)])), ((u2 0 0), .inl (cI, 8, .inl (fun _ => 0))), ((u2 0 1), .inl (cI, 8, .inl (fun _ => 0))), ((u2 0 2), .inl (cI, 64, .inl (fun _ => 0)))]) := hD
  refine lv_aload_n hx hb dX1_init_20 rfl (lv_at hl 0 rfl) ?_
  refine lv_aload_n hx hb dX1_init_21 rfl (lv_at hl 2 rfl) ?_
  refine va_putF (D := D) (ci := 1) (v := .ref r2) (ty := .object "HalfPlanks$Strength") (C := RX1) (T := TX1) (N := 4) hx hb hts inTX1 tyX1 tyX1_ok nmX1 hown hK hP hD hS 0 rfl rfl 1 (by decide) (hts _ q240) (fun _ h9 => h9) rfl hin rfl (by decide +kernel) rfl rfl (Nat.le_of_ble_eq_true rfl) dX1_init_22 (fun H locs hP hD hS => ?_)
  have hP : va_P D vwCl ([(h0, .inr (1, [.ref r1, .ref r2, .null, .ref q1])), (q1, .inr (5, [.int 0, .int 0, .ref (u2 0 0), .ref (u2 0 1), .ref (u2 0 2)])), ((u2 0 0), .inl (cI, 8, .inl (fun _ => 0))), ((u2 0 1), .inl (cI, 8, .inl (fun _ => 0))), ((u2 0 2), .inl (cI, 64, .inl (fun _ => 0)))]) H := hP
  have hD : va_D A ([(h0, .inr (1, [.ref r1, .ref r2, .null, .ref q1])), (q1, .inr (5, [.int 0, .int 0, .ref (u2 0 0), .ref (u2 0 1), .ref (u2 0 2)])), ((u2 0 0), .inl (cI, 8, .inl (fun _ => 0))), ((u2 0 1), .inl (cI, 8, .inl (fun _ => 0))), ((u2 0 2), .inl (cI, 64, .inl (fun _ => 0)))]) := hD
  refine lv_aload_n hx hb dX1_init_25 rfl (lv_at hl 0 rfl) ?_
  refine lv_aload_n hx hb dX1_init_26 rfl (lv_at hl 3 rfl) ?_
  refine va_putF (D := D) (ci := 1) (v := .ref r3) (ty := .object "HalfPlanks$Promises") (C := RX1) (T := TX1) (N := 4) hx hb hts inTX1 tyX1 tyX1_ok nmX1 hown hK hP hD hS 0 rfl rfl 2 (by decide) (hts _ q241) (fun _ h9 => h9) rfl hin rfl (by decide +kernel) rfl rfl (Nat.le_of_ble_eq_true rfl) dX1_init_27 (fun H locs hP hD hS => ?_)
  have hP : va_P D vwCl ([(h0, .inr (1, [.ref r1, .ref r2, .ref r3, .ref q1])), (q1, .inr (5, [.int 0, .int 0, .ref (u2 0 0), .ref (u2 0 1), .ref (u2 0 2)])), ((u2 0 0), .inl (cI, 8, .inl (fun _ => 0))), ((u2 0 1), .inl (cI, 8, .inl (fun _ => 0))), ((u2 0 2), .inl (cI, 64, .inl (fun _ => 0)))]) H := hP
  have hD : va_D A ([(h0, .inr (1, [.ref r1, .ref r2, .ref r3, .ref q1])), (q1, .inr (5, [.int 0, .int 0, .ref (u2 0 0), .ref (u2 0 1), .ref (u2 0 2)])), ((u2 0 0), .inl (cI, 8, .inl (fun _ => 0))), ((u2 0 1), .inl (cI, 8, .inl (fun _ => 0))), ((u2 0 2), .inl (cI, 64, .inl (fun _ => 0)))]) := hD
  have hP : va_P D vwCl [(h0, .inr (1, [.ref r1, .ref r2, .ref r3, .ref q1])), (q1, .inr (5, [.int 0, .int 0, .ref (u2 0 0), .ref (u2 0 1), .ref (u2 0 2)])), ((u2 0 0), .inl (cI, 8, .inl (fun _ => 0))), ((u2 0 1), .inl (cI, 8, .inl (fun _ => 0))), ((u2 0 2), .inl (cI, 64, .inl (fun _ => 0)))] H := hP
  have hD : va_D A [(h0, .inr (1, [.ref r1, .ref r2, .ref r3, .ref q1])), (q1, .inr (5, [.int 0, .int 0, .ref (u2 0 0), .ref (u2 0 1), .ref (u2 0 2)])), ((u2 0 0), .inl (cI, 8, .inl (fun _ => 0))), ((u2 0 1), .inl (cI, 8, .inl (fun _ => 0))), ((u2 0 2), .inl (cI, 64, .inl (fun _ => 0)))] := hD
  obtain ⟨u, hu⟩ : ∃ u : Nat → Nat → Nat, u 0 0 = q1 ∧ u 0 1 = u2 0 0 ∧ u 0 2 = u2 0 1 ∧ u 0 3 = u2 0 2 := ⟨(fun i => ([(fun k => ([q1, (u2 0 0), (u2 0 1), (u2 0 2)] : List Nat).getD k 0)] : List (Nat → Nat)).getD i (fun _ => 0)), rfl, rfl, rfl, rfl⟩
  obtain ⟨e0, e1, e2, e3⟩ := hu
  exact W.vret hx hb hr (fun t ht hW => ⟨⟨u, rfl, trivial, by rw [ht]; simp only [e0, e1, e2, e3]; exact hP, by simp only [e0, e1, e2, e3]; exact hD⟩, hS.F ht⟩) hS.2.2 dX1_init_30

set_option maxHeartbeats 8000000 in
set_option maxRecDepth 100000 in
theorem tX2_init {l : Launch} {D : va_G} {cI cZ cQ : ClassId} {h0 r1 r2 r3 sz : Nat} : Met l yX2_init (.code yX2_init cX2_init 4 none :: TB) ({ frames := 1, cells := 3, slots := 21, locals := 12 } : Room) (kcP D (TY cI cZ cQ) sz [(h0, .inr (2, [.null, .null, .null, .null, .null, .int 0, .null, .int 0, .int 0]))] [.ref h0, .ref r1, .ref r2, .ref r3]) (va_Qv (fun _ : Nat → Nat → Nat => True) (fun u t => va_P D vwCl [(h0, .inr (2, [.ref r1, .ref r2, .ref r3, .ref (u 0 0), .ref (u 0 1), .int 0, .ref (u 0 2), .int (-9), .int (-9)])), ((u 0 0), .inl (cI, 6, .inl (fun _ => 0))), ((u 0 1), .inl (cZ, 6, .inl (fun _ => 0))), ((u 0 2), .inl (cI, 9, .inl (fun _ => 0)))] t.heap ∧ va_D (va_A [(h0, .inr (2, [.null, .null, .null, .null, .null, .int 0, .null, .int 0, .int 0]))] sz) [(h0, .inr (2, [.ref r1, .ref r2, .ref r3, .ref (u 0 0), .ref (u 0 1), .int 0, .ref (u 0 2), .int (-9), .int (-9)])), ((u 0 0), .inl (cI, 6, .inl (fun _ => 0))), ((u 0 1), .inl (cZ, 6, .inl (fun _ => 0))), ((u 0 2), .inl (cI, 9, .inl (fun _ => 0)))]) (va_A [(h0, .inr (2, [.null, .null, .null, .null, .null, .int 0, .null, .int 0, .int 0]))] sz)) 3 21 (va_A [(h0, .inr (2, [.null, .null, .null, .null, .null, .int 0, .null, .int 0, .int 0]))] sz) := by
  refine Met.ofW (cc := cX2_init) (maxL := 4) (ret := none) (by decide) rfl ?_
  intro p e s m args below meth c s₁ B hml hv
  obtain ⟨rfl, hsz, hP, hKC, hD0⟩ := hv
  have hx := B.exec
  have hb := B.bytes
  have hr := B.returns
  have hts : ∀ w ∈ TB, w.before ([.ref h0, .ref r1, .ref r2, .ref r3] : List Value).toArray s = true := fun w h => atoms_spec (ws := .code yX2_init cX2_init 4 none :: TB) B.pre w (List.mem_cons_of_mem _ h)
  have hown : s.vm.findClass RX2 = some m.cls := findClass_of_methodNamed B.named
  have hlocks := B.notSynchronized
  have hin : meth.name = "<init>" := (name_of_methodNamed B.named B.method).1
  have hKW := hKC.1
  have hAO := hKC.2
  have hK := hKW.1
  subst hsz
  have hD := hD0.self (sz := s.heap.size)
  generalize hAe : va_A [(h0, .inr (2, [.null, .null, .null, .null, .null, .int 0, .null, .int 0, .int 0]))] s.heap.size = A at hD ⊢
  have hA : ∀ q : Nat, s.heap.size ≤ q → A q := fun q h => by rw [← hAe]; exact Or.inr h
  have hS : va_S A s.heap s.heap [] := va_S.rf
  have hl := lv_entry [.ref h0, .ref r1, .ref r2, .ref r3] (n := 4) (Nat.le_of_ble_eq_true rfl)
  rw [lg_entry_eq]
  generalize (lg_sl [.ref h0, .ref r1, .ref r2, .ref r3] ++ List.replicate (4 - (lg_sl [.ref h0, .ref r1, .ref r2, .ref r3]).length) Slot.unset).toArray = ls at hl ⊢
  have hl : lv_has ls 4 [(0, .ref h0), (1, .ref r1), (2, .ref r2), (3, .ref r3)] := hl
  refine lv_aload_n hx hb dX2_init_0 rfl (lv_at hl 0 rfl) ?_
  refine W.objInit hx hb hown (hts _ q257) (hts _ q63) (hts _ q64) rfl (by rw [hml]; exact hl.1) rfl dX2_init_1 (Nat.le_of_ble_eq_true rfl) (Nat.le_of_ble_eq_true rfl) ?_
  refine W.eq (g2 := F0 m 4 ls []) rfl ?_
  refine lv_aload_n hx hb dX2_init_4 rfl (lv_at hl 0 rfl) ?_
  refine lv_bipush (v := 6) hx hb dX2_init_5 (by decide) ?_
  refine x_newa (atype := .int) (ty := .int) (N' := 6) hx hb (hts _ q120) rfl hK 0 rfl hP hD hS hA (a0 := (6, .inl (fun _ => 0))) (fun cA => rfl) (by decide) (by decide) (Nat.le_of_ble_eq_true rfl) (Nat.le_of_ble_eq_true rfl) (Nat.le_of_ble_eq_true rfl) rfl dX2_init_7 (fun q1 H hP hD hS => ?_)
  have hP : va_P D vwCl ([(h0, .inr (2, [.null, .null, .null, .null, .null, .int 0, .null, .int 0, .int 0])), (q1, .inl (cI, 6, .inl (fun _ => 0)))]) H := hP
  have hD : va_D A ([(h0, .inr (2, [.null, .null, .null, .null, .null, .int 0, .null, .int 0, .int 0])), (q1, .inl (cI, 6, .inl (fun _ => 0)))]) := hD
  refine va_putF (D := D) (ci := 2) (v := .ref q1) (ty := .array .int) (C := RX2) (T := TX2) (N := 9) hx hb hts inTX2 tyX2 tyX2_ok nmX2 hown hK hP hD hS 0 rfl rfl 3 (by decide) (hts _ q261) (fun _ h9 => h9) rfl hin rfl (by decide +kernel) rfl rfl (Nat.le_of_ble_eq_true rfl) dX2_init_9 (fun H locs hP hD hS => ?_)
  have hP : va_P D vwCl ([(h0, .inr (2, [.null, .null, .null, .ref q1, .null, .int 0, .null, .int 0, .int 0])), (q1, .inl (cI, 6, .inl (fun _ => 0)))]) H := hP
  have hD : va_D A ([(h0, .inr (2, [.null, .null, .null, .ref q1, .null, .int 0, .null, .int 0, .int 0])), (q1, .inl (cI, 6, .inl (fun _ => 0)))]) := hD
  refine lv_aload_n hx hb dX2_init_12 rfl (lv_at hl 0 rfl) ?_
  refine lv_bipush (v := 6) hx hb dX2_init_13 (by decide) ?_
  refine x_newa (atype := .boolean) (ty := .boolean) (N' := 6) hx hb (hts _ q230) rfl hK 1 rfl hP hD hS hA (a0 := (6, .inl (fun _ => 0))) (fun cA => rfl) (by decide) (by decide) (Nat.le_of_ble_eq_true rfl) (Nat.le_of_ble_eq_true rfl) (Nat.le_of_ble_eq_true rfl) rfl dX2_init_15 (fun q2 H hP hD hS => ?_)
  have hP : va_P D vwCl ([(h0, .inr (2, [.null, .null, .null, .ref q1, .null, .int 0, .null, .int 0, .int 0])), (q1, .inl (cI, 6, .inl (fun _ => 0))), (q2, .inl (cZ, 6, .inl (fun _ => 0)))]) H := hP
  have hD : va_D A ([(h0, .inr (2, [.null, .null, .null, .ref q1, .null, .int 0, .null, .int 0, .int 0])), (q1, .inl (cI, 6, .inl (fun _ => 0))), (q2, .inl (cZ, 6, .inl (fun _ => 0)))]) := hD
  refine va_putF (D := D) (ci := 2) (v := .ref q2) (ty := .array .boolean) (C := RX2) (T := TX2) (N := 9) hx hb hts inTX2 tyX2 tyX2_ok nmX2 hown hK hP hD hS 0 rfl rfl 4 (by decide) (hts _ q262) (fun _ h9 => h9) rfl hin rfl (by decide +kernel) rfl rfl (Nat.le_of_ble_eq_true rfl) dX2_init_17 (fun H locs hP hD hS => ?_)
  have hP : va_P D vwCl ([(h0, .inr (2, [.null, .null, .null, .ref q1, .ref q2, .int 0, .null, .int 0, .int 0])), (q1, .inl (cI, 6, .inl (fun _ => 0))), (q2, .inl (cZ, 6, .inl (fun _ => 0)))]) H := hP
  have hD : va_D A ([(h0, .inr (2, [.null, .null, .null, .ref q1, .ref q2, .int 0, .null, .int 0, .int 0])), (q1, .inl (cI, 6, .inl (fun _ => 0))), (q2, .inl (cZ, 6, .inl (fun _ => 0)))]) := hD
  refine lv_aload_n hx hb dX2_init_20 rfl (lv_at hl 0 rfl) ?_
  refine lv_iconst (v := 0) hx hb dX2_init_21 (by decide) ?_
  refine va_put (D := D) (ci := 2) (v := .int 0) (ty := .int) (C := RX2) (T := TX2) (N := 9) hx hb hts inTX2 tyX2 tyX2_ok nmX2 hown hK hP hD hS 0 rfl rfl 5 (by decide) (hts _ q263) (fun _ h9 => h9) rfl (by decide +kernel) rfl rfl (Nat.le_of_ble_eq_true rfl) dX2_init_22 (fun H locs hP hD hS => ?_)
  have hP : va_P D vwCl ([(h0, .inr (2, [.null, .null, .null, .ref q1, .ref q2, .int 0, .null, .int 0, .int 0])), (q1, .inl (cI, 6, .inl (fun _ => 0))), (q2, .inl (cZ, 6, .inl (fun _ => 0)))]) H := hP
  have hD : va_D A ([(h0, .inr (2, [.null, .null, .null, .ref q1, .ref q2, .int 0, .null, .int 0, .int 0])), (q1, .inl (cI, 6, .inl (fun _ => 0))), (q2, .inl (cZ, 6, .inl (fun _ => 0)))]) := hD
  refine lv_aload_n hx hb dX2_init_25 rfl (lv_at hl 0 rfl) ?_
  refine lv_bipush (v := 9) hx hb dX2_init_26 (by decide) ?_
  refine x_newa (atype := .int) (ty := .int) (N' := 9) hx hb (hts _ q120) rfl hK 0 rfl hP hD hS hA (a0 := (9, .inl (fun _ => 0))) (fun cA => rfl) (by decide) (by decide) (Nat.le_of_ble_eq_true rfl) (Nat.le_of_ble_eq_true rfl) (Nat.le_of_ble_eq_true rfl) rfl dX2_init_28 (fun q3 H hP hD hS => ?_)
  have hP : va_P D vwCl ([(h0, .inr (2, [.null, .null, .null, .ref q1, .ref q2, .int 0, .null, .int 0, .int 0])), (q1, .inl (cI, 6, .inl (fun _ => 0))), (q2, .inl (cZ, 6, .inl (fun _ => 0))), (q3, .inl (cI, 9, .inl (fun _ => 0)))]) H := hP
  have hD : va_D A ([(h0, .inr (2, [.null, .null, .null, .ref q1, .ref q2, .int 0, .null, .int 0, .int 0])), (q1, .inl (cI, 6, .inl (fun _ => 0))), (q2, .inl (cZ, 6, .inl (fun _ => 0))), (q3, .inl (cI, 9, .inl (fun _ => 0)))]) := hD
  refine va_putF (D := D) (ci := 2) (v := .ref q3) (ty := .array .int) (C := RX2) (T := TX2) (N := 9) hx hb hts inTX2 tyX2 tyX2_ok nmX2 hown hK hP hD hS 0 rfl rfl 6 (by decide) (hts _ q265) (fun _ h9 => h9) rfl hin rfl (by decide +kernel) rfl rfl (Nat.le_of_ble_eq_true rfl) dX2_init_30 (fun H locs hP hD hS => ?_)
  have hP : va_P D vwCl ([(h0, .inr (2, [.null, .null, .null, .ref q1, .ref q2, .int 0, .ref q3, .int 0, .int 0])), (q1, .inl (cI, 6, .inl (fun _ => 0))), (q2, .inl (cZ, 6, .inl (fun _ => 0))), (q3, .inl (cI, 9, .inl (fun _ => 0)))]) H := hP
  have hD : va_D A ([(h0, .inr (2, [.null, .null, .null, .ref q1, .ref q2, .int 0, .ref q3, .int 0, .int 0])), (q1, .inl (cI, 6, .inl (fun _ => 0))), (q2, .inl (cZ, 6, .inl (fun _ => 0))), (q3, .inl (cI, 9, .inl (fun _ => 0)))]) := hD
  refine lv_aload_n hx hb dX2_init_33 rfl (lv_at hl 0 rfl) ?_
  refine lv_bipush (v := -9) hx hb dX2_init_34 (by decide) ?_
  refine va_put (D := D) (ci := 2) (v := .int (-9)) (ty := .int) (C := RX2) (T := TX2) (N := 9) hx hb hts inTX2 tyX2 tyX2_ok nmX2 hown hK hP hD hS 0 rfl rfl 7 (by decide) (hts _ q266) (fun _ h9 => h9) rfl (by decide +kernel) rfl rfl (Nat.le_of_ble_eq_true rfl) dX2_init_36 (fun H locs hP hD hS => ?_)
  have hP : va_P D vwCl ([(h0, .inr (2, [.null, .null, .null, .ref q1, .ref q2, .int 0, .ref q3, .int (-9), .int 0])), (q1, .inl (cI, 6, .inl (fun _ => 0))), (q2, .inl (cZ, 6, .inl (fun _ => 0))), (q3, .inl (cI, 9, .inl (fun _ => 0)))]) H := hP
  have hD : va_D A ([(h0, .inr (2, [.null, .null, .null, .ref q1, .ref q2, .int 0, .ref q3, .int (-9), .int 0])), (q1, .inl (cI, 6, .inl (fun _ => 0))), (q2, .inl (cZ, 6, .inl (fun _ => 0))), (q3, .inl (cI, 9, .inl (fun _ => 0)))]) := hD
  refine lv_aload_n hx hb dX2_init_39 rfl (lv_at hl 0 rfl) ?_
  refine lv_bipush (v := -9) hx hb dX2_init_40 (by decide) ?_
  refine va_put (D := D) (ci := 2) (v := .int (-9)) (ty := .int) (C := RX2) (T := TX2) (N := 9) hx hb hts inTX2 tyX2 tyX2_ok nmX2 hown hK hP hD hS 0 rfl rfl 8 (by decide) (hts _ q267) (fun _ h9 => h9) rfl (by decide +kernel) rfl rfl (Nat.le_of_ble_eq_true rfl) dX2_init_42 (fun H locs hP hD hS => ?_)
  have hP : va_P D vwCl ([(h0, .inr (2, [.null, .null, .null, .ref q1, .ref q2, .int 0, .ref q3, .int (-9), .int (-9)])), (q1, .inl (cI, 6, .inl (fun _ => 0))), (q2, .inl (cZ, 6, .inl (fun _ => 0))), (q3, .inl (cI, 9, .inl (fun _ => 0)))]) H := hP
  have hD : va_D A ([(h0, .inr (2, [.null, .null, .null, .ref q1, .ref q2, .int 0, .ref q3, .int (-9), .int (-9)])), (q1, .inl (cI, 6, .inl (fun _ => 0))), (q2, .inl (cZ, 6, .inl (fun _ => 0))), (q3, .inl (cI, 9, .inl (fun _ => 0)))]) := hD
  refine lv_aload_n hx hb dX2_init_45 rfl (lv_at hl 0 rfl) ?_
  refine lv_aload_n hx hb dX2_init_46 rfl (lv_at hl 1 rfl) ?_
  refine va_putF (D := D) (ci := 2) (v := .ref r1) (ty := .object "HalfPlanks$Folk") (C := RX2) (T := TX2) (N := 9) hx hb hts inTX2 tyX2 tyX2_ok nmX2 hown hK hP hD hS 0 rfl rfl 0 (by decide) (hts _ q258) (fun _ h9 => h9) rfl hin rfl (by decide +kernel) rfl rfl (Nat.le_of_ble_eq_true rfl) dX2_init_47 (fun H locs hP hD hS => ?_)
  have hP : va_P D vwCl ([(h0, .inr (2, [.ref r1, .null, .null, .ref q1, .ref q2, .int 0, .ref q3, .int (-9), .int (-9)])), (q1, .inl (cI, 6, .inl (fun _ => 0))), (q2, .inl (cZ, 6, .inl (fun _ => 0))), (q3, .inl (cI, 9, .inl (fun _ => 0)))]) H := hP
  have hD : va_D A ([(h0, .inr (2, [.ref r1, .null, .null, .ref q1, .ref q2, .int 0, .ref q3, .int (-9), .int (-9)])), (q1, .inl (cI, 6, .inl (fun _ => 0))), (q2, .inl (cZ, 6, .inl (fun _ => 0))), (q3, .inl (cI, 9, .inl (fun _ => 0)))]) := hD
  refine lv_aload_n hx hb dX2_init_50 rfl (lv_at hl 0 rfl) ?_
  refine lv_aload_n hx hb dX2_init_51 rfl (lv_at hl 2 rfl) ?_
  refine va_putF (D := D) (ci := 2) (v := .ref r2) (ty := .object "HalfPlanks$Strength") (C := RX2) (T := TX2) (N := 9) hx hb hts inTX2 tyX2 tyX2_ok nmX2 hown hK hP hD hS 0 rfl rfl 1 (by decide) (hts _ q259) (fun _ h9 => h9) rfl hin rfl (by decide +kernel) rfl rfl (Nat.le_of_ble_eq_true rfl) dX2_init_52 (fun H locs hP hD hS => ?_)
  have hP : va_P D vwCl ([(h0, .inr (2, [.ref r1, .ref r2, .null, .ref q1, .ref q2, .int 0, .ref q3, .int (-9), .int (-9)])), (q1, .inl (cI, 6, .inl (fun _ => 0))), (q2, .inl (cZ, 6, .inl (fun _ => 0))), (q3, .inl (cI, 9, .inl (fun _ => 0)))]) H := hP
  have hD : va_D A ([(h0, .inr (2, [.ref r1, .ref r2, .null, .ref q1, .ref q2, .int 0, .ref q3, .int (-9), .int (-9)])), (q1, .inl (cI, 6, .inl (fun _ => 0))), (q2, .inl (cZ, 6, .inl (fun _ => 0))), (q3, .inl (cI, 9, .inl (fun _ => 0)))]) := hD
  refine lv_aload_n hx hb dX2_init_55 rfl (lv_at hl 0 rfl) ?_
  refine lv_aload_n hx hb dX2_init_56 rfl (lv_at hl 3 rfl) ?_
  refine va_putF (D := D) (ci := 2) (v := .ref r3) (ty := .object "HalfPlanks$Promises") (C := RX2) (T := TX2) (N := 9) hx hb hts inTX2 tyX2 tyX2_ok nmX2 hown hK hP hD hS 0 rfl rfl 2 (by decide) (hts _ q260) (fun _ h9 => h9) rfl hin rfl (by decide +kernel) rfl rfl (Nat.le_of_ble_eq_true rfl) dX2_init_57 (fun H locs hP hD hS => ?_)
  have hP : va_P D vwCl ([(h0, .inr (2, [.ref r1, .ref r2, .ref r3, .ref q1, .ref q2, .int 0, .ref q3, .int (-9), .int (-9)])), (q1, .inl (cI, 6, .inl (fun _ => 0))), (q2, .inl (cZ, 6, .inl (fun _ => 0))), (q3, .inl (cI, 9, .inl (fun _ => 0)))]) H := hP
  have hD : va_D A ([(h0, .inr (2, [.ref r1, .ref r2, .ref r3, .ref q1, .ref q2, .int 0, .ref q3, .int (-9), .int (-9)])), (q1, .inl (cI, 6, .inl (fun _ => 0))), (q2, .inl (cZ, 6, .inl (fun _ => 0))), (q3, .inl (cI, 9, .inl (fun _ => 0)))]) := hD
  have hP : va_P D vwCl [(h0, .inr (2, [.ref r1, .ref r2, .ref r3, .ref q1, .ref q2, .int 0, .ref q3, .int (-9), .int (-9)])), (q1, .inl (cI, 6, .inl (fun _ => 0))), (q2, .inl (cZ, 6, .inl (fun _ => 0))), (q3, .inl (cI, 9, .inl (fun _ => 0)))] H := hP
  have hD : va_D A [(h0, .inr (2, [.ref r1, .ref r2, .ref r3, .ref q1, .ref q2, .int 0, .ref q3, .int (-9), .int (-9)])), (q1, .inl (cI, 6, .inl (fun _ => 0))), (q2, .inl (cZ, 6, .inl (fun _ => 0))), (q3, .inl (cI, 9, .inl (fun _ => 0)))] := hD
  obtain ⟨u, hu⟩ : ∃ u : Nat → Nat → Nat, u 0 0 = q1 ∧ u 0 1 = q2 ∧ u 0 2 = q3 := ⟨(fun i => ([(fun k => ([q1, q2, q3] : List Nat).getD k 0)] : List (Nat → Nat)).getD i (fun _ => 0)), rfl, rfl, rfl⟩
  obtain ⟨e0, e1, e2⟩ := hu
  exact W.vret hx hb hr (fun t ht hW => ⟨⟨u, rfl, trivial, by rw [ht]; simp only [e0, e1, e2]; exact hP, by simp only [e0, e1, e2]; exact hD⟩, hS.F ht⟩) hS.2.2 dX2_init_60

set_option maxHeartbeats 8000000 in
set_option maxRecDepth 100000 in
theorem tX3_init {l : Launch} {D : va_G} {cI cZ cQ : ClassId} {h0  sz : Nat} : Met l yX3_init (.code yX3_init cX3_init 2 none :: TB) ({ frames := 2, cells := 41, slots := 860, locals := 32 } : Room) (kcP D (TY cI cZ cQ) sz [(h0, .inr (3, [.null, .int 0, .int 0]))] [.ref h0]) (va_Qv (fun _ : Nat → Nat → Nat => True) (fun u t => va_P D vwCl [(h0, .inr (3, [.ref (u 0 0), .int 0, .int 0])), ((u 0 0), .inl (cQ, 10, .inr (.inr (.inr (.inr (fun j => some (u 1 j))))))), ((u 1 9), .inr (5, [.int 0, .int 0, .ref (u 2 9), .ref (u 3 9), .ref (u 4 9)])), ((u 2 9), .inl (cI, 8, .inl (fun _ => 0))), ((u 3 9), .inl (cI, 8, .inl (fun _ => 0))), ((u 4 9), .inl (cI, 64, .inl (fun _ => 0))), ((u 1 8), .inr (5, [.int 0, .int 0, .ref (u 2 8), .ref (u 3 8), .ref (u 4 8)])), ((u 2 8), .inl (cI, 8, .inl (fun _ => 0))), ((u 3 8), .inl (cI, 8, .inl (fun _ => 0))), ((u 4 8), .inl (cI, 64, .inl (fun _ => 0))), ((u 1 7), .inr (5, [.int 0, .int 0, .ref (u 2 7), .ref (u 3 7), .ref (u 4 7)])), ((u 2 7), .inl (cI, 8, .inl (fun _ => 0))), ((u 3 7), .inl (cI, 8, .inl (fun _ => 0))), ((u 4 7), .inl (cI, 64, .inl (fun _ => 0))), ((u 1 6), .inr (5, [.int 0, .int 0, .ref (u 2 6), .ref (u 3 6), .ref (u 4 6)])), ((u 2 6), .inl (cI, 8, .inl (fun _ => 0))), ((u 3 6), .inl (cI, 8, .inl (fun _ => 0))), ((u 4 6), .inl (cI, 64, .inl (fun _ => 0))), ((u 1 5), .inr (5, [.int 0, .int 0, .ref (u 2 5), .ref (u 3 5), .ref (u 4 5)])), ((u 2 5), .inl (cI, 8, .inl (fun _ => 0))), ((u 3 5), .inl (cI, 8, .inl (fun _ => 0))), ((u 4 5), .inl (cI, 64, .inl (fun _ => 0))), ((u 1 4), .inr (5, [.int 0, .int 0, .ref (u 2 4), .ref (u 3 4), .ref (u 4 4)])), ((u 2 4), .inl (cI, 8, .inl (fun _ => 0))), ((u 3 4), .inl (cI, 8, .inl (fun _ => 0))), ((u 4 4), .inl (cI, 64, .inl (fun _ => 0))), ((u 1 3), .inr (5, [.int 0, .int 0, .ref (u 2 3), .ref (u 3 3), .ref (u 4 3)])), ((u 2 3), .inl (cI, 8, .inl (fun _ => 0))), ((u 3 3), .inl (cI, 8, .inl (fun _ => 0))), ((u 4 3), .inl (cI, 64, .inl (fun _ => 0))), ((u 1 2), .inr (5, [.int 0, .int 0, .ref (u 2 2), .ref (u 3 2), .ref (u 4 2)])), ((u 2 2), .inl (cI, 8, .inl (fun _ => 0))), ((u 3 2), .inl (cI, 8, .inl (fun _ => 0))), ((u 4 2), .inl (cI, 64, .inl (fun _ => 0))), ((u 1 1), .inr (5, [.int 0, .int 0, .ref (u 2 1), .ref (u 3 1), .ref (u 4 1)])), ((u 2 1), .inl (cI, 8, .inl (fun _ => 0))), ((u 3 1), .inl (cI, 8, .inl (fun _ => 0))), ((u 4 1), .inl (cI, 64, .inl (fun _ => 0))), ((u 1 0), .inr (5, [.int 0, .int 0, .ref (u 2 0), .ref (u 3 0), .ref (u 4 0)])), ((u 2 0), .inl (cI, 8, .inl (fun _ => 0))), ((u 3 0), .inl (cI, 8, .inl (fun _ => 0))), ((u 4 0), .inl (cI, 64, .inl (fun _ => 0)))] t.heap ∧ va_D (va_A [(h0, .inr (3, [.null, .int 0, .int 0]))] sz) [(h0, .inr (3, [.ref (u 0 0), .int 0, .int 0])), ((u 0 0), .inl (cQ, 10, .inr (.inr (.inr (.inr (fun j => some (u 1 j))))))), ((u 1 9), .inr (5, [.int 0, .int 0, .ref (u 2 9), .ref (u 3 9), .ref (u 4 9)])), ((u 2 9), .inl (cI, 8, .inl (fun _ => 0))), ((u 3 9), .inl (cI, 8, .inl (fun _ => 0))), ((u 4 9), .inl (cI, 64, .inl (fun _ => 0))), ((u 1 8), .inr (5, [.int 0, .int 0, .ref (u 2 8), .ref (u 3 8), .ref (u 4 8)])), ((u 2 8), .inl (cI, 8, .inl (fun _ => 0))), ((u 3 8), .inl (cI, 8, .inl (fun _ => 0))), ((u 4 8), .inl (cI, 64, .inl (fun _ => 0))), ((u 1 7), .inr (5, [.int 0, .int 0, .ref (u 2 7), .ref (u 3 7), .ref (u 4 7)])), ((u 2 7), .inl (cI, 8, .inl (fun _ => 0))), ((u 3 7), .inl (cI, 8, .inl (fun _ => 0))), ((u 4 7), .inl (cI, 64, .inl (fun _ => 0))), ((u 1 6), .inr (5, [.int 0, .int 0, .ref (u 2 6), .ref (u 3 6), .ref (u 4 6)])), ((u 2 6), .inl (cI, 8, .inl (fun _ => 0))), ((u 3 6), .inl (cI, 8, .inl (fun _ => 0))), ((u 4 6), .inl (cI, 64, .inl (fun _ => 0))), ((u 1 5), .inr (5, [.int 0, .int 0, .ref (u 2 5), .ref (u 3 5), .ref (u 4 5)])), ((u 2 5), .inl (cI, 8, .inl (fun _ => 0))), ((u 3 5), .inl (cI, 8, .inl (fun _ => 0))), ((u 4 5), .inl (cI, 64, .inl (fun _ => 0))), ((u 1 4), .inr (5, [.int 0, .int 0, .ref (u 2 4), .ref (u 3 4), .ref (u 4 4)])), ((u 2 4), .inl (cI, 8, .inl (fun _ => 0))), ((u 3 4), .inl (cI, 8, .inl (fun _ => 0))), ((u 4 4), .inl (cI, 64, .inl (fun _ => 0))), ((u 1 3), .inr (5, [.int 0, .int 0, .ref (u 2 3), .ref (u 3 3), .ref (u 4 3)])), ((u 2 3), .inl (cI, 8, .inl (fun _ => 0))), ((u 3 3), .inl (cI, 8, .inl (fun _ => 0))), ((u 4 3), .inl (cI, 64, .inl (fun _ => 0))), ((u 1 2), .inr (5, [.int 0, .int 0, .ref (u 2 2), .ref (u 3 2), .ref (u 4 2)])), ((u 2 2), .inl (cI, 8, .inl (fun _ => 0))), ((u 3 2), .inl (cI, 8, .inl (fun _ => 0))), ((u 4 2), .inl (cI, 64, .inl (fun _ => 0))), ((u 1 1), .inr (5, [.int 0, .int 0, .ref (u 2 1), .ref (u 3 1), .ref (u 4 1)])), ((u 2 1), .inl (cI, 8, .inl (fun _ => 0))), ((u 3 1), .inl (cI, 8, .inl (fun _ => 0))), ((u 4 1), .inl (cI, 64, .inl (fun _ => 0))), ((u 1 0), .inr (5, [.int 0, .int 0, .ref (u 2 0), .ref (u 3 0), .ref (u 4 0)])), ((u 2 0), .inl (cI, 8, .inl (fun _ => 0))), ((u 3 0), .inl (cI, 8, .inl (fun _ => 0))), ((u 4 0), .inl (cI, 64, .inl (fun _ => 0)))]) (va_A [(h0, .inr (3, [.null, .int 0, .int 0]))] sz)) 41 860 (va_A [(h0, .inr (3, [.null, .int 0, .int 0]))] sz) := by
  refine Met.ofW (cc := cX3_init) (maxL := 2) (ret := none) (by decide) rfl ?_
  intro p e s m args below meth c s₁ B hml hv
  obtain ⟨rfl, hsz, hP, hKC, hD0⟩ := hv
  have hx := B.exec
  have hb := B.bytes
  have hr := B.returns
  have hts : ∀ w ∈ TB, w.before ([.ref h0] : List Value).toArray s = true := fun w h => atoms_spec (ws := .code yX3_init cX3_init 2 none :: TB) B.pre w (List.mem_cons_of_mem _ h)
  have hown : s.vm.findClass RX3 = some m.cls := findClass_of_methodNamed B.named
  have hlocks := B.notSynchronized
  have hin : meth.name = "<init>" := (name_of_methodNamed B.named B.method).1
  have hKW := hKC.1
  have hAO := hKC.2
  have hK := hKW.1
  subst hsz
  have hD := hD0.self (sz := s.heap.size)
  generalize hAe : va_A [(h0, .inr (3, [.null, .int 0, .int 0]))] s.heap.size = A at hD ⊢
  have hA : ∀ q : Nat, s.heap.size ≤ q → A q := fun q h => by rw [← hAe]; exact Or.inr h
  have hS : va_S A s.heap s.heap [] := va_S.rf
  have hl := lv_entry [.ref h0] (n := 2) (Nat.le_of_ble_eq_true rfl)
  rw [lg_entry_eq]
  generalize (lg_sl [.ref h0] ++ List.replicate (2 - (lg_sl [.ref h0]).length) Slot.unset).toArray = ls at hl ⊢
  have hl : lv_has ls 2 [(0, .ref h0)] := hl
  obtain ⟨wh, hwh⟩ : ∃ z : va_W, z = [] := ⟨_, rfl⟩
  have hP : va_P D vwCl ([(h0, .inr (3, [.null, .int 0, .int 0]))] ++ wh) s.heap := by rw [hwh]; exact hP
  have hD : va_D A ([(h0, .inr (3, [.null, .int 0, .int 0]))] ++ wh) := by rw [hwh]; exact hD
  refine lv_aload_n hx hb dX3_init_0 rfl (lv_at hl 0 rfl) ?_
  refine W.objInit hx hb hown (hts _ q199) (hts _ q63) (hts _ q64) rfl (by rw [hml]; exact hl.1) rfl dX3_init_1 (Nat.le_of_ble_eq_true rfl) (Nat.le_of_ble_eq_true rfl) ?_
  refine W.eq (g2 := F0 m 4 ls []) rfl ?_
  refine lv_aload_n hx hb dX3_init_4 rfl (lv_at hl 0 rfl) ?_
  refine lv_bipush (v := 10) hx hb dX3_init_5 (by decide) ?_
  refine x_newq (N' := 10) hx hb hown (hts _ q200) hAO hK 2 rfl hP hD hS hA (by decide) (by decide) (Nat.le_of_ble_eq_true rfl) (Nat.le_of_ble_eq_true rfl) (Nat.le_of_ble_eq_true rfl) dX3_init_7 (fun q1 H hP hD hS => ?_)
  have hP := hP.swap
  have hD := hD.swap
  have hP : va_P D vwCl ([(h0, .inr (3, [.null, .int 0, .int 0])), (q1, .inl (cQ, 10, .inr (.inr (.inr (.inr (fun _ => none))))))] ++ wh) H := hP
  have hD : va_D A ([(h0, .inr (3, [.null, .int 0, .int 0])), (q1, .inl (cQ, 10, .inr (.inr (.inr (.inr (fun _ => none))))))] ++ wh) := hD
  refine va_putF (D := D) (ci := 3) (v := .ref q1) (ty := .array (.object "HalfPlanks$Promises")) (C := RX3) (T := TX3) (N := 3) hx hb hts inTX3 tyX3 tyX3_ok nmX3 hown hK hP hD hS 0 rfl rfl 0 (by decide) (hts _ q203) (fun _ h9 => h9) rfl hin rfl (by decide +kernel) rfl rfl (Nat.le_of_ble_eq_true rfl) dX3_init_10 (fun H locs hP hD hS => ?_)
  have hP : va_P D vwCl ([(h0, .inr (3, [.ref q1, .int 0, .int 0])), (q1, .inl (cQ, 10, .inr (.inr (.inr (.inr (fun _ => none))))))] ++ wh) H := hP
  have hD : va_D A ([(h0, .inr (3, [.ref q1, .int 0, .int 0])), (q1, .inl (cQ, 10, .inr (.inr (.inr (.inr (fun _ => none))))))] ++ wh) := hD
  refine lv_aload_n hx hb dX3_init_13 rfl (lv_at hl 0 rfl) ?_
  refine lv_iconst (v := 0) hx hb dX3_init_14 (by decide) ?_
  refine va_put (D := D) (ci := 3) (v := .int 0) (ty := .int) (C := RX3) (T := TX3) (N := 3) hx hb hts inTX3 tyX3 tyX3_ok nmX3 hown hK hP hD hS 0 rfl rfl 1 (by decide) (hts _ q204) (fun _ h9 => h9) rfl (by decide +kernel) rfl rfl (Nat.le_of_ble_eq_true rfl) dX3_init_15 (fun H locs hP hD hS => ?_)
  have hP : va_P D vwCl ([(h0, .inr (3, [.ref q1, .int 0, .int 0])), (q1, .inl (cQ, 10, .inr (.inr (.inr (.inr (fun _ => none))))))] ++ wh) H := hP
  have hD : va_D A ([(h0, .inr (3, [.ref q1, .int 0, .int 0])), (q1, .inl (cQ, 10, .inr (.inr (.inr (.inr (fun _ => none))))))] ++ wh) := hD
  refine lv_aload_n hx hb dX3_init_18 rfl (lv_at hl 0 rfl) ?_
  refine lv_iconst (v := 0) hx hb dX3_init_19 (by decide) ?_
  refine va_put (D := D) (ci := 3) (v := .int 0) (ty := .int) (C := RX3) (T := TX3) (N := 3) hx hb hts inTX3 tyX3 tyX3_ok nmX3 hown hK hP hD hS 0 rfl rfl 2 (by decide) (hts _ q206) (fun _ h9 => h9) rfl (by decide +kernel) rfl rfl (Nat.le_of_ble_eq_true rfl) dX3_init_20 (fun H locs hP hD hS => ?_)
  have hP : va_P D vwCl ([(h0, .inr (3, [.ref q1, .int 0, .int 0])), (q1, .inl (cQ, 10, .inr (.inr (.inr (.inr (fun _ => none))))))] ++ wh) H := hP
  have hD : va_D A ([(h0, .inr (3, [.ref q1, .int 0, .int 0])), (q1, .inl (cQ, 10, .inr (.inr (.inr (.inr (fun _ => none))))))] ++ wh) := hD
  refine lv_iconst (v := 0) hx hb dX3_init_23 (by decide) ?_
  refine lv_istore_n (lv' := [(1, .int 0), (0, .ref h0)]) hx hb dX3_init_24 rfl hl (by decide) rfl (fun ls hl => ?_)
  refine lv_iload_n hx hb dX3_init_25 rfl (lv_at hl 0 rfl) ?_
  refine lv_bipush (v := 10) hx hb dX3_init_26 (by decide) ?_
  refine lv_icmp_ge (tgt := 50) hx hb dX3_init_28 (by decide) (fun c1 => absurd c1 (by decide)) (fun _ => ?_)
  refine lv_aload_n hx hb dX3_init_31 rfl (lv_at hl 1 rfl) ?_
  refine va_get (D := D) (ci := 3) (v := .ref q1) (C := RX3) (T := TX3) (N := 3) hx hb hts inTX3 hown hK hP 0 rfl rfl 0 (by decide) (hts _ q203) (fun _ h9 => h9) rfl dX3_init_32 ?_
  refine lv_iload_n hx hb dX3_init_35 rfl (lv_at hl 0 rfl) ?_
  refine va_new (ci := 5) (fs := [.int 0, .int 0, .null, .null, .null]) (C := RX5) (T := TX5) (N := 5) hx hb hts inTX5 tyX5 tyX5_ok hown (hts _ q200) (hts _ q163) (hts _ q43) hK hP hD hS hA rfl (fun j hj => by rcases (show j = 0 ∨ j = 1 ∨ j = 2 ∨ j = 3 ∨ j = 4 by omega) with rfl | rfl | rfl | rfl | rfl <;> rfl) (Nat.le_of_ble_eq_true rfl) (Nat.le_of_ble_eq_true rfl) dX3_init_36 (fun q2 H hP hD hS => ?_)
  have hP := hP.swap
  have hD := hD.swap
  have hP : va_P D vwCl ([(h0, .inr (3, [.ref q1, .int 0, .int 0])), (q1, .inl (cQ, 10, .inr (.inr (.inr (.inr (fun _ => none)))))), (q2, .inr (5, [.int 0, .int 0, .null, .null, .null]))] ++ wh) H := hP
  have hD : va_D A ([(h0, .inr (3, [.ref q1, .int 0, .int 0])), (q1, .inl (cQ, 10, .inr (.inr (.inr (.inr (fun _ => none)))))), (q2, .inr (5, [.int 0, .int 0, .null, .null, .null]))] ++ wh) := hD
  refine lv_dup hx hb dX3_init_39 rfl ?_
  have hPc := hP.sub (ws' := [(q2, .inr (5, [.int 0, .int 0, .null, .null, .null]))]) [2] rfl
  have hDc := hD.sub (ws' := [(q2, .inr (5, [.int 0, .int 0, .null, .null, .null]))]) [2] (by decide) rfl
  have hFc := va_free (wc := [(q2, .inr (5, [.int 0, .int 0, .null, .null, .null]))]) hD hS hA [2] rfl
  refine va_callv (va_runIN (As := []) (rest := [.ref q2, .int 0, .ref q1]) ⟨hx, hb, hml, hown, hts⟩ (tX5_init (h0 := q2) (sz := H.size)) ⟨va_cnB 0 hts (tb_one q166) rfl rfl rfl (hKW.2 ("HalfPlanks$History", 24, yX5_init, "HalfPlanks") (by decide +kernel)) (hts _ q43) (by decide +kernel) ⟨Nat.le_of_ble_eq_true rfl, Nat.le_of_ble_eq_true rfl⟩, rfl, hts _ q165⟩ ⟨kcB, fun U hU hW => ⟨rfl, by rw [hU], by rw [hU]; exact hPc, hKC.warm hW, hDc.weaken (fun _ _ _ _ => trivial)⟩⟩ rfl rfl hl.1 rfl (lv_room (Nat.le_of_ble_eq_true rfl)) dX3_init_40 ⟨Nat.le_of_ble_eq_true rfl, Nat.le_of_ble_eq_true rfl⟩) hS (fun q _ h => hFc q h) hFc (fun u3 t H1 locs ht hvm _ hB hz1 hk1 hS => ?_)
  obtain ⟨hP1, hD1⟩ := hB
  rw [ht] at hP1
  obtain ⟨hP, hD⟩ := va_joinQ (wr := [(h0, .inr (3, [.ref q1, .int 0, .int 0])), (q1, .inl (cQ, 10, .inr (.inr (.inr (.inr (fun _ => none))))))]) (w1 := [(q2, .inr (5, [.int 0, .int 0, .ref (u3 0 0), .ref (u3 0 1), .ref (u3 0 2)])), ((u3 0 0), .inl (cI, 8, .inl (fun _ => 0))), ((u3 0 1), .inl (cI, 8, .inl (fun _ => 0))), ((u3 0 2), .inl (cI, 64, .inl (fun _ => 0)))]) hP hD [2] [0, 1] rfl rfl (by decide) (by decide) hk1 hFc hP1 hD1
  generalize H1 = H at hP hS ⊢
  have hP : va_P D vwCl ([(h0, .inr (3, [.ref q1, .int 0, .int 0])), (q1, .inl (cQ, 10, .inr (.inr (.inr (.inr (fun _ => none)))))), (q2, .inr (5, [.int 0, .int 0, .ref (u3 0 0), .ref (u3 0 1), .ref (u3 0 2)])), ((u3 0 0), .inl (cI, 8, .inl (fun _ => 0))), ((u3 0 1), .inl (cI, 8, .inl (fun _ => 0))), ((u3 0 2), .inl (cI, 64, .inl (fun _ => 0)))] ++ wh) H := hP
  have hD : va_D A ([(h0, .inr (3, [.ref q1, .int 0, .int 0])), (q1, .inl (cQ, 10, .inr (.inr (.inr (.inr (fun _ => none)))))), (q2, .inr (5, [.int 0, .int 0, .ref (u3 0 0), .ref (u3 0 1), .ref (u3 0 2)])), ((u3 0 0), .inl (cI, 8, .inl (fun _ => 0))), ((u3 0 1), .inl (cI, 8, .inl (fun _ => 0))), ((u3 0 2), .inl (cI, 64, .inl (fun _ => 0)))] ++ wh) := hD
  refine va_astq hx hb hK hP hD hS 1 2 2 5 rfl rfl rfl rfl (i := 0) (vp_in_nI (n := 0) (by decide) (by decide)) dX3_init_43 (fun H locs hP hD hS => ?_)
  have hP : va_P D vwCl ([(h0, .inr (3, [.ref q1, .int 0, .int 0])), (q1, .inl (cQ, 10, .inr (.inr (.inr (.inr (va_up (fun _ => none) 0 (some q2))))))), (q2, .inr (5, [.int 0, .int 0, .ref (u3 0 0), .ref (u3 0 1), .ref (u3 0 2)])), ((u3 0 0), .inl (cI, 8, .inl (fun _ => 0))), ((u3 0 1), .inl (cI, 8, .inl (fun _ => 0))), ((u3 0 2), .inl (cI, 64, .inl (fun _ => 0)))] ++ wh) H := hP
  have hD : va_D A ([(h0, .inr (3, [.ref q1, .int 0, .int 0])), (q1, .inl (cQ, 10, .inr (.inr (.inr (.inr (va_up (fun _ => none) 0 (some q2))))))), (q2, .inr (5, [.int 0, .int 0, .ref (u3 0 0), .ref (u3 0 1), .ref (u3 0 2)])), ((u3 0 0), .inl (cI, 8, .inl (fun _ => 0))), ((u3 0 1), .inl (cI, 8, .inl (fun _ => 0))), ((u3 0 2), .inl (cI, 64, .inl (fun _ => 0)))] ++ wh) := hD
  obtain ⟨wh1, hwh1⟩ : ∃ z : va_W, z = [(q2, .inr (5, [.int 0, .int 0, .ref (u3 0 0), .ref (u3 0 1), .ref (u3 0 2)])), ((u3 0 0), .inl (cI, 8, .inl (fun _ => 0))), ((u3 0 1), .inl (cI, 8, .inl (fun _ => 0))), ((u3 0 2), .inl (cI, 64, .inl (fun _ => 0)))] ++ wh := ⟨_, rfl⟩
  have hP : va_P D vwCl ([(h0, .inr (3, [.ref q1, .int 0, .int 0])), (q1, .inl (cQ, 10, .inr (.inr (.inr (.inr (va_up (fun _ => none) 0 (some q2)))))))] ++ wh1) H := by rw [hwh1]; exact hP
  have hD : va_D A ([(h0, .inr (3, [.ref q1, .int 0, .int 0])), (q1, .inl (cQ, 10, .inr (.inr (.inr (.inr (va_up (fun _ => none) 0 (some q2)))))))] ++ wh1) := by rw [hwh1]; exact hD
  refine lv_iinc (v := 1) (lv' := [(1, .int 1), (0, .ref h0)]) hx hb dX3_init_44 hl (k := 0) rfl (by decide) (by decide) rfl (fun ls hl => ?_)
  refine lv_goto (tgt := 25) hx hb dX3_init_47 (by decide) ?_
  refine lv_iload_n hx hb dX3_init_25 rfl (lv_at hl 0 rfl) ?_
  refine lv_bipush (v := 10) hx hb dX3_init_26 (by decide) ?_
  refine lv_icmp_ge (tgt := 50) hx hb dX3_init_28 (by decide) (fun c1 => absurd c1 (by decide)) (fun _ => ?_)
  refine lv_aload_n hx hb dX3_init_31 rfl (lv_at hl 1 rfl) ?_
  refine va_get (D := D) (ci := 3) (v := .ref q1) (C := RX3) (T := TX3) (N := 3) hx hb hts inTX3 hown hK hP 0 rfl rfl 0 (by decide) (hts _ q203) (fun _ h9 => h9) rfl dX3_init_32 ?_
  refine lv_iload_n hx hb dX3_init_35 rfl (lv_at hl 0 rfl) ?_
  refine va_new (ci := 5) (fs := [.int 0, .int 0, .null, .null, .null]) (C := RX5) (T := TX5) (N := 5) hx hb hts inTX5 tyX5 tyX5_ok hown (hts _ q200) (hts _ q163) (hts _ q43) hK hP hD hS hA rfl (fun j hj => by rcases (show j = 0 ∨ j = 1 ∨ j = 2 ∨ j = 3 ∨ j = 4 by omega) with rfl | rfl | rfl | rfl | rfl <;> rfl) (Nat.le_of_ble_eq_true rfl) (Nat.le_of_ble_eq_true rfl) dX3_init_36 (fun q4 H hP hD hS => ?_)
  have hP := hP.swap
  have hD := hD.swap
  have hP : va_P D vwCl ([(h0, .inr (3, [.ref q1, .int 0, .int 0])), (q1, .inl (cQ, 10, .inr (.inr (.inr (.inr (va_up (fun _ => none) 0 (some q2))))))), (q4, .inr (5, [.int 0, .int 0, .null, .null, .null]))] ++ wh1) H := hP
  have hD : va_D A ([(h0, .inr (3, [.ref q1, .int 0, .int 0])), (q1, .inl (cQ, 10, .inr (.inr (.inr (.inr (va_up (fun _ => none) 0 (some q2))))))), (q4, .inr (5, [.int 0, .int 0, .null, .null, .null]))] ++ wh1) := hD
  refine lv_dup hx hb dX3_init_39 rfl ?_
  have hPc := hP.sub (ws' := [(q4, .inr (5, [.int 0, .int 0, .null, .null, .null]))]) [2] rfl
  have hDc := hD.sub (ws' := [(q4, .inr (5, [.int 0, .int 0, .null, .null, .null]))]) [2] (by decide) rfl
  have hFc := va_free (wc := [(q4, .inr (5, [.int 0, .int 0, .null, .null, .null]))]) hD hS hA [2] rfl
  refine va_callv (va_runIN (As := []) (rest := [.ref q4, .int 1, .ref q1]) ⟨hx, hb, hml, hown, hts⟩ (tX5_init (h0 := q4) (sz := H.size)) ⟨va_cnB 0 hts (tb_one q166) rfl rfl rfl (hKW.2 ("HalfPlanks$History", 24, yX5_init, "HalfPlanks") (by decide +kernel)) (hts _ q43) (by decide +kernel) ⟨Nat.le_of_ble_eq_true rfl, Nat.le_of_ble_eq_true rfl⟩, rfl, hts _ q165⟩ ⟨kcB, fun U hU hW => ⟨rfl, by rw [hU], by rw [hU]; exact hPc, hKC.warm hW, hDc.weaken (fun _ _ _ _ => trivial)⟩⟩ rfl rfl hl.1 rfl (lv_room (Nat.le_of_ble_eq_true rfl)) dX3_init_40 ⟨Nat.le_of_ble_eq_true rfl, Nat.le_of_ble_eq_true rfl⟩) hS (fun q _ h => hFc q h) hFc (fun u5 t H1 locs ht hvm _ hB hz1 hk1 hS => ?_)
  obtain ⟨hP1, hD1⟩ := hB
  rw [ht] at hP1
  obtain ⟨hP, hD⟩ := va_joinQ (wr := [(h0, .inr (3, [.ref q1, .int 0, .int 0])), (q1, .inl (cQ, 10, .inr (.inr (.inr (.inr (va_up (fun _ => none) 0 (some q2)))))))]) (w1 := [(q4, .inr (5, [.int 0, .int 0, .ref (u5 0 0), .ref (u5 0 1), .ref (u5 0 2)])), ((u5 0 0), .inl (cI, 8, .inl (fun _ => 0))), ((u5 0 1), .inl (cI, 8, .inl (fun _ => 0))), ((u5 0 2), .inl (cI, 64, .inl (fun _ => 0)))]) hP hD [2] [0, 1] rfl rfl (by decide) (by decide) hk1 hFc hP1 hD1
  generalize H1 = H at hP hS ⊢
  have hP : va_P D vwCl ([(h0, .inr (3, [.ref q1, .int 0, .int 0])), (q1, .inl (cQ, 10, .inr (.inr (.inr (.inr (va_up (fun _ => none) 0 (some q2))))))), (q4, .inr (5, [.int 0, .int 0, .ref (u5 0 0), .ref (u5 0 1), .ref (u5 0 2)])), ((u5 0 0), .inl (cI, 8, .inl (fun _ => 0))), ((u5 0 1), .inl (cI, 8, .inl (fun _ => 0))), ((u5 0 2), .inl (cI, 64, .inl (fun _ => 0)))] ++ wh1) H := hP
  have hD : va_D A ([(h0, .inr (3, [.ref q1, .int 0, .int 0])), (q1, .inl (cQ, 10, .inr (.inr (.inr (.inr (va_up (fun _ => none) 0 (some q2))))))), (q4, .inr (5, [.int 0, .int 0, .ref (u5 0 0), .ref (u5 0 1), .ref (u5 0 2)])), ((u5 0 0), .inl (cI, 8, .inl (fun _ => 0))), ((u5 0 1), .inl (cI, 8, .inl (fun _ => 0))), ((u5 0 2), .inl (cI, 64, .inl (fun _ => 0)))] ++ wh1) := hD
  refine va_astq hx hb hK hP hD hS 1 2 2 5 rfl rfl rfl rfl (i := 1) (vp_in_nI (n := 1) (by decide) (by decide)) dX3_init_43 (fun H locs hP hD hS => ?_)
  have hP : va_P D vwCl ([(h0, .inr (3, [.ref q1, .int 0, .int 0])), (q1, .inl (cQ, 10, .inr (.inr (.inr (.inr (va_up (va_up (fun _ => none) 0 (some q2)) 1 (some q4))))))), (q4, .inr (5, [.int 0, .int 0, .ref (u5 0 0), .ref (u5 0 1), .ref (u5 0 2)])), ((u5 0 0), .inl (cI, 8, .inl (fun _ => 0))), ((u5 0 1), .inl (cI, 8, .inl (fun _ => 0))), ((u5 0 2), .inl (cI, 64, .inl (fun _ => 0)))] ++ wh1) H := hP
  have hD : va_D A ([(h0, .inr (3, [.ref q1, .int 0, .int 0])), (q1, .inl (cQ, 10, .inr (.inr (.inr (.inr (va_up (va_up (fun _ => none) 0 (some q2)) 1 (some q4))))))), (q4, .inr (5, [.int 0, .int 0, .ref (u5 0 0), .ref (u5 0 1), .ref (u5 0 2)])), ((u5 0 0), .inl (cI, 8, .inl (fun _ => 0))), ((u5 0 1), .inl (cI, 8, .inl (fun _ => 0))), ((u5 0 2), .inl (cI, 64, .inl (fun _ => 0)))] ++ wh1) := hD
  obtain ⟨wh2, hwh2⟩ : ∃ z : va_W, z = [(q4, .inr (5, [.int 0, .int 0, .ref (u5 0 0), .ref (u5 0 1), .ref (u5 0 2)])), ((u5 0 0), .inl (cI, 8, .inl (fun _ => 0))), ((u5 0 1), .inl (cI, 8, .inl (fun _ => 0))), ((u5 0 2), .inl (cI, 64, .inl (fun _ => 0)))] ++ wh1 := ⟨_, rfl⟩
  have hP : va_P D vwCl ([(h0, .inr (3, [.ref q1, .int 0, .int 0])), (q1, .inl (cQ, 10, .inr (.inr (.inr (.inr (va_up (va_up (fun _ => none) 0 (some q2)) 1 (some q4)))))))] ++ wh2) H := by rw [hwh2]; exact hP
  have hD : va_D A ([(h0, .inr (3, [.ref q1, .int 0, .int 0])), (q1, .inl (cQ, 10, .inr (.inr (.inr (.inr (va_up (va_up (fun _ => none) 0 (some q2)) 1 (some q4)))))))] ++ wh2) := by rw [hwh2]; exact hD
  refine lv_iinc (v := 2) (lv' := [(1, .int 2), (0, .ref h0)]) hx hb dX3_init_44 hl (k := 0) rfl (by decide) (by decide) rfl (fun ls hl => ?_)
  refine lv_goto (tgt := 25) hx hb dX3_init_47 (by decide) ?_
  refine lv_iload_n hx hb dX3_init_25 rfl (lv_at hl 0 rfl) ?_
  refine lv_bipush (v := 10) hx hb dX3_init_26 (by decide) ?_
  refine lv_icmp_ge (tgt := 50) hx hb dX3_init_28 (by decide) (fun c1 => absurd c1 (by decide)) (fun _ => ?_)
  refine lv_aload_n hx hb dX3_init_31 rfl (lv_at hl 1 rfl) ?_
  refine va_get (D := D) (ci := 3) (v := .ref q1) (C := RX3) (T := TX3) (N := 3) hx hb hts inTX3 hown hK hP 0 rfl rfl 0 (by decide) (hts _ q203) (fun _ h9 => h9) rfl dX3_init_32 ?_
  refine lv_iload_n hx hb dX3_init_35 rfl (lv_at hl 0 rfl) ?_
  refine va_new (ci := 5) (fs := [.int 0, .int 0, .null, .null, .null]) (C := RX5) (T := TX5) (N := 5) hx hb hts inTX5 tyX5 tyX5_ok hown (hts _ q200) (hts _ q163) (hts _ q43) hK hP hD hS hA rfl (fun j hj => by rcases (show j = 0 ∨ j = 1 ∨ j = 2 ∨ j = 3 ∨ j = 4 by omega) with rfl | rfl | rfl | rfl | rfl <;> rfl) (Nat.le_of_ble_eq_true rfl) (Nat.le_of_ble_eq_true rfl) dX3_init_36 (fun q6 H hP hD hS => ?_)
  have hP := hP.swap
  have hD := hD.swap
  have hP : va_P D vwCl ([(h0, .inr (3, [.ref q1, .int 0, .int 0])), (q1, .inl (cQ, 10, .inr (.inr (.inr (.inr (va_up (va_up (fun _ => none) 0 (some q2)) 1 (some q4))))))), (q6, .inr (5, [.int 0, .int 0, .null, .null, .null]))] ++ wh2) H := hP
  have hD : va_D A ([(h0, .inr (3, [.ref q1, .int 0, .int 0])), (q1, .inl (cQ, 10, .inr (.inr (.inr (.inr (va_up (va_up (fun _ => none) 0 (some q2)) 1 (some q4))))))), (q6, .inr (5, [.int 0, .int 0, .null, .null, .null]))] ++ wh2) := hD
  refine lv_dup hx hb dX3_init_39 rfl ?_
  have hPc := hP.sub (ws' := [(q6, .inr (5, [.int 0, .int 0, .null, .null, .null]))]) [2] rfl
  have hDc := hD.sub (ws' := [(q6, .inr (5, [.int 0, .int 0, .null, .null, .null]))]) [2] (by decide) rfl
  have hFc := va_free (wc := [(q6, .inr (5, [.int 0, .int 0, .null, .null, .null]))]) hD hS hA [2] rfl
  refine va_callv (va_runIN (As := []) (rest := [.ref q6, .int 2, .ref q1]) ⟨hx, hb, hml, hown, hts⟩ (tX5_init (h0 := q6) (sz := H.size)) ⟨va_cnB 0 hts (tb_one q166) rfl rfl rfl (hKW.2 ("HalfPlanks$History", 24, yX5_init, "HalfPlanks") (by decide +kernel)) (hts _ q43) (by decide +kernel) ⟨Nat.le_of_ble_eq_true rfl, Nat.le_of_ble_eq_true rfl⟩, rfl, hts _ q165⟩ ⟨kcB, fun U hU hW => ⟨rfl, by rw [hU], by rw [hU]; exact hPc, hKC.warm hW, hDc.weaken (fun _ _ _ _ => trivial)⟩⟩ rfl rfl hl.1 rfl (lv_room (Nat.le_of_ble_eq_true rfl)) dX3_init_40 ⟨Nat.le_of_ble_eq_true rfl, Nat.le_of_ble_eq_true rfl⟩) hS (fun q _ h => hFc q h) hFc (fun u7 t H1 locs ht hvm _ hB hz1 hk1 hS => ?_)
  obtain ⟨hP1, hD1⟩ := hB
  rw [ht] at hP1
  obtain ⟨hP, hD⟩ := va_joinQ (wr := [(h0, .inr (3, [.ref q1, .int 0, .int 0])), (q1, .inl (cQ, 10, .inr (.inr (.inr (.inr (va_up (va_up (fun _ => none) 0 (some q2)) 1 (some q4)))))))]) (w1 := [(q6, .inr (5, [.int 0, .int 0, .ref (u7 0 0), .ref (u7 0 1), .ref (u7 0 2)])), ((u7 0 0), .inl (cI, 8, .inl (fun _ => 0))), ((u7 0 1), .inl (cI, 8, .inl (fun _ => 0))), ((u7 0 2), .inl (cI, 64, .inl (fun _ => 0)))]) hP hD [2] [0, 1] rfl rfl (by decide) (by decide) hk1 hFc hP1 hD1
  generalize H1 = H at hP hS ⊢
  have hP : va_P D vwCl ([(h0, .inr (3, [.ref q1, .int 0, .int 0])), (q1, .inl (cQ, 10, .inr (.inr (.inr (.inr (va_up (va_up (fun _ => none) 0 (some q2)) 1 (some q4))))))), (q6, .inr (5, [.int 0, .int 0, .ref (u7 0 0), .ref (u7 0 1), .ref (u7 0 2)])), ((u7 0 0), .inl (cI, 8, .inl (fun _ => 0))), ((u7 0 1), .inl (cI, 8, .inl (fun _ => 0))), ((u7 0 2), .inl (cI, 64, .inl (fun _ => 0)))] ++ wh2) H := hP
  have hD : va_D A ([(h0, .inr (3, [.ref q1, .int 0, .int 0])), (q1, .inl (cQ, 10, .inr (.inr (.inr (.inr (va_up (va_up (fun _ => none) 0 (some q2)) 1 (some q4))))))), (q6, .inr (5, [.int 0, .int 0, .ref (u7 0 0), .ref (u7 0 1), .ref (u7 0 2)])), ((u7 0 0), .inl (cI, 8, .inl (fun _ => 0))), ((u7 0 1), .inl (cI, 8, .inl (fun _ => 0))), ((u7 0 2), .inl (cI, 64, .inl (fun _ => 0)))] ++ wh2) := hD
  refine va_astq hx hb hK hP hD hS 1 2 2 5 rfl rfl rfl rfl (i := 2) (vp_in_nI (n := 2) (by decide) (by decide)) dX3_init_43 (fun H locs hP hD hS => ?_)
  have hP : va_P D vwCl ([(h0, .inr (3, [.ref q1, .int 0, .int 0])), (q1, .inl (cQ, 10, .inr (.inr (.inr (.inr (va_up (va_up (va_up (fun _ => none) 0 (some q2)) 1 (some q4)) 2 (some q6))))))), (q6, .inr (5, [.int 0, .int 0, .ref (u7 0 0), .ref (u7 0 1), .ref (u7 0 2)])), ((u7 0 0), .inl (cI, 8, .inl (fun _ => 0))), ((u7 0 1), .inl (cI, 8, .inl (fun _ => 0))), ((u7 0 2), .inl (cI, 64, .inl (fun _ => 0)))] ++ wh2) H := hP
  have hD : va_D A ([(h0, .inr (3, [.ref q1, .int 0, .int 0])), (q1, .inl (cQ, 10, .inr (.inr (.inr (.inr (va_up (va_up (va_up (fun _ => none) 0 (some q2)) 1 (some q4)) 2 (some q6))))))), (q6, .inr (5, [.int 0, .int 0, .ref (u7 0 0), .ref (u7 0 1), .ref (u7 0 2)])), ((u7 0 0), .inl (cI, 8, .inl (fun _ => 0))), ((u7 0 1), .inl (cI, 8, .inl (fun _ => 0))), ((u7 0 2), .inl (cI, 64, .inl (fun _ => 0)))] ++ wh2) := hD
  obtain ⟨wh3, hwh3⟩ : ∃ z : va_W, z = [(q6, .inr (5, [.int 0, .int 0, .ref (u7 0 0), .ref (u7 0 1), .ref (u7 0 2)])), ((u7 0 0), .inl (cI, 8, .inl (fun _ => 0))), ((u7 0 1), .inl (cI, 8, .inl (fun _ => 0))), ((u7 0 2), .inl (cI, 64, .inl (fun _ => 0)))] ++ wh2 := ⟨_, rfl⟩
  have hP : va_P D vwCl ([(h0, .inr (3, [.ref q1, .int 0, .int 0])), (q1, .inl (cQ, 10, .inr (.inr (.inr (.inr (va_up (va_up (va_up (fun _ => none) 0 (some q2)) 1 (some q4)) 2 (some q6)))))))] ++ wh3) H := by rw [hwh3]; exact hP
  have hD : va_D A ([(h0, .inr (3, [.ref q1, .int 0, .int 0])), (q1, .inl (cQ, 10, .inr (.inr (.inr (.inr (va_up (va_up (va_up (fun _ => none) 0 (some q2)) 1 (some q4)) 2 (some q6)))))))] ++ wh3) := by rw [hwh3]; exact hD
  refine lv_iinc (v := 3) (lv' := [(1, .int 3), (0, .ref h0)]) hx hb dX3_init_44 hl (k := 0) rfl (by decide) (by decide) rfl (fun ls hl => ?_)
  refine lv_goto (tgt := 25) hx hb dX3_init_47 (by decide) ?_
  refine lv_iload_n hx hb dX3_init_25 rfl (lv_at hl 0 rfl) ?_
  refine lv_bipush (v := 10) hx hb dX3_init_26 (by decide) ?_
  refine lv_icmp_ge (tgt := 50) hx hb dX3_init_28 (by decide) (fun c1 => absurd c1 (by decide)) (fun _ => ?_)
  refine lv_aload_n hx hb dX3_init_31 rfl (lv_at hl 1 rfl) ?_
  refine va_get (D := D) (ci := 3) (v := .ref q1) (C := RX3) (T := TX3) (N := 3) hx hb hts inTX3 hown hK hP 0 rfl rfl 0 (by decide) (hts _ q203) (fun _ h9 => h9) rfl dX3_init_32 ?_
  refine lv_iload_n hx hb dX3_init_35 rfl (lv_at hl 0 rfl) ?_
  refine va_new (ci := 5) (fs := [.int 0, .int 0, .null, .null, .null]) (C := RX5) (T := TX5) (N := 5) hx hb hts inTX5 tyX5 tyX5_ok hown (hts _ q200) (hts _ q163) (hts _ q43) hK hP hD hS hA rfl (fun j hj => by rcases (show j = 0 ∨ j = 1 ∨ j = 2 ∨ j = 3 ∨ j = 4 by omega) with rfl | rfl | rfl | rfl | rfl <;> rfl) (Nat.le_of_ble_eq_true rfl) (Nat.le_of_ble_eq_true rfl) dX3_init_36 (fun q8 H hP hD hS => ?_)
  have hP := hP.swap
  have hD := hD.swap
  have hP : va_P D vwCl ([(h0, .inr (3, [.ref q1, .int 0, .int 0])), (q1, .inl (cQ, 10, .inr (.inr (.inr (.inr (va_up (va_up (va_up (fun _ => none) 0 (some q2)) 1 (some q4)) 2 (some q6))))))), (q8, .inr (5, [.int 0, .int 0, .null, .null, .null]))] ++ wh3) H := hP
  have hD : va_D A ([(h0, .inr (3, [.ref q1, .int 0, .int 0])), (q1, .inl (cQ, 10, .inr (.inr (.inr (.inr (va_up (va_up (va_up (fun _ => none) 0 (some q2)) 1 (some q4)) 2 (some q6))))))), (q8, .inr (5, [.int 0, .int 0, .null, .null, .null]))] ++ wh3) := hD
  refine lv_dup hx hb dX3_init_39 rfl ?_
  have hPc := hP.sub (ws' := [(q8, .inr (5, [.int 0, .int 0, .null, .null, .null]))]) [2] rfl
  have hDc := hD.sub (ws' := [(q8, .inr (5, [.int 0, .int 0, .null, .null, .null]))]) [2] (by decide) rfl
  have hFc := va_free (wc := [(q8, .inr (5, [.int 0, .int 0, .null, .null, .null]))]) hD hS hA [2] rfl
  refine va_callv (va_runIN (As := []) (rest := [.ref q8, .int 3, .ref q1]) ⟨hx, hb, hml, hown, hts⟩ (tX5_init (h0 := q8) (sz := H.size)) ⟨va_cnB 0 hts (tb_one q166) rfl rfl rfl (hKW.2 ("HalfPlanks$History", 24, yX5_init, "HalfPlanks") (by decide +kernel)) (hts _ q43) (by decide +kernel) ⟨Nat.le_of_ble_eq_true rfl, Nat.le_of_ble_eq_true rfl⟩, rfl, hts _ q165⟩ ⟨kcB, fun U hU hW => ⟨rfl, by rw [hU], by rw [hU]; exact hPc, hKC.warm hW, hDc.weaken (fun _ _ _ _ => trivial)⟩⟩ rfl rfl hl.1 rfl (lv_room (Nat.le_of_ble_eq_true rfl)) dX3_init_40 ⟨Nat.le_of_ble_eq_true rfl, Nat.le_of_ble_eq_true rfl⟩) hS (fun q _ h => hFc q h) hFc (fun u9 t H1 locs ht hvm _ hB hz1 hk1 hS => ?_)
  obtain ⟨hP1, hD1⟩ := hB
  rw [ht] at hP1
  obtain ⟨hP, hD⟩ := va_joinQ (wr := [(h0, .inr (3, [.ref q1, .int 0, .int 0])), (q1, .inl (cQ, 10, .inr (.inr (.inr (.inr (va_up (va_up (va_up (fun _ => none) 0 (some q2)) 1 (some q4)) 2 (some q6)))))))]) (w1 := [(q8, .inr (5, [.int 0, .int 0, .ref (u9 0 0), .ref (u9 0 1), .ref (u9 0 2)])), ((u9 0 0), .inl (cI, 8, .inl (fun _ => 0))), ((u9 0 1), .inl (cI, 8, .inl (fun _ => 0))), ((u9 0 2), .inl (cI, 64, .inl (fun _ => 0)))]) hP hD [2] [0, 1] rfl rfl (by decide) (by decide) hk1 hFc hP1 hD1
  generalize H1 = H at hP hS ⊢
  have hP : va_P D vwCl ([(h0, .inr (3, [.ref q1, .int 0, .int 0])), (q1, .inl (cQ, 10, .inr (.inr (.inr (.inr (va_up (va_up (va_up (fun _ => none) 0 (some q2)) 1 (some q4)) 2 (some q6))))))), (q8, .inr (5, [.int 0, .int 0, .ref (u9 0 0), .ref (u9 0 1), .ref (u9 0 2)])), ((u9 0 0), .inl (cI, 8, .inl (fun _ => 0))), ((u9 0 1), .inl (cI, 8, .inl (fun _ => 0))), ((u9 0 2), .inl (cI, 64, .inl (fun _ => 0)))] ++ wh3) H := hP
  have hD : va_D A ([(h0, .inr (3, [.ref q1, .int 0, .int 0])), (q1, .inl (cQ, 10, .inr (.inr (.inr (.inr (va_up (va_up (va_up (fun _ => none) 0 (some q2)) 1 (some q4)) 2 (some q6))))))), (q8, .inr (5, [.int 0, .int 0, .ref (u9 0 0), .ref (u9 0 1), .ref (u9 0 2)])), ((u9 0 0), .inl (cI, 8, .inl (fun _ => 0))), ((u9 0 1), .inl (cI, 8, .inl (fun _ => 0))), ((u9 0 2), .inl (cI, 64, .inl (fun _ => 0)))] ++ wh3) := hD
  refine va_astq hx hb hK hP hD hS 1 2 2 5 rfl rfl rfl rfl (i := 3) (vp_in_nI (n := 3) (by decide) (by decide)) dX3_init_43 (fun H locs hP hD hS => ?_)
  have hP : va_P D vwCl ([(h0, .inr (3, [.ref q1, .int 0, .int 0])), (q1, .inl (cQ, 10, .inr (.inr (.inr (.inr (va_up (va_up (va_up (va_up (fun _ => none) 0 (some q2)) 1 (some q4)) 2 (some q6)) 3 (some q8))))))), (q8, .inr (5, [.int 0, .int 0, .ref (u9 0 0), .ref (u9 0 1), .ref (u9 0 2)])), ((u9 0 0), .inl (cI, 8, .inl (fun _ => 0))), ((u9 0 1), .inl (cI, 8, .inl (fun _ => 0))), ((u9 0 2), .inl (cI, 64, .inl (fun _ => 0)))] ++ wh3) H := hP
  have hD : va_D A ([(h0, .inr (3, [.ref q1, .int 0, .int 0])), (q1, .inl (cQ, 10, .inr (.inr (.inr (.inr (va_up (va_up (va_up (va_up (fun _ => none) 0 (some q2)) 1 (some q4)) 2 (some q6)) 3 (some q8))))))), (q8, .inr (5, [.int 0, .int 0, .ref (u9 0 0), .ref (u9 0 1), .ref (u9 0 2)])), ((u9 0 0), .inl (cI, 8, .inl (fun _ => 0))), ((u9 0 1), .inl (cI, 8, .inl (fun _ => 0))), ((u9 0 2), .inl (cI, 64, .inl (fun _ => 0)))] ++ wh3) := hD
  obtain ⟨wh4, hwh4⟩ : ∃ z : va_W, z = [(q8, .inr (5, [.int 0, .int 0, .ref (u9 0 0), .ref (u9 0 1), .ref (u9 0 2)])), ((u9 0 0), .inl (cI, 8, .inl (fun _ => 0))), ((u9 0 1), .inl (cI, 8, .inl (fun _ => 0))), ((u9 0 2), .inl (cI, 64, .inl (fun _ => 0)))] ++ wh3 := ⟨_, rfl⟩
  have hP : va_P D vwCl ([(h0, .inr (3, [.ref q1, .int 0, .int 0])), (q1, .inl (cQ, 10, .inr (.inr (.inr (.inr (va_up (va_up (va_up (va_up (fun _ => none) 0 (some q2)) 1 (some q4)) 2 (some q6)) 3 (some q8)))))))] ++ wh4) H := by rw [hwh4]; exact hP
  have hD : va_D A ([(h0, .inr (3, [.ref q1, .int 0, .int 0])), (q1, .inl (cQ, 10, .inr (.inr (.inr (.inr (va_up (va_up (va_up (va_up (fun _ => none) 0 (some q2)) 1 (some q4)) 2 (some q6)) 3 (some q8)))))))] ++ wh4) := by rw [hwh4]; exact hD
  refine lv_iinc (v := 4) (lv' := [(1, .int 4), (0, .ref h0)]) hx hb dX3_init_44 hl (k := 0) rfl (by decide) (by decide) rfl (fun ls hl => ?_)
  refine lv_goto (tgt := 25) hx hb dX3_init_47 (by decide) ?_
  refine lv_iload_n hx hb dX3_init_25 rfl (lv_at hl 0 rfl) ?_
  refine lv_bipush (v := 10) hx hb dX3_init_26 (by decide) ?_
  refine lv_icmp_ge (tgt := 50) hx hb dX3_init_28 (by decide) (fun c1 => absurd c1 (by decide)) (fun _ => ?_)
  refine lv_aload_n hx hb dX3_init_31 rfl (lv_at hl 1 rfl) ?_
  refine va_get (D := D) (ci := 3) (v := .ref q1) (C := RX3) (T := TX3) (N := 3) hx hb hts inTX3 hown hK hP 0 rfl rfl 0 (by decide) (hts _ q203) (fun _ h9 => h9) rfl dX3_init_32 ?_
  refine lv_iload_n hx hb dX3_init_35 rfl (lv_at hl 0 rfl) ?_
  refine va_new (ci := 5) (fs := [.int 0, .int 0, .null, .null, .null]) (C := RX5) (T := TX5) (N := 5) hx hb hts inTX5 tyX5 tyX5_ok hown (hts _ q200) (hts _ q163) (hts _ q43) hK hP hD hS hA rfl (fun j hj => by rcases (show j = 0 ∨ j = 1 ∨ j = 2 ∨ j = 3 ∨ j = 4 by omega) with rfl | rfl | rfl | rfl | rfl <;> rfl) (Nat.le_of_ble_eq_true rfl) (Nat.le_of_ble_eq_true rfl) dX3_init_36 (fun q10 H hP hD hS => ?_)
  have hP := hP.swap
  have hD := hD.swap
  have hP : va_P D vwCl ([(h0, .inr (3, [.ref q1, .int 0, .int 0])), (q1, .inl (cQ, 10, .inr (.inr (.inr (.inr (va_up (va_up (va_up (va_up (fun _ => none) 0 (some q2)) 1 (some q4)) 2 (some q6)) 3 (some q8))))))), (q10, .inr (5, [.int 0, .int 0, .null, .null, .null]))] ++ wh4) H := hP
  have hD : va_D A ([(h0, .inr (3, [.ref q1, .int 0, .int 0])), (q1, .inl (cQ, 10, .inr (.inr (.inr (.inr (va_up (va_up (va_up (va_up (fun _ => none) 0 (some q2)) 1 (some q4)) 2 (some q6)) 3 (some q8))))))), (q10, .inr (5, [.int 0, .int 0, .null, .null, .null]))] ++ wh4) := hD
  refine lv_dup hx hb dX3_init_39 rfl ?_
  have hPc := hP.sub (ws' := [(q10, .inr (5, [.int 0, .int 0, .null, .null, .null]))]) [2] rfl
  have hDc := hD.sub (ws' := [(q10, .inr (5, [.int 0, .int 0, .null, .null, .null]))]) [2] (by decide) rfl
  have hFc := va_free (wc := [(q10, .inr (5, [.int 0, .int 0, .null, .null, .null]))]) hD hS hA [2] rfl
  refine va_callv (va_runIN (As := []) (rest := [.ref q10, .int 4, .ref q1]) ⟨hx, hb, hml, hown, hts⟩ (tX5_init (h0 := q10) (sz := H.size)) ⟨va_cnB 0 hts (tb_one q166) rfl rfl rfl (hKW.2 ("HalfPlanks$History", 24, yX5_init, "HalfPlanks") (by decide +kernel)) (hts _ q43) (by decide +kernel) ⟨Nat.le_of_ble_eq_true rfl, Nat.le_of_ble_eq_true rfl⟩, rfl, hts _ q165⟩ ⟨kcB, fun U hU hW => ⟨rfl, by rw [hU], by rw [hU]; exact hPc, hKC.warm hW, hDc.weaken (fun _ _ _ _ => trivial)⟩⟩ rfl rfl hl.1 rfl (lv_room (Nat.le_of_ble_eq_true rfl)) dX3_init_40 ⟨Nat.le_of_ble_eq_true rfl, Nat.le_of_ble_eq_true rfl⟩) hS (fun q _ h => hFc q h) hFc (fun u11 t H1 locs ht hvm _ hB hz1 hk1 hS => ?_)
  obtain ⟨hP1, hD1⟩ := hB
  rw [ht] at hP1
  obtain ⟨hP, hD⟩ := va_joinQ (wr := [(h0, .inr (3, [.ref q1, .int 0, .int 0])), (q1, .inl (cQ, 10, .inr (.inr (.inr (.inr (va_up (va_up (va_up (va_up (fun _ => none) 0 (some q2)) 1 (some q4)) 2 (some q6)) 3 (some q8)))))))]) (w1 := [(q10, .inr (5, [.int 0, .int 0, .ref (u11 0 0), .ref (u11 0 1), .ref (u11 0 2)])), ((u11 0 0), .inl (cI, 8, .inl (fun _ => 0))), ((u11 0 1), .inl (cI, 8, .inl (fun _ => 0))), ((u11 0 2), .inl (cI, 64, .inl (fun _ => 0)))]) hP hD [2] [0, 1] rfl rfl (by decide) (by decide) hk1 hFc hP1 hD1
  generalize H1 = H at hP hS ⊢
  have hP : va_P D vwCl ([(h0, .inr (3, [.ref q1, .int 0, .int 0])), (q1, .inl (cQ, 10, .inr (.inr (.inr (.inr (va_up (va_up (va_up (va_up (fun _ => none) 0 (some q2)) 1 (some q4)) 2 (some q6)) 3 (some q8))))))), (q10, .inr (5, [.int 0, .int 0, .ref (u11 0 0), .ref (u11 0 1), .ref (u11 0 2)])), ((u11 0 0), .inl (cI, 8, .inl (fun _ => 0))), ((u11 0 1), .inl (cI, 8, .inl (fun _ => 0))), ((u11 0 2), .inl (cI, 64, .inl (fun _ => 0)))] ++ wh4) H := hP
  have hD : va_D A ([(h0, .inr (3, [.ref q1, .int 0, .int 0])), (q1, .inl (cQ, 10, .inr (.inr (.inr (.inr (va_up (va_up (va_up (va_up (fun _ => none) 0 (some q2)) 1 (some q4)) 2 (some q6)) 3 (some q8))))))), (q10, .inr (5, [.int 0, .int 0, .ref (u11 0 0), .ref (u11 0 1), .ref (u11 0 2)])), ((u11 0 0), .inl (cI, 8, .inl (fun _ => 0))), ((u11 0 1), .inl (cI, 8, .inl (fun _ => 0))), ((u11 0 2), .inl (cI, 64, .inl (fun _ => 0)))] ++ wh4) := hD
  refine va_astq hx hb hK hP hD hS 1 2 2 5 rfl rfl rfl rfl (i := 4) (vp_in_nI (n := 4) (by decide) (by decide)) dX3_init_43 (fun H locs hP hD hS => ?_)
  have hP : va_P D vwCl ([(h0, .inr (3, [.ref q1, .int 0, .int 0])), (q1, .inl (cQ, 10, .inr (.inr (.inr (.inr (va_up (va_up (va_up (va_up (va_up (fun _ => none) 0 (some q2)) 1 (some q4)) 2 (some q6)) 3 (some q8)) 4 (some q10))))))), (q10, .inr (5, [.int 0, .int 0, .ref (u11 0 0), .ref (u11 0 1), .ref (u11 0 2)])), ((u11 0 0), .inl (cI, 8, .inl (fun _ => 0))), ((u11 0 1), .inl (cI, 8, .inl (fun _ => 0))), ((u11 0 2), .inl (cI, 64, .inl (fun _ => 0)))] ++ wh4) H := hP
  have hD : va_D A ([(h0, .inr (3, [.ref q1, .int 0, .int 0])), (q1, .inl (cQ, 10, .inr (.inr (.inr (.inr (va_up (va_up (va_up (va_up (va_up (fun _ => none) 0 (some q2)) 1 (some q4)) 2 (some q6)) 3 (some q8)) 4 (some q10))))))), (q10, .inr (5, [.int 0, .int 0, .ref (u11 0 0), .ref (u11 0 1), .ref (u11 0 2)])), ((u11 0 0), .inl (cI, 8, .inl (fun _ => 0))), ((u11 0 1), .inl (cI, 8, .inl (fun _ => 0))), ((u11 0 2), .inl (cI, 64, .inl (fun _ => 0)))] ++ wh4) := hD
  obtain ⟨wh5, hwh5⟩ : ∃ z : va_W, z = [(q10, .inr (5, [.int 0, .int 0, .ref (u11 0 0), .ref (u11 0 1), .ref (u11 0 2)])), ((u11 0 0), .inl (cI, 8, .inl (fun _ => 0))), ((u11 0 1), .inl (cI, 8, .inl (fun _ => 0))), ((u11 0 2), .inl (cI, 64, .inl (fun _ => 0)))] ++ wh4 := ⟨_, rfl⟩
  have hP : va_P D vwCl ([(h0, .inr (3, [.ref q1, .int 0, .int 0])), (q1, .inl (cQ, 10, .inr (.inr (.inr (.inr (va_up (va_up (va_up (va_up (va_up (fun _ => none) 0 (some q2)) 1 (some q4)) 2 (some q6)) 3 (some q8)) 4 (some q10)))))))] ++ wh5) H := by rw [hwh5]; exact hP
  have hD : va_D A ([(h0, .inr (3, [.ref q1, .int 0, .int 0])), (q1, .inl (cQ, 10, .inr (.inr (.inr (.inr (va_up (va_up (va_up (va_up (va_up (fun _ => none) 0 (some q2)) 1 (some q4)) 2 (some q6)) 3 (some q8)) 4 (some q10)))))))] ++ wh5) := by rw [hwh5]; exact hD
  refine lv_iinc (v := 5) (lv' := [(1, .int 5), (0, .ref h0)]) hx hb dX3_init_44 hl (k := 0) rfl (by decide) (by decide) rfl (fun ls hl => ?_)
  refine lv_goto (tgt := 25) hx hb dX3_init_47 (by decide) ?_
  refine lv_iload_n hx hb dX3_init_25 rfl (lv_at hl 0 rfl) ?_
  refine lv_bipush (v := 10) hx hb dX3_init_26 (by decide) ?_
  refine lv_icmp_ge (tgt := 50) hx hb dX3_init_28 (by decide) (fun c1 => absurd c1 (by decide)) (fun _ => ?_)
  refine lv_aload_n hx hb dX3_init_31 rfl (lv_at hl 1 rfl) ?_
  refine va_get (D := D) (ci := 3) (v := .ref q1) (C := RX3) (T := TX3) (N := 3) hx hb hts inTX3 hown hK hP 0 rfl rfl 0 (by decide) (hts _ q203) (fun _ h9 => h9) rfl dX3_init_32 ?_
  refine lv_iload_n hx hb dX3_init_35 rfl (lv_at hl 0 rfl) ?_
  refine va_new (ci := 5) (fs := [.int 0, .int 0, .null, .null, .null]) (C := RX5) (T := TX5) (N := 5) hx hb hts inTX5 tyX5 tyX5_ok hown (hts _ q200) (hts _ q163) (hts _ q43) hK hP hD hS hA rfl (fun j hj => by rcases (show j = 0 ∨ j = 1 ∨ j = 2 ∨ j = 3 ∨ j = 4 by omega) with rfl | rfl | rfl | rfl | rfl <;> rfl) (Nat.le_of_ble_eq_true rfl) (Nat.le_of_ble_eq_true rfl) dX3_init_36 (fun q12 H hP hD hS => ?_)
  have hP := hP.swap
  have hD := hD.swap
  have hP : va_P D vwCl ([(h0, .inr (3, [.ref q1, .int 0, .int 0])), (q1, .inl (cQ, 10, .inr (.inr (.inr (.inr (va_up (va_up (va_up (va_up (va_up (fun _ => none) 0 (some q2)) 1 (some q4)) 2 (some q6)) 3 (some q8)) 4 (some q10))))))), (q12, .inr (5, [.int 0, .int 0, .null, .null, .null]))] ++ wh5) H := hP
  have hD : va_D A ([(h0, .inr (3, [.ref q1, .int 0, .int 0])), (q1, .inl (cQ, 10, .inr (.inr (.inr (.inr (va_up (va_up (va_up (va_up (va_up (fun _ => none) 0 (some q2)) 1 (some q4)) 2 (some q6)) 3 (some q8)) 4 (some q10))))))), (q12, .inr (5, [.int 0, .int 0, .null, .null, .null]))] ++ wh5) := hD
  refine lv_dup hx hb dX3_init_39 rfl ?_
  have hPc := hP.sub (ws' := [(q12, .inr (5, [.int 0, .int 0, .null, .null, .null]))]) [2] rfl
  have hDc := hD.sub (ws' := [(q12, .inr (5, [.int 0, .int 0, .null, .null, .null]))]) [2] (by decide) rfl
  have hFc := va_free (wc := [(q12, .inr (5, [.int 0, .int 0, .null, .null, .null]))]) hD hS hA [2] rfl
  refine va_callv (va_runIN (As := []) (rest := [.ref q12, .int 5, .ref q1]) ⟨hx, hb, hml, hown, hts⟩ (tX5_init (h0 := q12) (sz := H.size)) ⟨va_cnB 0 hts (tb_one q166) rfl rfl rfl (hKW.2 ("HalfPlanks$History", 24, yX5_init, "HalfPlanks") (by decide +kernel)) (hts _ q43) (by decide +kernel) ⟨Nat.le_of_ble_eq_true rfl, Nat.le_of_ble_eq_true rfl⟩, rfl, hts _ q165⟩ ⟨kcB, fun U hU hW => ⟨rfl, by rw [hU], by rw [hU]; exact hPc, hKC.warm hW, hDc.weaken (fun _ _ _ _ => trivial)⟩⟩ rfl rfl hl.1 rfl (lv_room (Nat.le_of_ble_eq_true rfl)) dX3_init_40 ⟨Nat.le_of_ble_eq_true rfl, Nat.le_of_ble_eq_true rfl⟩) hS (fun q _ h => hFc q h) hFc (fun u13 t H1 locs ht hvm _ hB hz1 hk1 hS => ?_)
  obtain ⟨hP1, hD1⟩ := hB
  rw [ht] at hP1
  obtain ⟨hP, hD⟩ := va_joinQ (wr := [(h0, .inr (3, [.ref q1, .int 0, .int 0])), (q1, .inl (cQ, 10, .inr (.inr (.inr (.inr (va_up (va_up (va_up (va_up (va_up (fun _ => none) 0 (some q2)) 1 (some q4)) 2 (some q6)) 3 (some q8)) 4 (some q10)))))))]) (w1 := [(q12, .inr (5, [.int 0, .int 0, .ref (u13 0 0), .ref (u13 0 1), .ref (u13 0 2)])), ((u13 0 0), .inl (cI, 8, .inl (fun _ => 0))), ((u13 0 1), .inl (cI, 8, .inl (fun _ => 0))), ((u13 0 2), .inl (cI, 64, .inl (fun _ => 0)))]) hP hD [2] [0, 1] rfl rfl (by decide) (by decide) hk1 hFc hP1 hD1
  generalize H1 = H at hP hS ⊢
  have hP : va_P D vwCl ([(h0, .inr (3, [.ref q1, .int 0, .int 0])), (q1, .inl (cQ, 10, .inr (.inr (.inr (.inr (va_up (va_up (va_up (va_up (va_up (fun _ => none) 0 (some q2)) 1 (some q4)) 2 (some q6)) 3 (some q8)) 4 (some q10))))))), (q12, .inr (5, [.int 0, .int 0, .ref (u13 0 0), .ref (u13 0 1), .ref (u13 0 2)])), ((u13 0 0), .inl (cI, 8, .inl (fun _ => 0))), ((u13 0 1), .inl (cI, 8, .inl (fun _ => 0))), ((u13 0 2), .inl (cI, 64, .inl (fun _ => 0)))] ++ wh5) H := hP
  have hD : va_D A ([(h0, .inr (3, [.ref q1, .int 0, .int 0])), (q1, .inl (cQ, 10, .inr (.inr (.inr (.inr (va_up (va_up (va_up (va_up (va_up (fun _ => none) 0 (some q2)) 1 (some q4)) 2 (some q6)) 3 (some q8)) 4 (some q10))))))), (q12, .inr (5, [.int 0, .int 0, .ref (u13 0 0), .ref (u13 0 1), .ref (u13 0 2)])), ((u13 0 0), .inl (cI, 8, .inl (fun _ => 0))), ((u13 0 1), .inl (cI, 8, .inl (fun _ => 0))), ((u13 0 2), .inl (cI, 64, .inl (fun _ => 0)))] ++ wh5) := hD
  refine va_astq hx hb hK hP hD hS 1 2 2 5 rfl rfl rfl rfl (i := 5) (vp_in_nI (n := 5) (by decide) (by decide)) dX3_init_43 (fun H locs hP hD hS => ?_)
  have hP : va_P D vwCl ([(h0, .inr (3, [.ref q1, .int 0, .int 0])), (q1, .inl (cQ, 10, .inr (.inr (.inr (.inr (va_up (va_up (va_up (va_up (va_up (va_up (fun _ => none) 0 (some q2)) 1 (some q4)) 2 (some q6)) 3 (some q8)) 4 (some q10)) 5 (some q12))))))), (q12, .inr (5, [.int 0, .int 0, .ref (u13 0 0), .ref (u13 0 1), .ref (u13 0 2)])), ((u13 0 0), .inl (cI, 8, .inl (fun _ => 0))), ((u13 0 1), .inl (cI, 8, .inl (fun _ => 0))), ((u13 0 2), .inl (cI, 64, .inl (fun _ => 0)))] ++ wh5) H := hP
  have hD : va_D A ([(h0, .inr (3, [.ref q1, .int 0, .int 0])), (q1, .inl (cQ, 10, .inr (.inr (.inr (.inr (va_up (va_up (va_up (va_up (va_up (va_up (fun _ => none) 0 (some q2)) 1 (some q4)) 2 (some q6)) 3 (some q8)) 4 (some q10)) 5 (some q12))))))), (q12, .inr (5, [.int 0, .int 0, .ref (u13 0 0), .ref (u13 0 1), .ref (u13 0 2)])), ((u13 0 0), .inl (cI, 8, .inl (fun _ => 0))), ((u13 0 1), .inl (cI, 8, .inl (fun _ => 0))), ((u13 0 2), .inl (cI, 64, .inl (fun _ => 0)))] ++ wh5) := hD
  obtain ⟨wh6, hwh6⟩ : ∃ z : va_W, z = [(q12, .inr (5, [.int 0, .int 0, .ref (u13 0 0), .ref (u13 0 1), .ref (u13 0 2)])), ((u13 0 0), .inl (cI, 8, .inl (fun _ => 0))), ((u13 0 1), .inl (cI, 8, .inl (fun _ => 0))), ((u13 0 2), .inl (cI, 64, .inl (fun _ => 0)))] ++ wh5 := ⟨_, rfl⟩
  have hP : va_P D vwCl ([(h0, .inr (3, [.ref q1, .int 0, .int 0])), (q1, .inl (cQ, 10, .inr (.inr (.inr (.inr (va_up (va_up (va_up (va_up (va_up (va_up (fun _ => none) 0 (some q2)) 1 (some q4)) 2 (some q6)) 3 (some q8)) 4 (some q10)) 5 (some q12)))))))] ++ wh6) H := by rw [hwh6]; exact hP
  have hD : va_D A ([(h0, .inr (3, [.ref q1, .int 0, .int 0])), (q1, .inl (cQ, 10, .inr (.inr (.inr (.inr (va_up (va_up (va_up (va_up (va_up (va_up (fun _ => none) 0 (some q2)) 1 (some q4)) 2 (some q6)) 3 (some q8)) 4 (some q10)) 5 (some q12)))))))] ++ wh6) := by rw [hwh6]; exact hD
  refine lv_iinc (v := 6) (lv' := [(1, .int 6), (0, .ref h0)]) hx hb dX3_init_44 hl (k := 0) rfl (by decide) (by decide) rfl (fun ls hl => ?_)
  refine lv_goto (tgt := 25) hx hb dX3_init_47 (by decide) ?_
  refine lv_iload_n hx hb dX3_init_25 rfl (lv_at hl 0 rfl) ?_
  refine lv_bipush (v := 10) hx hb dX3_init_26 (by decide) ?_
  refine lv_icmp_ge (tgt := 50) hx hb dX3_init_28 (by decide) (fun c1 => absurd c1 (by decide)) (fun _ => ?_)
  refine lv_aload_n hx hb dX3_init_31 rfl (lv_at hl 1 rfl) ?_
  refine va_get (D := D) (ci := 3) (v := .ref q1) (C := RX3) (T := TX3) (N := 3) hx hb hts inTX3 hown hK hP 0 rfl rfl 0 (by decide) (hts _ q203) (fun _ h9 => h9) rfl dX3_init_32 ?_
  refine lv_iload_n hx hb dX3_init_35 rfl (lv_at hl 0 rfl) ?_
  refine va_new (ci := 5) (fs := [.int 0, .int 0, .null, .null, .null]) (C := RX5) (T := TX5) (N := 5) hx hb hts inTX5 tyX5 tyX5_ok hown (hts _ q200) (hts _ q163) (hts _ q43) hK hP hD hS hA rfl (fun j hj => by rcases (show j = 0 ∨ j = 1 ∨ j = 2 ∨ j = 3 ∨ j = 4 by omega) with rfl | rfl | rfl | rfl | rfl <;> rfl) (Nat.le_of_ble_eq_true rfl) (Nat.le_of_ble_eq_true rfl) dX3_init_36 (fun q14 H hP hD hS => ?_)
  have hP := hP.swap
  have hD := hD.swap
  have hP : va_P D vwCl ([(h0, .inr (3, [.ref q1, .int 0, .int 0])), (q1, .inl (cQ, 10, .inr (.inr (.inr (.inr (va_up (va_up (va_up (va_up (va_up (va_up (fun _ => none) 0 (some q2)) 1 (some q4)) 2 (some q6)) 3 (some q8)) 4 (some q10)) 5 (some q12))))))), (q14, .inr (5, [.int 0, .int 0, .null, .null, .null]))] ++ wh6) H := hP
  have hD : va_D A ([(h0, .inr (3, [.ref q1, .int 0, .int 0])), (q1, .inl (cQ, 10, .inr (.inr (.inr (.inr (va_up (va_up (va_up (va_up (va_up (va_up (fun _ => none) 0 (some q2)) 1 (some q4)) 2 (some q6)) 3 (some q8)) 4 (some q10)) 5 (some q12))))))), (q14, .inr (5, [.int 0, .int 0, .null, .null, .null]))] ++ wh6) := hD
  refine lv_dup hx hb dX3_init_39 rfl ?_
  have hPc := hP.sub (ws' := [(q14, .inr (5, [.int 0, .int 0, .null, .null, .null]))]) [2] rfl
  have hDc := hD.sub (ws' := [(q14, .inr (5, [.int 0, .int 0, .null, .null, .null]))]) [2] (by decide) rfl
  have hFc := va_free (wc := [(q14, .inr (5, [.int 0, .int 0, .null, .null, .null]))]) hD hS hA [2] rfl
  refine va_callv (va_runIN (As := []) (rest := [.ref q14, .int 6, .ref q1]) ⟨hx, hb, hml, hown, hts⟩ (tX5_init (h0 := q14) (sz := H.size)) ⟨va_cnB 0 hts (tb_one q166) rfl rfl rfl (hKW.2 ("HalfPlanks$History", 24, yX5_init, "HalfPlanks") (by decide +kernel)) (hts _ q43) (by decide +kernel) ⟨Nat.le_of_ble_eq_true rfl, Nat.le_of_ble_eq_true rfl⟩, rfl, hts _ q165⟩ ⟨kcB, fun U hU hW => ⟨rfl, by rw [hU], by rw [hU]; exact hPc, hKC.warm hW, hDc.weaken (fun _ _ _ _ => trivial)⟩⟩ rfl rfl hl.1 rfl (lv_room (Nat.le_of_ble_eq_true rfl)) dX3_init_40 ⟨Nat.le_of_ble_eq_true rfl, Nat.le_of_ble_eq_true rfl⟩) hS (fun q _ h => hFc q h) hFc (fun u15 t H1 locs ht hvm _ hB hz1 hk1 hS => ?_)
  obtain ⟨hP1, hD1⟩ := hB
  rw [ht] at hP1
  obtain ⟨hP, hD⟩ := va_joinQ (wr := [(h0, .inr (3, [.ref q1, .int 0, .int 0])), (q1, .inl (cQ, 10, .inr (.inr (.inr (.inr (va_up (va_up (va_up (va_up (va_up (va_up (fun _ => none) 0 (some q2)) 1 (some q4)) 2 (some q6)) 3 (some q8)) 4 (some q10)) 5 (some q12)))))))]) (w1 := [(q14, .inr (5, [.int 0, .int 0, .ref (u15 0 0), .ref (u15 0 1), .ref (u15 0 2)])), ((u15 0 0), .inl (cI, 8, .inl (fun _ => 0))), ((u15 0 1), .inl (cI, 8, .inl (fun _ => 0))), ((u15 0 2), .inl (cI, 64, .inl (fun _ => 0)))]) hP hD [2] [0, 1] rfl rfl (by decide) (by decide) hk1 hFc hP1 hD1
  generalize H1 = H at hP hS ⊢
  have hP : va_P D vwCl ([(h0, .inr (3, [.ref q1, .int 0, .int 0])), (q1, .inl (cQ, 10, .inr (.inr (.inr (.inr (va_up (va_up (va_up (va_up (va_up (va_up (fun _ => none) 0 (some q2)) 1 (some q4)) 2 (some q6)) 3 (some q8)) 4 (some q10)) 5 (some q12))))))), (q14, .inr (5, [.int 0, .int 0, .ref (u15 0 0), .ref (u15 0 1), .ref (u15 0 2)])), ((u15 0 0), .inl (cI, 8, .inl (fun _ => 0))), ((u15 0 1), .inl (cI, 8, .inl (fun _ => 0))), ((u15 0 2), .inl (cI, 64, .inl (fun _ => 0)))] ++ wh6) H := hP
  have hD : va_D A ([(h0, .inr (3, [.ref q1, .int 0, .int 0])), (q1, .inl (cQ, 10, .inr (.inr (.inr (.inr (va_up (va_up (va_up (va_up (va_up (va_up (fun _ => none) 0 (some q2)) 1 (some q4)) 2 (some q6)) 3 (some q8)) 4 (some q10)) 5 (some q12))))))), (q14, .inr (5, [.int 0, .int 0, .ref (u15 0 0), .ref (u15 0 1), .ref (u15 0 2)])), ((u15 0 0), .inl (cI, 8, .inl (fun _ => 0))), ((u15 0 1), .inl (cI, 8, .inl (fun _ => 0))), ((u15 0 2), .inl (cI, 64, .inl (fun _ => 0)))] ++ wh6) := hD
  refine va_astq hx hb hK hP hD hS 1 2 2 5 rfl rfl rfl rfl (i := 6) (vp_in_nI (n := 6) (by decide) (by decide)) dX3_init_43 (fun H locs hP hD hS => ?_)
  have hP : va_P D vwCl ([(h0, .inr (3, [.ref q1, .int 0, .int 0])), (q1, .inl (cQ, 10, .inr (.inr (.inr (.inr (va_up (va_up (va_up (va_up (va_up (va_up (va_up (fun _ => none) 0 (some q2)) 1 (some q4)) 2 (some q6)) 3 (some q8)) 4 (some q10)) 5 (some q12)) 6 (some q14))))))), (q14, .inr (5, [.int 0, .int 0, .ref (u15 0 0), .ref (u15 0 1), .ref (u15 0 2)])), ((u15 0 0), .inl (cI, 8, .inl (fun _ => 0))), ((u15 0 1), .inl (cI, 8, .inl (fun _ => 0))), ((u15 0 2), .inl (cI, 64, .inl (fun _ => 0)))] ++ wh6) H := hP
  have hD : va_D A ([(h0, .inr (3, [.ref q1, .int 0, .int 0])), (q1, .inl (cQ, 10, .inr (.inr (.inr (.inr (va_up (va_up (va_up (va_up (va_up (va_up (va_up (fun _ => none) 0 (some q2)) 1 (some q4)) 2 (some q6)) 3 (some q8)) 4 (some q10)) 5 (some q12)) 6 (some q14))))))), (q14, .inr (5, [.int 0, .int 0, .ref (u15 0 0), .ref (u15 0 1), .ref (u15 0 2)])), ((u15 0 0), .inl (cI, 8, .inl (fun _ => 0))), ((u15 0 1), .inl (cI, 8, .inl (fun _ => 0))), ((u15 0 2), .inl (cI, 64, .inl (fun _ => 0)))] ++ wh6) := hD
  obtain ⟨wh7, hwh7⟩ : ∃ z : va_W, z = [(q14, .inr (5, [.int 0, .int 0, .ref (u15 0 0), .ref (u15 0 1), .ref (u15 0 2)])), ((u15 0 0), .inl (cI, 8, .inl (fun _ => 0))), ((u15 0 1), .inl (cI, 8, .inl (fun _ => 0))), ((u15 0 2), .inl (cI, 64, .inl (fun _ => 0)))] ++ wh6 := ⟨_, rfl⟩
  have hP : va_P D vwCl ([(h0, .inr (3, [.ref q1, .int 0, .int 0])), (q1, .inl (cQ, 10, .inr (.inr (.inr (.inr (va_up (va_up (va_up (va_up (va_up (va_up (va_up (fun _ => none) 0 (some q2)) 1 (some q4)) 2 (some q6)) 3 (some q8)) 4 (some q10)) 5 (some q12)) 6 (some q14)))))))] ++ wh7) H := by rw [hwh7]; exact hP
  have hD : va_D A ([(h0, .inr (3, [.ref q1, .int 0, .int 0])), (q1, .inl (cQ, 10, .inr (.inr (.inr (.inr (va_up (va_up (va_up (va_up (va_up (va_up (va_up (fun _ => none) 0 (some q2)) 1 (some q4)) 2 (some q6)) 3 (some q8)) 4 (some q10)) 5 (some q12)) 6 (some q14)))))))] ++ wh7) := by rw [hwh7]; exact hD
  refine lv_iinc (v := 7) (lv' := [(1, .int 7), (0, .ref h0)]) hx hb dX3_init_44 hl (k := 0) rfl (by decide) (by decide) rfl (fun ls hl => ?_)
  refine lv_goto (tgt := 25) hx hb dX3_init_47 (by decide) ?_
  refine lv_iload_n hx hb dX3_init_25 rfl (lv_at hl 0 rfl) ?_
  refine lv_bipush (v := 10) hx hb dX3_init_26 (by decide) ?_
  refine lv_icmp_ge (tgt := 50) hx hb dX3_init_28 (by decide) (fun c1 => absurd c1 (by decide)) (fun _ => ?_)
  refine lv_aload_n hx hb dX3_init_31 rfl (lv_at hl 1 rfl) ?_
  refine va_get (D := D) (ci := 3) (v := .ref q1) (C := RX3) (T := TX3) (N := 3) hx hb hts inTX3 hown hK hP 0 rfl rfl 0 (by decide) (hts _ q203) (fun _ h9 => h9) rfl dX3_init_32 ?_
  refine lv_iload_n hx hb dX3_init_35 rfl (lv_at hl 0 rfl) ?_
  refine va_new (ci := 5) (fs := [.int 0, .int 0, .null, .null, .null]) (C := RX5) (T := TX5) (N := 5) hx hb hts inTX5 tyX5 tyX5_ok hown (hts _ q200) (hts _ q163) (hts _ q43) hK hP hD hS hA rfl (fun j hj => by rcases (show j = 0 ∨ j = 1 ∨ j = 2 ∨ j = 3 ∨ j = 4 by omega) with rfl | rfl | rfl | rfl | rfl <;> rfl) (Nat.le_of_ble_eq_true rfl) (Nat.le_of_ble_eq_true rfl) dX3_init_36 (fun q16 H hP hD hS => ?_)
  have hP := hP.swap
  have hD := hD.swap
  have hP : va_P D vwCl ([(h0, .inr (3, [.ref q1, .int 0, .int 0])), (q1, .inl (cQ, 10, .inr (.inr (.inr (.inr (va_up (va_up (va_up (va_up (va_up (va_up (va_up (fun _ => none) 0 (some q2)) 1 (some q4)) 2 (some q6)) 3 (some q8)) 4 (some q10)) 5 (some q12)) 6 (some q14))))))), (q16, .inr (5, [.int 0, .int 0, .null, .null, .null]))] ++ wh7) H := hP
  have hD : va_D A ([(h0, .inr (3, [.ref q1, .int 0, .int 0])), (q1, .inl (cQ, 10, .inr (.inr (.inr (.inr (va_up (va_up (va_up (va_up (va_up (va_up (va_up (fun _ => none) 0 (some q2)) 1 (some q4)) 2 (some q6)) 3 (some q8)) 4 (some q10)) 5 (some q12)) 6 (some q14))))))), (q16, .inr (5, [.int 0, .int 0, .null, .null, .null]))] ++ wh7) := hD
  refine lv_dup hx hb dX3_init_39 rfl ?_
  have hPc := hP.sub (ws' := [(q16, .inr (5, [.int 0, .int 0, .null, .null, .null]))]) [2] rfl
  have hDc := hD.sub (ws' := [(q16, .inr (5, [.int 0, .int 0, .null, .null, .null]))]) [2] (by decide) rfl
  have hFc := va_free (wc := [(q16, .inr (5, [.int 0, .int 0, .null, .null, .null]))]) hD hS hA [2] rfl
  refine va_callv (va_runIN (As := []) (rest := [.ref q16, .int 7, .ref q1]) ⟨hx, hb, hml, hown, hts⟩ (tX5_init (h0 := q16) (sz := H.size)) ⟨va_cnB 0 hts (tb_one q166) rfl rfl rfl (hKW.2 ("HalfPlanks$History", 24, yX5_init, "HalfPlanks") (by decide +kernel)) (hts _ q43) (by decide +kernel) ⟨Nat.le_of_ble_eq_true rfl, Nat.le_of_ble_eq_true rfl⟩, rfl, hts _ q165⟩ ⟨kcB, fun U hU hW => ⟨rfl, by rw [hU], by rw [hU]; exact hPc, hKC.warm hW, hDc.weaken (fun _ _ _ _ => trivial)⟩⟩ rfl rfl hl.1 rfl (lv_room (Nat.le_of_ble_eq_true rfl)) dX3_init_40 ⟨Nat.le_of_ble_eq_true rfl, Nat.le_of_ble_eq_true rfl⟩) hS (fun q _ h => hFc q h) hFc (fun u17 t H1 locs ht hvm _ hB hz1 hk1 hS => ?_)
  obtain ⟨hP1, hD1⟩ := hB
  rw [ht] at hP1
  obtain ⟨hP, hD⟩ := va_joinQ (wr := [(h0, .inr (3, [.ref q1, .int 0, .int 0])), (q1, .inl (cQ, 10, .inr (.inr (.inr (.inr (va_up (va_up (va_up (va_up (va_up (va_up (va_up (fun _ => none) 0 (some q2)) 1 (some q4)) 2 (some q6)) 3 (some q8)) 4 (some q10)) 5 (some q12)) 6 (some q14)))))))]) (w1 := [(q16, .inr (5, [.int 0, .int 0, .ref (u17 0 0), .ref (u17 0 1), .ref (u17 0 2)])), ((u17 0 0), .inl (cI, 8, .inl (fun _ => 0))), ((u17 0 1), .inl (cI, 8, .inl (fun _ => 0))), ((u17 0 2), .inl (cI, 64, .inl (fun _ => 0)))]) hP hD [2] [0, 1] rfl rfl (by decide) (by decide) hk1 hFc hP1 hD1
  generalize H1 = H at hP hS ⊢
  have hP : va_P D vwCl ([(h0, .inr (3, [.ref q1, .int 0, .int 0])), (q1, .inl (cQ, 10, .inr (.inr (.inr (.inr (va_up (va_up (va_up (va_up (va_up (va_up (va_up (fun _ => none) 0 (some q2)) 1 (some q4)) 2 (some q6)) 3 (some q8)) 4 (some q10)) 5 (some q12)) 6 (some q14))))))), (q16, .inr (5, [.int 0, .int 0, .ref (u17 0 0), .ref (u17 0 1), .ref (u17 0 2)])), ((u17 0 0), .inl (cI, 8, .inl (fun _ => 0))), ((u17 0 1), .inl (cI, 8, .inl (fun _ => 0))), ((u17 0 2), .inl (cI, 64, .inl (fun _ => 0)))] ++ wh7) H := hP
  have hD : va_D A ([(h0, .inr (3, [.ref q1, .int 0, .int 0])), (q1, .inl (cQ, 10, .inr (.inr (.inr (.inr (va_up (va_up (va_up (va_up (va_up (va_up (va_up (fun _ => none) 0 (some q2)) 1 (some q4)) 2 (some q6)) 3 (some q8)) 4 (some q10)) 5 (some q12)) 6 (some q14))))))), (q16, .inr (5, [.int 0, .int 0, .ref (u17 0 0), .ref (u17 0 1), .ref (u17 0 2)])), ((u17 0 0), .inl (cI, 8, .inl (fun _ => 0))), ((u17 0 1), .inl (cI, 8, .inl (fun _ => 0))), ((u17 0 2), .inl (cI, 64, .inl (fun _ => 0)))] ++ wh7) := hD
  refine va_astq hx hb hK hP hD hS 1 2 2 5 rfl rfl rfl rfl (i := 7) (vp_in_nI (n := 7) (by decide) (by decide)) dX3_init_43 (fun H locs hP hD hS => ?_)
  have hP : va_P D vwCl ([(h0, .inr (3, [.ref q1, .int 0, .int 0])), (q1, .inl (cQ, 10, .inr (.inr (.inr (.inr (va_up (va_up (va_up (va_up (va_up (va_up (va_up (va_up (fun _ => none) 0 (some q2)) 1 (some q4)) 2 (some q6)) 3 (some q8)) 4 (some q10)) 5 (some q12)) 6 (some q14)) 7 (some q16))))))), (q16, .inr (5, [.int 0, .int 0, .ref (u17 0 0), .ref (u17 0 1), .ref (u17 0 2)])), ((u17 0 0), .inl (cI, 8, .inl (fun _ => 0))), ((u17 0 1), .inl (cI, 8, .inl (fun _ => 0))), ((u17 0 2), .inl (cI, 64, .inl (fun _ => 0)))] ++ wh7) H := hP
  have hD : va_D A ([(h0, .inr (3, [.ref q1, .int 0, .int 0])), (q1, .inl (cQ, 10, .inr (.inr (.inr (.inr (va_up (va_up (va_up (va_up (va_up (va_up (va_up (va_up (fun _ => none) 0 (some q2)) 1 (some q4)) 2 (some q6)) 3 (some q8)) 4 (some q10)) 5 (some q12)) 6 (some q14)) 7 (some q16))))))), (q16, .inr (5, [.int 0, .int 0, .ref (u17 0 0), .ref (u17 0 1), .ref (u17 0 2)])), ((u17 0 0), .inl (cI, 8, .inl (fun _ => 0))), ((u17 0 1), .inl (cI, 8, .inl (fun _ => 0))), ((u17 0 2), .inl (cI, 64, .inl (fun _ => 0)))] ++ wh7) := hD
  obtain ⟨wh8, hwh8⟩ : ∃ z : va_W, z = [(q16, .inr (5, [.int 0, .int 0, .ref (u17 0 0), .ref (u17 0 1), .ref (u17 0 2)])), ((u17 0 0), .inl (cI, 8, .inl (fun _ => 0))), ((u17 0 1), .inl (cI, 8, .inl (fun _ => 0))), ((u17 0 2), .inl (cI, 64, .inl (fun _ => 0)))] ++ wh7 := ⟨_, rfl⟩
  have hP : va_P D vwCl ([(h0, .inr (3, [.ref q1, .int 0, .int 0])), (q1, .inl (cQ, 10, .inr (.inr (.inr (.inr (va_up (va_up (va_up (va_up (va_up (va_up (va_up (va_up (fun _ => none) 0 (some q2)) 1 (some q4)) 2 (some q6)) 3 (some q8)) 4 (some q10)) 5 (some q12)) 6 (some q14)) 7 (some q16)))))))] ++ wh8) H := by rw [hwh8]; exact hP
  have hD : va_D A ([(h0, .inr (3, [.ref q1, .int 0, .int 0])), (q1, .inl (cQ, 10, .inr (.inr (.inr (.inr (va_up (va_up (va_up (va_up (va_up (va_up (va_up (va_up (fun _ => none) 0 (some q2)) 1 (some q4)) 2 (some q6)) 3 (some q8)) 4 (some q10)) 5 (some q12)) 6 (some q14)) 7 (some q16)))))))] ++ wh8) := by rw [hwh8]; exact hD
  refine lv_iinc (v := 8) (lv' := [(1, .int 8), (0, .ref h0)]) hx hb dX3_init_44 hl (k := 0) rfl (by decide) (by decide) rfl (fun ls hl => ?_)
  refine lv_goto (tgt := 25) hx hb dX3_init_47 (by decide) ?_
  refine lv_iload_n hx hb dX3_init_25 rfl (lv_at hl 0 rfl) ?_
  refine lv_bipush (v := 10) hx hb dX3_init_26 (by decide) ?_
  refine lv_icmp_ge (tgt := 50) hx hb dX3_init_28 (by decide) (fun c1 => absurd c1 (by decide)) (fun _ => ?_)
  refine lv_aload_n hx hb dX3_init_31 rfl (lv_at hl 1 rfl) ?_
  refine va_get (D := D) (ci := 3) (v := .ref q1) (C := RX3) (T := TX3) (N := 3) hx hb hts inTX3 hown hK hP 0 rfl rfl 0 (by decide) (hts _ q203) (fun _ h9 => h9) rfl dX3_init_32 ?_
  refine lv_iload_n hx hb dX3_init_35 rfl (lv_at hl 0 rfl) ?_
  refine va_new (ci := 5) (fs := [.int 0, .int 0, .null, .null, .null]) (C := RX5) (T := TX5) (N := 5) hx hb hts inTX5 tyX5 tyX5_ok hown (hts _ q200) (hts _ q163) (hts _ q43) hK hP hD hS hA rfl (fun j hj => by rcases (show j = 0 ∨ j = 1 ∨ j = 2 ∨ j = 3 ∨ j = 4 by omega) with rfl | rfl | rfl | rfl | rfl <;> rfl) (Nat.le_of_ble_eq_true rfl) (Nat.le_of_ble_eq_true rfl) dX3_init_36 (fun q18 H hP hD hS => ?_)
  have hP := hP.swap
  have hD := hD.swap
  have hP : va_P D vwCl ([(h0, .inr (3, [.ref q1, .int 0, .int 0])), (q1, .inl (cQ, 10, .inr (.inr (.inr (.inr (va_up (va_up (va_up (va_up (va_up (va_up (va_up (va_up (fun _ => none) 0 (some q2)) 1 (some q4)) 2 (some q6)) 3 (some q8)) 4 (some q10)) 5 (some q12)) 6 (some q14)) 7 (some q16))))))), (q18, .inr (5, [.int 0, .int 0, .null, .null, .null]))] ++ wh8) H := hP
  have hD : va_D A ([(h0, .inr (3, [.ref q1, .int 0, .int 0])), (q1, .inl (cQ, 10, .inr (.inr (.inr (.inr (va_up (va_up (va_up (va_up (va_up (va_up (va_up (va_up (fun _ => none) 0 (some q2)) 1 (some q4)) 2 (some q6)) 3 (some q8)) 4 (some q10)) 5 (some q12)) 6 (some q14)) 7 (some q16))))))), (q18, .inr (5, [.int 0, .int 0, .null, .null, .null]))] ++ wh8) := hD
  refine lv_dup hx hb dX3_init_39 rfl ?_
  have hPc := hP.sub (ws' := [(q18, .inr (5, [.int 0, .int 0, .null, .null, .null]))]) [2] rfl
  have hDc := hD.sub (ws' := [(q18, .inr (5, [.int 0, .int 0, .null, .null, .null]))]) [2] (by decide) rfl
  have hFc := va_free (wc := [(q18, .inr (5, [.int 0, .int 0, .null, .null, .null]))]) hD hS hA [2] rfl
  refine va_callv (va_runIN (As := []) (rest := [.ref q18, .int 8, .ref q1]) ⟨hx, hb, hml, hown, hts⟩ (tX5_init (h0 := q18) (sz := H.size)) ⟨va_cnB 0 hts (tb_one q166) rfl rfl rfl (hKW.2 ("HalfPlanks$History", 24, yX5_init, "HalfPlanks") (by decide +kernel)) (hts _ q43) (by decide +kernel) ⟨Nat.le_of_ble_eq_true rfl, Nat.le_of_ble_eq_true rfl⟩, rfl, hts _ q165⟩ ⟨kcB, fun U hU hW => ⟨rfl, by rw [hU], by rw [hU]; exact hPc, hKC.warm hW, hDc.weaken (fun _ _ _ _ => trivial)⟩⟩ rfl rfl hl.1 rfl (lv_room (Nat.le_of_ble_eq_true rfl)) dX3_init_40 ⟨Nat.le_of_ble_eq_true rfl, Nat.le_of_ble_eq_true rfl⟩) hS (fun q _ h => hFc q h) hFc (fun u19 t H1 locs ht hvm _ hB hz1 hk1 hS => ?_)
  obtain ⟨hP1, hD1⟩ := hB
  rw [ht] at hP1
  obtain ⟨hP, hD⟩ := va_joinQ (wr := [(h0, .inr (3, [.ref q1, .int 0, .int 0])), (q1, .inl (cQ, 10, .inr (.inr (.inr (.inr (va_up (va_up (va_up (va_up (va_up (va_up (va_up (va_up (fun _ => none) 0 (some q2)) 1 (some q4)) 2 (some q6)) 3 (some q8)) 4 (some q10)) 5 (some q12)) 6 (some q14)) 7 (some q16)))))))]) (w1 := [(q18, .inr (5, [.int 0, .int 0, .ref (u19 0 0), .ref (u19 0 1), .ref (u19 0 2)])), ((u19 0 0), .inl (cI, 8, .inl (fun _ => 0))), ((u19 0 1), .inl (cI, 8, .inl (fun _ => 0))), ((u19 0 2), .inl (cI, 64, .inl (fun _ => 0)))]) hP hD [2] [0, 1] rfl rfl (by decide) (by decide) hk1 hFc hP1 hD1
  generalize H1 = H at hP hS ⊢
  have hP : va_P D vwCl ([(h0, .inr (3, [.ref q1, .int 0, .int 0])), (q1, .inl (cQ, 10, .inr (.inr (.inr (.inr (va_up (va_up (va_up (va_up (va_up (va_up (va_up (va_up (fun _ => none) 0 (some q2)) 1 (some q4)) 2 (some q6)) 3 (some q8)) 4 (some q10)) 5 (some q12)) 6 (some q14)) 7 (some q16))))))), (q18, .inr (5, [.int 0, .int 0, .ref (u19 0 0), .ref (u19 0 1), .ref (u19 0 2)])), ((u19 0 0), .inl (cI, 8, .inl (fun _ => 0))), ((u19 0 1), .inl (cI, 8, .inl (fun _ => 0))), ((u19 0 2), .inl (cI, 64, .inl (fun _ => 0)))] ++ wh8) H := hP
  have hD : va_D A ([(h0, .inr (3, [.ref q1, .int 0, .int 0])), (q1, .inl (cQ, 10, .inr (.inr (.inr (.inr (va_up (va_up (va_up (va_up (va_up (va_up (va_up (va_up (fun _ => none) 0 (some q2)) 1 (some q4)) 2 (some q6)) 3 (some q8)) 4 (some q10)) 5 (some q12)) 6 (some q14)) 7 (some q16))))))), (q18, .inr (5, [.int 0, .int 0, .ref (u19 0 0), .ref (u19 0 1), .ref (u19 0 2)])), ((u19 0 0), .inl (cI, 8, .inl (fun _ => 0))), ((u19 0 1), .inl (cI, 8, .inl (fun _ => 0))), ((u19 0 2), .inl (cI, 64, .inl (fun _ => 0)))] ++ wh8) := hD
  refine va_astq hx hb hK hP hD hS 1 2 2 5 rfl rfl rfl rfl (i := 8) (vp_in_nI (n := 8) (by decide) (by decide)) dX3_init_43 (fun H locs hP hD hS => ?_)
  have hP : va_P D vwCl ([(h0, .inr (3, [.ref q1, .int 0, .int 0])), (q1, .inl (cQ, 10, .inr (.inr (.inr (.inr (va_up (va_up (va_up (va_up (va_up (va_up (va_up (va_up (va_up (fun _ => none) 0 (some q2)) 1 (some q4)) 2 (some q6)) 3 (some q8)) 4 (some q10)) 5 (some q12)) 6 (some q14)) 7 (some q16)) 8 (some q18))))))), (q18, .inr (5, [.int 0, .int 0, .ref (u19 0 0), .ref (u19 0 1), .ref (u19 0 2)])), ((u19 0 0), .inl (cI, 8, .inl (fun _ => 0))), ((u19 0 1), .inl (cI, 8, .inl (fun _ => 0))), ((u19 0 2), .inl (cI, 64, .inl (fun _ => 0)))] ++ wh8) H := hP
  have hD : va_D A ([(h0, .inr (3, [.ref q1, .int 0, .int 0])), (q1, .inl (cQ, 10, .inr (.inr (.inr (.inr (va_up (va_up (va_up (va_up (va_up (va_up (va_up (va_up (va_up (fun _ => none) 0 (some q2)) 1 (some q4)) 2 (some q6)) 3 (some q8)) 4 (some q10)) 5 (some q12)) 6 (some q14)) 7 (some q16)) 8 (some q18))))))), (q18, .inr (5, [.int 0, .int 0, .ref (u19 0 0), .ref (u19 0 1), .ref (u19 0 2)])), ((u19 0 0), .inl (cI, 8, .inl (fun _ => 0))), ((u19 0 1), .inl (cI, 8, .inl (fun _ => 0))), ((u19 0 2), .inl (cI, 64, .inl (fun _ => 0)))] ++ wh8) := hD
  obtain ⟨wh9, hwh9⟩ : ∃ z : va_W, z = [(q18, .inr (5, [.int 0, .int 0, .ref (u19 0 0), .ref (u19 0 1), .ref (u19 0 2)])), ((u19 0 0), .inl (cI, 8, .inl (fun _ => 0))), ((u19 0 1), .inl (cI, 8, .inl (fun _ => 0))), ((u19 0 2), .inl (cI, 64, .inl (fun _ => 0)))] ++ wh8 := ⟨_, rfl⟩
  have hP : va_P D vwCl ([(h0, .inr (3, [.ref q1, .int 0, .int 0])), (q1, .inl (cQ, 10, .inr (.inr (.inr (.inr (va_up (va_up (va_up (va_up (va_up (va_up (va_up (va_up (va_up (fun _ => none) 0 (some q2)) 1 (some q4)) 2 (some q6)) 3 (some q8)) 4 (some q10)) 5 (some q12)) 6 (some q14)) 7 (some q16)) 8 (some q18)))))))] ++ wh9) H := by rw [hwh9]; exact hP
  have hD : va_D A ([(h0, .inr (3, [.ref q1, .int 0, .int 0])), (q1, .inl (cQ, 10, .inr (.inr (.inr (.inr (va_up (va_up (va_up (va_up (va_up (va_up (va_up (va_up (va_up (fun _ => none) 0 (some q2)) 1 (some q4)) 2 (some q6)) 3 (some q8)) 4 (some q10)) 5 (some q12)) 6 (some q14)) 7 (some q16)) 8 (some q18)))))))] ++ wh9) := by rw [hwh9]; exact hD
  refine lv_iinc (v := 9) (lv' := [(1, .int 9), (0, .ref h0)]) hx hb dX3_init_44 hl (k := 0) rfl (by decide) (by decide) rfl (fun ls hl => ?_)
  refine lv_goto (tgt := 25) hx hb dX3_init_47 (by decide) ?_
  refine lv_iload_n hx hb dX3_init_25 rfl (lv_at hl 0 rfl) ?_
  refine lv_bipush (v := 10) hx hb dX3_init_26 (by decide) ?_
  refine lv_icmp_ge (tgt := 50) hx hb dX3_init_28 (by decide) (fun c1 => absurd c1 (by decide)) (fun _ => ?_)
  refine lv_aload_n hx hb dX3_init_31 rfl (lv_at hl 1 rfl) ?_
  refine va_get (D := D) (ci := 3) (v := .ref q1) (C := RX3) (T := TX3) (N := 3) hx hb hts inTX3 hown hK hP 0 rfl rfl 0 (by decide) (hts _ q203) (fun _ h9 => h9) rfl dX3_init_32 ?_
  refine lv_iload_n hx hb dX3_init_35 rfl (lv_at hl 0 rfl) ?_
  refine va_new (ci := 5) (fs := [.int 0, .int 0, .null, .null, .null]) (C := RX5) (T := TX5) (N := 5) hx hb hts inTX5 tyX5 tyX5_ok hown (hts _ q200) (hts _ q163) (hts _ q43) hK hP hD hS hA rfl (fun j hj => by rcases (show j = 0 ∨ j = 1 ∨ j = 2 ∨ j = 3 ∨ j = 4 by omega) with rfl | rfl | rfl | rfl | rfl <;> rfl) (Nat.le_of_ble_eq_true rfl) (Nat.le_of_ble_eq_true rfl) dX3_init_36 (fun q20 H hP hD hS => ?_)
  have hP := hP.swap
  have hD := hD.swap
  have hP : va_P D vwCl ([(h0, .inr (3, [.ref q1, .int 0, .int 0])), (q1, .inl (cQ, 10, .inr (.inr (.inr (.inr (va_up (va_up (va_up (va_up (va_up (va_up (va_up (va_up (va_up (fun _ => none) 0 (some q2)) 1 (some q4)) 2 (some q6)) 3 (some q8)) 4 (some q10)) 5 (some q12)) 6 (some q14)) 7 (some q16)) 8 (some q18))))))), (q20, .inr (5, [.int 0, .int 0, .null, .null, .null]))] ++ wh9) H := hP
  have hD : va_D A ([(h0, .inr (3, [.ref q1, .int 0, .int 0])), (q1, .inl (cQ, 10, .inr (.inr (.inr (.inr (va_up (va_up (va_up (va_up (va_up (va_up (va_up (va_up (va_up (fun _ => none) 0 (some q2)) 1 (some q4)) 2 (some q6)) 3 (some q8)) 4 (some q10)) 5 (some q12)) 6 (some q14)) 7 (some q16)) 8 (some q18))))))), (q20, .inr (5, [.int 0, .int 0, .null, .null, .null]))] ++ wh9) := hD
  refine lv_dup hx hb dX3_init_39 rfl ?_
  have hPc := hP.sub (ws' := [(q20, .inr (5, [.int 0, .int 0, .null, .null, .null]))]) [2] rfl
  have hDc := hD.sub (ws' := [(q20, .inr (5, [.int 0, .int 0, .null, .null, .null]))]) [2] (by decide) rfl
  have hFc := va_free (wc := [(q20, .inr (5, [.int 0, .int 0, .null, .null, .null]))]) hD hS hA [2] rfl
  refine va_callv (va_runIN (As := []) (rest := [.ref q20, .int 9, .ref q1]) ⟨hx, hb, hml, hown, hts⟩ (tX5_init (h0 := q20) (sz := H.size)) ⟨va_cnB 0 hts (tb_one q166) rfl rfl rfl (hKW.2 ("HalfPlanks$History", 24, yX5_init, "HalfPlanks") (by decide +kernel)) (hts _ q43) (by decide +kernel) ⟨Nat.le_of_ble_eq_true rfl, Nat.le_of_ble_eq_true rfl⟩, rfl, hts _ q165⟩ ⟨kcB, fun U hU hW => ⟨rfl, by rw [hU], by rw [hU]; exact hPc, hKC.warm hW, hDc.weaken (fun _ _ _ _ => trivial)⟩⟩ rfl rfl hl.1 rfl (lv_room (Nat.le_of_ble_eq_true rfl)) dX3_init_40 ⟨Nat.le_of_ble_eq_true rfl, Nat.le_of_ble_eq_true rfl⟩) hS (fun q _ h => hFc q h) hFc (fun u21 t H1 locs ht hvm _ hB hz1 hk1 hS => ?_)
  obtain ⟨hP1, hD1⟩ := hB
  rw [ht] at hP1
  obtain ⟨hP, hD⟩ := va_joinQ (wr := [(h0, .inr (3, [.ref q1, .int 0, .int 0])), (q1, .inl (cQ, 10, .inr (.inr (.inr (.inr (va_up (va_up (va_up (va_up (va_up (va_up (va_up (va_up (va_up (fun _ => none) 0 (some q2)) 1 (some q4)) 2 (some q6)) 3 (some q8)) 4 (some q10)) 5 (some q12)) 6 (some q14)) 7 (some q16)) 8 (some q18)))))))]) (w1 := [(q20, .inr (5, [.int 0, .int 0, .ref (u21 0 0), .ref (u21 0 1), .ref (u21 0 2)])), ((u21 0 0), .inl (cI, 8, .inl (fun _ => 0))), ((u21 0 1), .inl (cI, 8, .inl (fun _ => 0))), ((u21 0 2), .inl (cI, 64, .inl (fun _ => 0)))]) hP hD [2] [0, 1] rfl rfl (by decide) (by decide) hk1 hFc hP1 hD1
  generalize H1 = H at hP hS ⊢
  have hP : va_P D vwCl ([(h0, .inr (3, [.ref q1, .int 0, .int 0])), (q1, .inl (cQ, 10, .inr (.inr (.inr (.inr (va_up (va_up (va_up (va_up (va_up (va_up (va_up (va_up (va_up (fun _ => none) 0 (some q2)) 1 (some q4)) 2 (some q6)) 3 (some q8)) 4 (some q10)) 5 (some q12)) 6 (some q14)) 7 (some q16)) 8 (some q18))))))), (q20, .inr (5, [.int 0, .int 0, .ref (u21 0 0), .ref (u21 0 1), .ref (u21 0 2)])), ((u21 0 0), .inl (cI, 8, .inl (fun _ => 0))), ((u21 0 1), .inl (cI, 8, .inl (fun _ => 0))), ((u21 0 2), .inl (cI, 64, .inl (fun _ => 0)))] ++ wh9) H := hP
  have hD : va_D A ([(h0, .inr (3, [.ref q1, .int 0, .int 0])), (q1, .inl (cQ, 10, .inr (.inr (.inr (.inr (va_up (va_up (va_up (va_up (va_up (va_up (va_up (va_up (va_up (fun _ => none) 0 (some q2)) 1 (some q4)) 2 (some q6)) 3 (some q8)) 4 (some q10)) 5 (some q12)) 6 (some q14)) 7 (some q16)) 8 (some q18))))))), (q20, .inr (5, [.int 0, .int 0, .ref (u21 0 0), .ref (u21 0 1), .ref (u21 0 2)])), ((u21 0 0), .inl (cI, 8, .inl (fun _ => 0))), ((u21 0 1), .inl (cI, 8, .inl (fun _ => 0))), ((u21 0 2), .inl (cI, 64, .inl (fun _ => 0)))] ++ wh9) := hD
  refine va_astq hx hb hK hP hD hS 1 2 2 5 rfl rfl rfl rfl (i := 9) (vp_in_nI (n := 9) (by decide) (by decide)) dX3_init_43 (fun H locs hP hD hS => ?_)
  have hP : va_P D vwCl ([(h0, .inr (3, [.ref q1, .int 0, .int 0])), (q1, .inl (cQ, 10, .inr (.inr (.inr (.inr (va_up (va_up (va_up (va_up (va_up (va_up (va_up (va_up (va_up (va_up (fun _ => none) 0 (some q2)) 1 (some q4)) 2 (some q6)) 3 (some q8)) 4 (some q10)) 5 (some q12)) 6 (some q14)) 7 (some q16)) 8 (some q18)) 9 (some q20))))))), (q20, .inr (5, [.int 0, .int 0, .ref (u21 0 0), .ref (u21 0 1), .ref (u21 0 2)])), ((u21 0 0), .inl (cI, 8, .inl (fun _ => 0))), ((u21 0 1), .inl (cI, 8, .inl (fun _ => 0))), ((u21 0 2), .inl (cI, 64, .inl (fun _ => 0)))] ++ wh9) H := hP
  have hD : va_D A ([(h0, .inr (3, [.ref q1, .int 0, .int 0])), (q1, .inl (cQ, 10, .inr (.inr (.inr (.inr (va_up (va_up (va_up (va_up (va_up (va_up (va_up (va_up (va_up (va_up (fun _ => none) 0 (some q2)) 1 (some q4)) 2 (some q6)) 3 (some q8)) 4 (some q10)) 5 (some q12)) 6 (some q14)) 7 (some q16)) 8 (some q18)) 9 (some q20))))))), (q20, .inr (5, [.int 0, .int 0, .ref (u21 0 0), .ref (u21 0 1), .ref (u21 0 2)])), ((u21 0 0), .inl (cI, 8, .inl (fun _ => 0))), ((u21 0 1), .inl (cI, 8, .inl (fun _ => 0))), ((u21 0 2), .inl (cI, 64, .inl (fun _ => 0)))] ++ wh9) := hD
  obtain ⟨wh10, hwh10⟩ : ∃ z : va_W, z = [(q20, .inr (5, [.int 0, .int 0, .ref (u21 0 0), .ref (u21 0 1), .ref (u21 0 2)])), ((u21 0 0), .inl (cI, 8, .inl (fun _ => 0))), ((u21 0 1), .inl (cI, 8, .inl (fun _ => 0))), ((u21 0 2), .inl (cI, 64, .inl (fun _ => 0)))] ++ wh9 := ⟨_, rfl⟩
  have hP : va_P D vwCl ([(h0, .inr (3, [.ref q1, .int 0, .int 0])), (q1, .inl (cQ, 10, .inr (.inr (.inr (.inr (va_up (va_up (va_up (va_up (va_up (va_up (va_up (va_up (va_up (va_up (fun _ => none) 0 (some q2)) 1 (some q4)) 2 (some q6)) 3 (some q8)) 4 (some q10)) 5 (some q12)) 6 (some q14)) 7 (some q16)) 8 (some q18)) 9 (some q20)))))))] ++ wh10) H := by rw [hwh10]; exact hP
  have hD : va_D A ([(h0, .inr (3, [.ref q1, .int 0, .int 0])), (q1, .inl (cQ, 10, .inr (.inr (.inr (.inr (va_up (va_up (va_up (va_up (va_up (va_up (va_up (va_up (va_up (va_up (fun _ => none) 0 (some q2)) 1 (some q4)) 2 (some q6)) 3 (some q8)) 4 (some q10)) 5 (some q12)) 6 (some q14)) 7 (some q16)) 8 (some q18)) 9 (some q20)))))))] ++ wh10) := by rw [hwh10]; exact hD
  refine lv_iinc (v := 10) (lv' := [(1, .int 10), (0, .ref h0)]) hx hb dX3_init_44 hl (k := 0) rfl (by decide) (by decide) rfl (fun ls hl => ?_)
  refine lv_goto (tgt := 25) hx hb dX3_init_47 (by decide) ?_
  refine lv_iload_n hx hb dX3_init_25 rfl (lv_at hl 0 rfl) ?_
  refine lv_bipush (v := 10) hx hb dX3_init_26 (by decide) ?_
  refine lv_icmp_ge (tgt := 50) hx hb dX3_init_28 (by decide) (fun _ => ?_) (fun c1 => absurd (by decide) c1)
  rw [hwh10, hwh9, hwh8, hwh7, hwh6, hwh5, hwh4, hwh3, hwh2, hwh1, hwh] at hP hD
  clear hwh10 hwh9 hwh8 hwh7 hwh6 hwh5 hwh4 hwh3 hwh2 hwh1
  have hP : va_P D vwCl [(h0, .inr (3, [.ref q1, .int 0, .int 0])), (q1, .inl (cQ, 10, .inr (.inr (.inr (.inr (va_up (va_up (va_up (va_up (va_up (va_up (va_up (va_up (va_up (va_up (fun _ => none) 0 (some q2)) 1 (some q4)) 2 (some q6)) 3 (some q8)) 4 (some q10)) 5 (some q12)) 6 (some q14)) 7 (some q16)) 8 (some q18)) 9 (some q20))))))), (q20, .inr (5, [.int 0, .int 0, .ref (u21 0 0), .ref (u21 0 1), .ref (u21 0 2)])), ((u21 0 0), .inl (cI, 8, .inl (fun _ => 0))), ((u21 0 1), .inl (cI, 8, .inl (fun _ => 0))), ((u21 0 2), .inl (cI, 64, .inl (fun _ => 0))), (q18, .inr (5, [.int 0, .int 0, .ref (u19 0 0), .ref (u19 0 1), .ref (u19 0 2)])), ((u19 0 0), .inl (cI, 8, .inl (fun _ => 0))), ((u19 0 1), .inl (cI, 8, .inl (fun _ => 0))), ((u19 0 2), .inl (cI, 64, .inl (fun _ => 0))), (q16, .inr (5, [.int 0, .int 0, .ref (u17 0 0), .ref (u17 0 1), .ref (u17 0 2)])), ((u17 0 0), .inl (cI, 8, .inl (fun _ => 0))), ((u17 0 1), .inl (cI, 8, .inl (fun _ => 0))), ((u17 0 2), .inl (cI, 64, .inl (fun _ => 0))), (q14, .inr (5, [.int 0, .int 0, .ref (u15 0 0), .ref (u15 0 1), .ref (u15 0 2)])), ((u15 0 0), .inl (cI, 8, .inl (fun _ => 0))), ((u15 0 1), .inl (cI, 8, .inl (fun _ => 0))), ((u15 0 2), .inl (cI, 64, .inl (fun _ => 0))), (q12, .inr (5, [.int 0, .int 0, .ref (u13 0 0), .ref (u13 0 1), .ref (u13 0 2)])), ((u13 0 0), .inl (cI, 8, .inl (fun _ => 0))), ((u13 0 1), .inl (cI, 8, .inl (fun _ => 0))), ((u13 0 2), .inl (cI, 64, .inl (fun _ => 0))), (q10, .inr (5, [.int 0, .int 0, .ref (u11 0 0), .ref (u11 0 1), .ref (u11 0 2)])), ((u11 0 0), .inl (cI, 8, .inl (fun _ => 0))), ((u11 0 1), .inl (cI, 8, .inl (fun _ => 0))), ((u11 0 2), .inl (cI, 64, .inl (fun _ => 0))), (q8, .inr (5, [.int 0, .int 0, .ref (u9 0 0), .ref (u9 0 1), .ref (u9 0 2)])), ((u9 0 0), .inl (cI, 8, .inl (fun _ => 0))), ((u9 0 1), .inl (cI, 8, .inl (fun _ => 0))), ((u9 0 2), .inl (cI, 64, .inl (fun _ => 0))), (q6, .inr (5, [.int 0, .int 0, .ref (u7 0 0), .ref (u7 0 1), .ref (u7 0 2)])), ((u7 0 0), .inl (cI, 8, .inl (fun _ => 0))), ((u7 0 1), .inl (cI, 8, .inl (fun _ => 0))), ((u7 0 2), .inl (cI, 64, .inl (fun _ => 0))), (q4, .inr (5, [.int 0, .int 0, .ref (u5 0 0), .ref (u5 0 1), .ref (u5 0 2)])), ((u5 0 0), .inl (cI, 8, .inl (fun _ => 0))), ((u5 0 1), .inl (cI, 8, .inl (fun _ => 0))), ((u5 0 2), .inl (cI, 64, .inl (fun _ => 0))), (q2, .inr (5, [.int 0, .int 0, .ref (u3 0 0), .ref (u3 0 1), .ref (u3 0 2)])), ((u3 0 0), .inl (cI, 8, .inl (fun _ => 0))), ((u3 0 1), .inl (cI, 8, .inl (fun _ => 0))), ((u3 0 2), .inl (cI, 64, .inl (fun _ => 0)))] H := hP
  have hD : va_D A [(h0, .inr (3, [.ref q1, .int 0, .int 0])), (q1, .inl (cQ, 10, .inr (.inr (.inr (.inr (va_up (va_up (va_up (va_up (va_up (va_up (va_up (va_up (va_up (va_up (fun _ => none) 0 (some q2)) 1 (some q4)) 2 (some q6)) 3 (some q8)) 4 (some q10)) 5 (some q12)) 6 (some q14)) 7 (some q16)) 8 (some q18)) 9 (some q20))))))), (q20, .inr (5, [.int 0, .int 0, .ref (u21 0 0), .ref (u21 0 1), .ref (u21 0 2)])), ((u21 0 0), .inl (cI, 8, .inl (fun _ => 0))), ((u21 0 1), .inl (cI, 8, .inl (fun _ => 0))), ((u21 0 2), .inl (cI, 64, .inl (fun _ => 0))), (q18, .inr (5, [.int 0, .int 0, .ref (u19 0 0), .ref (u19 0 1), .ref (u19 0 2)])), ((u19 0 0), .inl (cI, 8, .inl (fun _ => 0))), ((u19 0 1), .inl (cI, 8, .inl (fun _ => 0))), ((u19 0 2), .inl (cI, 64, .inl (fun _ => 0))), (q16, .inr (5, [.int 0, .int 0, .ref (u17 0 0), .ref (u17 0 1), .ref (u17 0 2)])), ((u17 0 0), .inl (cI, 8, .inl (fun _ => 0))), ((u17 0 1), .inl (cI, 8, .inl (fun _ => 0))), ((u17 0 2), .inl (cI, 64, .inl (fun _ => 0))), (q14, .inr (5, [.int 0, .int 0, .ref (u15 0 0), .ref (u15 0 1), .ref (u15 0 2)])), ((u15 0 0), .inl (cI, 8, .inl (fun _ => 0))), ((u15 0 1), .inl (cI, 8, .inl (fun _ => 0))), ((u15 0 2), .inl (cI, 64, .inl (fun _ => 0))), (q12, .inr (5, [.int 0, .int 0, .ref (u13 0 0), .ref (u13 0 1), .ref (u13 0 2)])), ((u13 0 0), .inl (cI, 8, .inl (fun _ => 0))), ((u13 0 1), .inl (cI, 8, .inl (fun _ => 0))), ((u13 0 2), .inl (cI, 64, .inl (fun _ => 0))), (q10, .inr (5, [.int 0, .int 0, .ref (u11 0 0), .ref (u11 0 1), .ref (u11 0 2)])), ((u11 0 0), .inl (cI, 8, .inl (fun _ => 0))), ((u11 0 1), .inl (cI, 8, .inl (fun _ => 0))), ((u11 0 2), .inl (cI, 64, .inl (fun _ => 0))), (q8, .inr (5, [.int 0, .int 0, .ref (u9 0 0), .ref (u9 0 1), .ref (u9 0 2)])), ((u9 0 0), .inl (cI, 8, .inl (fun _ => 0))), ((u9 0 1), .inl (cI, 8, .inl (fun _ => 0))), ((u9 0 2), .inl (cI, 64, .inl (fun _ => 0))), (q6, .inr (5, [.int 0, .int 0, .ref (u7 0 0), .ref (u7 0 1), .ref (u7 0 2)])), ((u7 0 0), .inl (cI, 8, .inl (fun _ => 0))), ((u7 0 1), .inl (cI, 8, .inl (fun _ => 0))), ((u7 0 2), .inl (cI, 64, .inl (fun _ => 0))), (q4, .inr (5, [.int 0, .int 0, .ref (u5 0 0), .ref (u5 0 1), .ref (u5 0 2)])), ((u5 0 0), .inl (cI, 8, .inl (fun _ => 0))), ((u5 0 1), .inl (cI, 8, .inl (fun _ => 0))), ((u5 0 2), .inl (cI, 64, .inl (fun _ => 0))), (q2, .inr (5, [.int 0, .int 0, .ref (u3 0 0), .ref (u3 0 1), .ref (u3 0 2)])), ((u3 0 0), .inl (cI, 8, .inl (fun _ => 0))), ((u3 0 1), .inl (cI, 8, .inl (fun _ => 0))), ((u3 0 2), .inl (cI, 64, .inl (fun _ => 0)))] := hD
  obtain ⟨u, hu⟩ : ∃ u : Nat → Nat → Nat, u 0 0 = q1 ∧ u 1 0 = q2 ∧ u 1 1 = q4 ∧ u 1 2 = q6 ∧ u 1 3 = q8 ∧ u 1 4 = q10 ∧ u 1 5 = q12 ∧ u 1 6 = q14 ∧ u 1 7 = q16 ∧ u 1 8 = q18 ∧ u 1 9 = q20 ∧ u 2 0 = u3 0 0 ∧ u 2 1 = u5 0 0 ∧ u 2 2 = u7 0 0 ∧ u 2 3 = u9 0 0 ∧ u 2 4 = u11 0 0 ∧ u 2 5 = u13 0 0 ∧ u 2 6 = u15 0 0 ∧ u 2 7 = u17 0 0 ∧ u 2 8 = u19 0 0 ∧ u 2 9 = u21 0 0 ∧ u 3 0 = u3 0 1 ∧ u 3 1 = u5 0 1 ∧ u 3 2 = u7 0 1 ∧ u 3 3 = u9 0 1 ∧ u 3 4 = u11 0 1 ∧ u 3 5 = u13 0 1 ∧ u 3 6 = u15 0 1 ∧ u 3 7 = u17 0 1 ∧ u 3 8 = u19 0 1 ∧ u 3 9 = u21 0 1 ∧ u 4 0 = u3 0 2 ∧ u 4 1 = u5 0 2 ∧ u 4 2 = u7 0 2 ∧ u 4 3 = u9 0 2 ∧ u 4 4 = u11 0 2 ∧ u 4 5 = u13 0 2 ∧ u 4 6 = u15 0 2 ∧ u 4 7 = u17 0 2 ∧ u 4 8 = u19 0 2 ∧ u 4 9 = u21 0 2 := ⟨(fun i => ([(fun k => ([q1] : List Nat).getD k 0), (fun j => ([q2, q4, q6, q8, q10, q12, q14, q16, q18, q20] : List Nat).getD j 0), (fun j => ([(u3 0 0), (u5 0 0), (u7 0 0), (u9 0 0), (u11 0 0), (u13 0 0), (u15 0 0), (u17 0 0), (u19 0 0), (u21 0 0)] : List Nat).getD j 0), (fun j => ([(u3 0 1), (u5 0 1), (u7 0 1), (u9 0 1), (u11 0 1), (u13 0 1), (u15 0 1), (u17 0 1), (u19 0 1), (u21 0 1)] : List Nat).getD j 0), (fun j => ([(u3 0 2), (u5 0 2), (u7 0 2), (u9 0 2), (u11 0 2), (u13 0 2), (u15 0 2), (u17 0 2), (u19 0 2), (u21 0 2)] : List Nat).getD j 0)] : List (Nat → Nat)).getD i (fun _ => 0)), rfl, rfl, rfl, rfl, rfl, rfl, rfl, rfl, rfl, rfl, rfl, rfl, rfl, rfl, rfl, rfl, rfl, rfl, rfl, rfl, rfl, rfl, rfl, rfl, rfl, rfl, rfl, rfl, rfl, rfl, rfl, rfl, rfl, rfl, rfl, rfl, rfl, rfl, rfl, rfl, rfl⟩
  obtain ⟨e0, e1, e2, e3, e4, e5, e6, e7, e8, e9, e10, e11, e12, e13, e14, e15, e16, e17, e18, e19, e20, e21, e22, e23, e24, e25, e26, e27, e28, e29, e30, e31, e32, e33, e34, e35, e36, e37, e38, e39, e40⟩ := hu
  have hP := P_ref 1 (g := (fun j => some (u 1 j))) hP rfl (fun j hj => by rcases (show j = 0 ∨ j = 1 ∨ j = 2 ∨ j = 3 ∨ j = 4 ∨ j = 5 ∨ j = 6 ∨ j = 7 ∨ j = 8 ∨ j = 9 by omega) with rfl | rfl | rfl | rfl | rfl | rfl | rfl | rfl | rfl | rfl <;> (simp only [e0, e1, e2, e3, e4, e5, e6, e7, e8, e9, e10, e11, e12, e13, e14, e15, e16, e17, e18, e19, e20, e21, e22, e23, e24, e25, e26, e27, e28, e29, e30, e31, e32, e33, e34, e35, e36, e37, e38, e39, e40]; rfl))
  have hD := D_ref 1 (g := (fun j => some (u 1 j))) hD rfl
  exact W.vret hx hb hr (fun t ht hW => ⟨⟨u, rfl, trivial, by rw [ht]; simp only [e0, e1, e2, e3, e4, e5, e6, e7, e8, e9, e10, e11, e12, e13, e14, e15, e16, e17, e18, e19, e20, e21, e22, e23, e24, e25, e26, e27, e28, e29, e30, e31, e32, e33, e34, e35, e36, e37, e38, e39, e40]; exact hP, by simp only [e0, e1, e2, e3, e4, e5, e6, e7, e8, e9, e10, e11, e12, e13, e14, e15, e16, e17, e18, e19, e20, e21, e22, e23, e24, e25, e26, e27, e28, e29, e30, e31, e32, e33, e34, e35, e36, e37, e38, e39, e40]; exact hD⟩, hS.F ht⟩) hS.2.2 dX3_init_50
