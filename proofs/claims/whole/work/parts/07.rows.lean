theorem rj_s {n : Nat} {i : Int32} {j : Nat} {u : Unit} (h : rj n i j = some u) : vp_in i n ∧ i.toNatClampNeg = j := by
  unfold rj at h
  by_cases c : i < 0 ∨ n ≤ i.toNatClampNeg ∨ i.toNatClampNeg ≠ j
  · rw [if_pos c] at h; cases h
  · refine ⟨fun q => c (q.elim Or.inl (fun z => Or.inr (Or.inl z))), ?_⟩
    exact Classical.byContradiction fun q => c (Or.inr (Or.inr q))
theorem x_aald {p : Program} {l : Launch} {e : Env} {R : Room} {s : State} {m : MethodId} {args : Array Value} {below : List Frame} {meth : Method} {c : Code} {H : Heap} {locs : List Loc} {cells slots : Nat} {Q : State → Prop} {cc : ByteArray} {pc : Nat} {ls : Array Slot} {rest : List Value} {D : va_G} {cl : List vw_C} {a : Nat} {tys : List (ClassId × FieldType)} {ws : va_W} (hx : p.tables.exec = Jvm.exec) (hb : c.code = cc) (hK : va_K D cl tys s) (hP : va_P D cl ws H) (q0 t0 : Nat) {cA : ClassId} {C : String} {n : Nat} {g : Nat → Nat} (ha : ws[q0]? = some (a, .inl (cA, n, .inr (.inr (.inr (.inr (fun j => some (g j)))))))) (ht : tys[t0]? = some (cA, .object C)) {i : Int32} {j : Nat} {u : Unit} (hv : rj n i j = some u) (hdg : decode cc pc = .ok (.aaload, 1))
    (kk : W p l e R s m args below meth c H locs cells slots Q (F0 m (pc + 1) ls (.ref (g j) :: rest))) : W p l e R s m args below meth c H locs cells slots Q (F0 m pc ls (.int i :: .ref a :: rest)) := by
  obtain ⟨h1, rfl⟩ := rj_s hv
  exact va_aldq hx hb hK hP q0 t0 ha ht h1 hdg kk
