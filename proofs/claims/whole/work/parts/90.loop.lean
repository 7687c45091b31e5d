-- the law's loop
theorem lawEnd {L i : Nat} (hL : L ≤ 2048) (hi : i < 2 ^ 30) (h : ¬ nI L - 4 < nI i) : i + 4 ≤ L := by
  by_cases q : L < 4
  · exact absurd (Int32.lt_of_lt_of_le (show nI L - 4 < 0 from pk_sneg (b := 4) (by omega) q) (nI_pos' (by omega))) h
  · rw [show nI L - 4 = nI (L - 4) from nI_sub (b := 4) (by omega)] at h
    have : ¬ L - 4 < i := fun z => h (nI_lt z (by omega))
    omega
set_option maxHeartbeats 4000000 in
set_option maxRecDepth 100000 in
theorem law_loop {p : Program} {l : Launch} {e : Env} {s : State} {m : MethodId} {below : List Frame} {meth : Method} {c : Code} {b L : Nat} {xs : Nat → Int32} {D : va_G} {cI cZ cQ : ClassId} {adK adV : Nat → Nat} {qx qm : Nat} {ux um : Nat → Nat → Nat} (C0 : lw_At p s m meth c b L xs) (hKW : KW D (TY cI cZ cQ) s) (hSK : SK adK adV (fun q => s.heap.size ≤ q) s s.heap) (hL : L ≤ 2048) : ∀ (n i : Nat) (H : Heap) (locs : List Loc) (ls : Array Slot), L < i + 4 * n → i ≤ 4000 → INV D (fun q => s.heap.size ≤ q) cI cZ cQ qx ux qm um H → va_S (fun q => s.heap.size ≤ q) s.heap H locs → lv_has ls 4 [(3, .int (nI i)), (2, .ref qm), (1, .ref qx), (0, .ref b)] → W p l e room_1 s m #[Value.ref b] below meth c H locs 100 4000 (lw_Z below #[Value.ref b] s) (F0 m 18 ls []) := by
  obtain ⟨hx, hb, hr, hml, hown0, hts0, hX, hbl, hlocks, hgv⟩ := id C0
  have hbA : ¬ (fun q : Nat => s.heap.size ≤ q) b := Nat.not_le.mpr hbl
  intro n
  induction n with
  | zero =>
    intro i H locs ls h1 h2 hI hS hl
    refine lv_iload_n hx hb dL_law_18 rfl (lv_at hl 0 rfl) ?_
    refine lv_aload_n hx hb dL_law_19 rfl (lv_at hl 3 rfl) ?_
    refine va_slen hx hb hX hbl hbA hS dL_law_20 ?_
    refine lv_iconst (v := 4) hx hb dL_law_21 (by decide) ?_
    refine lv_isub hx hb dL_law_22 ?_
    refine lv_icmp_gt (tgt := 955) hx hb dL_law_23 (by decide) (fun _ => ?_) (fun h => ?_)
    · refine lv_iconst (v := 1) hx hb dL_law_955 (by decide) ?_
      refine va_forget (fun q hq => hS.2.2 q hq) ?_
      refine W.widen (k := 600000) (n := 7302250) (Nat.le_of_ble_eq_true rfl) (Nat.le_of_ble_eq_true rfl) ?_
      exact lw_ret hx hb hr hlocks dL_law_956
    · have := lawEnd hL (by omega) h
      omega
  | succ n ih =>
    intro i H locs ls h1 h2 hI hS hl
    refine lv_iload_n hx hb dL_law_18 rfl (lv_at hl 0 rfl) ?_
    refine lv_aload_n hx hb dL_law_19 rfl (lv_at hl 3 rfl) ?_
    refine va_slen hx hb hX hbl hbA hS dL_law_20 ?_
    refine lv_iconst (v := 4) hx hb dL_law_21 (by decide) ?_
    refine lv_isub hx hb dL_law_22 ?_
    refine lv_icmp_gt (tgt := 955) hx hb dL_law_23 (by decide) (fun _ => ?_) (fun h => ?_)
    · refine lv_iconst (v := 1) hx hb dL_law_955 (by decide) ?_
      refine va_forget (fun q hq => hS.2.2 q hq) ?_
      refine W.widen (k := 600000) (n := 7302250) (Nat.le_of_ble_eq_true rfl) (Nat.le_of_ble_eq_true rfl) ?_
      exact lw_ret hx hb hr hlocks dL_law_956
    have hi := lawEnd hL (by omega) h
    have K : ∀ (H1 : Heap) (locs1 : List Loc), INV D (fun q => s.heap.size ≤ q) cI cZ cQ qx ux qm um H1 → va_S (fun q => s.heap.size ≤ q) s.heap H1 locs1 → W p l e room_1 s m #[Value.ref b] below meth c H1 locs1 100 4000 (lw_Z below #[Value.ref b] s) (F0 m 949 ls []) := by
      intro H1 locs1 hI1 hS1
      refine lv_iinc (v := nI (i + 4)) (lv' := [(3, .int (nI (i + 4))), (2, .ref qm), (1, .ref qx), (0, .ref b)]) hx hb dL_law_949 hl (k := 0) rfl (show nI i + Int32.ofInt 4 = nI (i + 4) from nI_add i 4) (by decide) rfl (fun ls hl => ?_)
      refine lv_goto (tgt := 18) hx hb dL_law_952 (by decide) ?_
      exact ih (i + 4) H1 locs1 ls (by omega) (by omega) hI1 hS1 hl
    have hv : vp_in (nI i) L := vp_in_nI (by omega) (by omega)
    refine lv_aload_n hx hb dL_law_26 rfl (lv_at hl 3 rfl) ?_
    refine lv_iload_n hx hb dL_law_27 rfl (lv_at hl 0 rfl) ?_
    refine va_sld hx hb hX hbl hbA hS hv dL_law_28 ?_
    refine lv_bipush (v := 31) hx hb dL_law_29 (by decide) ?_
    refine lv_iand hx hb dL_law_31 ?_
    refine lv_topi (fun z ez => ?_)
    clear ez
    by_cases c0 : z = 0
    · refine lv_tableIn (off := 136) (tgt := 168) hx hb dL_law_32 (by rw [c0]; decide) (by rw [c0]; decide) (by rw [c0]; decide +kernel) (by decide) ?_
      exact INV_elim hI (fun _ _ _ _ _ _ _ _ _ _ _ _ _ _ _ _ _ _ _ _ _ _ _ _ _ _ _ _ _ _ _ _ _ _ _ _ _ _ _ _ _ _ _ _ _ _ _ _ _ _ _ _ _ _ _ _ _ _ _ _ _ _ _ _ _ _ _ _ _ _ _ _ _ _ _ _ _ hREL hP hD => op_type C0 hKW hSK hi hL hREL hP hD hS hl K)
    by_cases c1 : z = 1
    · refine lv_tableIn (off := 159) (tgt := 191) hx hb dL_law_32 (by rw [c1]; decide) (by rw [c1]; decide) (by rw [c1]; decide +kernel) (by decide) ?_
      exact INV_elim hI (fun _ _ _ _ _ _ _ _ _ _ _ _ _ _ _ _ _ _ _ _ _ _ _ _ _ _ _ _ _ _ _ _ _ _ _ _ _ _ _ _ _ _ _ _ _ _ _ _ _ _ _ _ _ _ _ _ _ _ _ _ _ _ _ _ _ _ _ _ _ _ _ _ _ _ _ _ _ hREL hP hD => op_clear C0 hKW hSK hi hL hREL hP hD hS hl K)
    by_cases c2 : z = 2
    · refine lv_tableIn (off := 172) (tgt := 204) hx hb dL_law_32 (by rw [c2]; decide) (by rw [c2]; decide) (by rw [c2]; decide +kernel) (by decide) ?_
      exact INV_elim hI (fun _ _ _ _ _ _ _ _ _ _ _ _ _ _ _ _ _ _ _ _ _ _ _ _ _ _ _ _ _ _ _ _ _ _ _ _ _ _ _ _ _ _ _ _ _ _ _ _ _ _ _ _ _ _ _ _ _ _ _ _ _ _ _ _ _ _ _ _ _ _ _ _ _ _ _ _ _ hREL hP hD => op_gorge C0 hKW hSK hi hL hREL hP hD hS hl K)
    by_cases c3 : z = 3
    · refine lv_tableIn (off := 185) (tgt := 217) hx hb dL_law_32 (by rw [c3]; decide) (by rw [c3]; decide) (by rw [c3]; decide +kernel) (by decide) ?_
      exact INV_elim hI (fun _ _ _ _ _ _ _ _ _ _ _ _ _ _ _ _ _ _ _ _ _ _ _ _ _ _ _ _ _ _ _ _ _ _ _ _ _ _ _ _ _ _ _ _ _ _ _ _ _ _ _ _ _ _ _ _ _ _ _ _ _ _ _ _ _ _ _ _ _ _ _ _ _ _ _ _ _ hREL hP hD => op_person C0 hKW hSK hi hL hREL hP hD hS hl K)
    by_cases c4 : z = 4
    · refine lv_tableIn (off := 218) (tgt := 250) hx hb dL_law_32 (by rw [c4]; decide) (by rw [c4]; decide) (by rw [c4]; decide +kernel) (by decide) ?_
      exact INV_elim hI (fun _ _ _ _ _ _ _ _ _ _ _ _ _ _ _ _ _ _ _ _ _ _ _ _ _ _ _ _ _ _ _ _ _ _ _ _ _ _ _ _ _ _ _ _ _ _ _ _ _ _ _ _ _ _ _ _ _ _ _ _ _ _ _ _ _ _ _ _ _ _ _ _ _ _ _ _ _ hREL hP hD => op_plank C0 hKW hSK hi hL hREL hP hD hS hl K)
    by_cases c5 : z = 5
    · refine lv_tableIn (off := 251) (tgt := 283) hx hb dL_law_32 (by rw [c5]; decide) (by rw [c5]; decide) (by rw [c5]; decide +kernel) (by decide) ?_
      exact INV_elim hI (fun _ _ _ _ _ _ _ _ _ _ _ _ _ _ _ _ _ _ _ _ _ _ _ _ _ _ _ _ _ _ _ _ _ _ _ _ _ _ _ _ _ _ _ _ _ _ _ _ _ _ _ _ _ _ _ _ _ _ _ _ _ _ _ _ _ _ _ _ _ _ _ _ _ _ _ _ _ hREL hP hD => op_hold C0 hKW hSK hi hL hREL hP hD hS hl K)
    by_cases c6 : z = 6
    · refine lv_tableIn (off := 284) (tgt := 316) hx hb dL_law_32 (by rw [c6]; decide) (by rw [c6]; decide) (by rw [c6]; decide +kernel) (by decide) ?_
      exact INV_elim hI (fun _ _ _ _ _ _ _ _ _ _ _ _ _ _ _ _ _ _ _ _ _ _ _ _ _ _ _ _ _ _ _ _ _ _ _ _ _ _ _ _ _ _ _ _ _ _ _ _ _ _ _ _ _ _ _ _ _ _ _ _ _ _ _ _ _ _ _ _ _ _ _ _ _ _ _ _ _ hREL hP hD => op_now C0 hKW hSK hi hL hREL hP hD hS hl K)
    by_cases c7 : z = 7
    · refine lv_tableIn (off := 307) (tgt := 339) hx hb dL_law_32 (by rw [c7]; decide) (by rw [c7]; decide) (by rw [c7]; decide +kernel) (by decide) ?_
      exact INV_elim hI (fun _ _ _ _ _ _ _ _ _ _ _ _ _ _ _ _ _ _ _ _ _ _ _ _ _ _ _ _ _ _ _ _ _ _ _ _ _ _ _ _ _ _ _ _ _ _ _ _ _ _ _ _ _ _ _ _ _ _ _ _ _ _ _ _ _ _ _ _ _ _ _ _ _ _ _ _ _ hREL hP hD => op_promises C0 hKW hSK hi hL hREL hP hD hS hl K)
    by_cases c8 : z = 8
    · refine lv_tableIn (off := 340) (tgt := 372) hx hb dL_law_32 (by rw [c8]; decide) (by rw [c8]; decide) (by rw [c8]; decide +kernel) (by decide) ?_
      exact INV_elim hI (fun _ _ _ _ _ _ _ _ _ _ _ _ _ _ _ _ _ _ _ _ _ _ _ _ _ _ _ _ _ _ _ _ _ _ _ _ _ _ _ _ _ _ _ _ _ _ _ _ _ _ _ _ _ _ _ _ _ _ _ _ _ _ _ _ _ _ _ _ _ _ _ _ _ _ _ _ _ hREL hP hD => op_breaks C0 hKW hSK hi hL hREL hP hD hS hl K)
    by_cases c9 : z = 9
    · refine lv_tableIn (off := 373) (tgt := 405) hx hb dL_law_32 (by rw [c9]; decide) (by rw [c9]; decide) (by rw [c9]; decide +kernel) (by decide) ?_
      exact INV_elim hI (fun _ _ _ _ _ _ _ _ _ _ _ _ _ _ _ _ _ _ _ _ _ _ _ _ _ _ _ _ _ _ _ _ _ _ _ _ _ _ _ _ _ _ _ _ _ _ _ _ _ _ _ _ _ _ _ _ _ _ _ _ _ _ _ _ _ _ _ _ _ _ _ _ _ _ _ _ _ hREL hP hD => op_days C0 hKW hSK hi hL hREL hP hD hS hl K)
    by_cases c10 : z = 10
    · refine lv_tableIn (off := 386) (tgt := 418) hx hb dL_law_32 (by rw [c10]; decide) (by rw [c10]; decide) (by rw [c10]; decide +kernel) (by decide) ?_
      exact INV_elim hI (fun _ _ _ _ _ _ _ _ _ _ _ _ _ _ _ _ _ _ _ _ _ _ _ _ _ _ _ _ _ _ _ _ _ _ _ _ _ _ _ _ _ _ _ _ _ _ _ _ _ _ _ _ _ _ _ _ _ _ _ _ _ _ _ _ _ _ _ _ _ _ _ _ _ _ _ _ _ hREL hP hD => op_crosses C0 hKW hSK hi hL hREL hP hD hS hl K)
    by_cases c11 : z = 11
    · refine lv_tableIn (off := 409) (tgt := 441) hx hb dL_law_32 (by rw [c11]; decide) (by rw [c11]; decide) (by rw [c11]; decide +kernel) (by decide) ?_
      exact INV_elim hI (fun _ _ _ _ _ _ _ _ _ _ _ _ _ _ _ _ _ _ _ _ _ _ _ _ _ _ _ _ _ _ _ _ _ _ _ _ _ _ _ _ _ _ _ _ _ _ _ _ _ _ _ _ _ _ _ _ _ _ _ _ _ _ _ _ _ _ _ _ _ _ _ _ _ _ _ _ _ hREL hP hD => op_undo C0 hKW hSK hi hL hREL hP hD hS hl K)
    by_cases c12 : z = 12
    · refine lv_tableIn (off := 422) (tgt := 454) hx hb dL_law_32 (by rw [c12]; decide) (by rw [c12]; decide) (by rw [c12]; decide +kernel) (by decide) ?_
      exact INV_elim hI (fun _ _ _ _ _ _ _ _ _ _ _ _ _ _ _ _ _ _ _ _ _ _ _ _ _ _ _ _ _ _ _ _ _ _ _ _ _ _ _ _ _ _ _ _ _ _ _ _ _ _ _ _ _ _ _ _ _ _ _ _ _ _ _ _ _ _ _ _ _ _ _ _ _ _ _ _ _ hREL hP hD => op_when C0 hKW hSK hi hL hREL hP hD hS hl K)
    by_cases c13 : z = 13
    · refine lv_tableIn (off := 445) (tgt := 477) hx hb dL_law_32 (by rw [c13]; decide) (by rw [c13]; decide) (by rw [c13]; decide +kernel) (by decide) ?_
      exact INV_elim hI (fun _ _ _ _ _ _ _ _ _ _ _ _ _ _ _ _ _ _ _ _ _ _ _ _ _ _ _ _ _ _ _ _ _ _ _ _ _ _ _ _ _ _ _ _ _ _ _ _ _ _ _ _ _ _ _ _ _ _ _ _ _ _ _ _ _ _ _ _ _ _ _ _ _ _ _ _ _ hREL hP hD => op_fewest C0 hKW hSK hi hL hREL hP hD hS hl K)
    by_cases c14 : z = 14
    · refine lv_tableIn (off := 478) (tgt := 510) hx hb dL_law_32 (by rw [c14]; decide) (by rw [c14]; decide) (by rw [c14]; decide +kernel) (by decide) ?_
      exact INV_elim hI (fun _ _ _ _ _ _ _ _ _ _ _ _ _ _ _ _ _ _ _ _ _ _ _ _ _ _ _ _ _ _ _ _ _ _ _ _ _ _ _ _ _ _ _ _ _ _ _ _ _ _ _ _ _ _ _ _ _ _ _ _ _ _ _ _ _ _ _ _ _ _ _ _ _ _ _ _ _ hREL hP hD => op_soon C0 hKW hSK hi hL hREL hP hD hS hl K)
    by_cases c15 : z = 15
    · refine lv_tableIn (off := 501) (tgt := 533) hx hb dL_law_32 (by rw [c15]; decide) (by rw [c15]; decide) (by rw [c15]; decide +kernel) (by decide) ?_
      exact INV_elim hI (fun _ _ _ _ _ _ _ _ _ _ _ _ _ _ _ _ _ _ _ _ _ _ _ _ _ _ _ _ _ _ _ _ _ _ _ _ _ _ _ _ _ _ _ _ _ _ _ _ _ _ _ _ _ _ _ _ _ _ _ _ _ _ _ _ _ _ _ _ _ _ _ _ _ _ _ _ _ hREL hP hD => op_pair C0 hKW hSK hi hL hREL hP hD hS hl K)
    by_cases c16 : z = 16
    · refine lv_tableIn (off := 544) (tgt := 576) hx hb dL_law_32 (by rw [c16]; decide) (by rw [c16]; decide) (by rw [c16]; decide +kernel) (by decide) ?_
      exact INV_elim hI (fun _ _ _ _ _ _ _ _ _ _ _ _ _ _ _ _ _ _ _ _ _ _ _ _ _ _ _ _ _ _ _ _ _ _ _ _ _ _ _ _ _ _ _ _ _ _ _ _ _ _ _ _ _ _ _ _ _ _ _ _ _ _ _ _ _ _ _ _ _ _ _ _ _ _ _ _ _ hREL hP hD => op_enough C0 hKW hSK hi hL hREL hP hD hS hl K)
    by_cases c17 : z = 17
    · refine lv_tableIn (off := 567) (tgt := 599) hx hb dL_law_32 (by rw [c17]; decide) (by rw [c17]; decide) (by rw [c17]; decide +kernel) (by decide) ?_
      exact INV_elim hI (fun _ _ _ _ _ _ _ _ _ _ _ _ _ _ _ _ _ _ _ _ _ _ _ _ _ _ _ _ _ _ _ _ _ _ _ _ _ _ _ _ _ _ _ _ _ _ _ _ _ _ _ _ _ _ _ _ _ _ _ _ _ _ _ _ _ _ _ _ _ _ _ _ _ _ _ _ _ hREL hP hD => op_friends C0 hKW hSK hi hL hREL hP hD hS hl K)
    by_cases c18 : z = 18
    · refine lv_tableIn (off := 590) (tgt := 622) hx hb dL_law_32 (by rw [c18]; decide) (by rw [c18]; decide) (by rw [c18]; decide +kernel) (by decide) ?_
      exact INV_elim hI (fun _ _ _ _ _ _ _ _ _ _ _ _ _ _ _ _ _ _ _ _ _ _ _ _ _ _ _ _ _ _ _ _ _ _ _ _ _ _ _ _ _ _ _ _ _ _ _ _ _ _ _ _ _ _ _ _ _ _ _ _ _ _ _ _ _ _ _ _ _ _ _ _ _ _ _ _ _ hREL hP hD => op_byTurns C0 hKW hSK hi hL hREL hP hD hS hl K)
    by_cases c19 : z = 19
    · refine lv_tableIn (off := 613) (tgt := 645) hx hb dL_law_32 (by rw [c19]; decide) (by rw [c19]; decide) (by rw [c19]; decide +kernel) (by decide) ?_
      exact INV_elim hI (fun _ _ _ _ _ _ _ _ _ _ _ _ _ _ _ _ _ _ _ _ _ _ _ _ _ _ _ _ _ _ _ _ _ _ _ _ _ _ _ _ _ _ _ _ _ _ _ _ _ _ _ _ _ _ _ _ _ _ _ _ _ _ _ _ _ _ _ _ _ _ _ _ _ _ _ _ _ hREL hP hD => op_odds C0 hKW hSK hi hL hREL hP hD hS hl K)
    by_cases c20 : z = 20
    · refine lv_tableIn (off := 656) (tgt := 688) hx hb dL_law_32 (by rw [c20]; decide) (by rw [c20]; decide) (by rw [c20]; decide +kernel) (by decide) ?_
      exact INV_elim hI (fun _ _ _ _ _ _ _ _ _ _ _ _ _ _ _ _ _ _ _ _ _ _ _ _ _ _ _ _ _ _ _ _ _ _ _ _ _ _ _ _ _ _ _ _ _ _ _ _ _ _ _ _ _ _ _ _ _ _ _ _ _ _ _ _ _ _ _ _ _ _ _ _ _ _ _ _ _ hREL hP hD => op_winter C0 hKW hSK hi hL hREL hP hD hS hl K)
    by_cases c21 : z = 21
    · refine lv_tableIn (off := 699) (tgt := 731) hx hb dL_law_32 (by rw [c21]; decide) (by rw [c21]; decide) (by rw [c21]; decide +kernel) (by decide) ?_
      exact INV_elim hI (fun _ _ _ _ _ _ _ _ _ _ _ _ _ _ _ _ _ _ _ _ _ _ _ _ _ _ _ _ _ _ _ _ _ _ _ _ _ _ _ _ _ _ _ _ _ _ _ _ _ _ _ _ _ _ _ _ _ _ _ _ _ _ _ _ _ _ _ _ _ _ _ _ _ _ _ _ _ hREL hP hD => op_sees C0 hKW hSK hi hL hREL hP hD hS hl K)
    by_cases c22 : z = 22
    · refine lv_tableIn (off := 732) (tgt := 764) hx hb dL_law_32 (by rw [c22]; decide) (by rw [c22]; decide) (by rw [c22]; decide +kernel) (by decide) ?_
      exact INV_elim hI (fun _ _ _ _ _ _ _ _ _ _ _ _ _ _ _ _ _ _ _ _ _ _ _ _ _ _ _ _ _ _ _ _ _ _ _ _ _ _ _ _ _ _ _ _ _ _ _ _ _ _ _ _ _ _ _ _ _ _ _ _ _ _ _ _ _ _ _ _ _ _ _ _ _ _ _ _ _ hREL hP hD => op_forget C0 hKW hSK hi hL hREL hP hD hS hl K)
    by_cases c23 : z = 23
    · refine lv_tableIn (off := 745) (tgt := 777) hx hb dL_law_32 (by rw [c23]; decide) (by rw [c23]; decide) (by rw [c23]; decide +kernel) (by decide) ?_
      exact INV_elim hI (fun _ _ _ _ _ _ _ _ _ _ _ _ _ _ _ _ _ _ _ _ _ _ _ _ _ _ _ _ _ _ _ _ _ _ _ _ _ _ _ _ _ _ _ _ _ _ _ _ _ _ _ _ _ _ _ _ _ _ _ _ _ _ _ _ _ _ _ _ _ _ _ _ _ _ _ _ _ hREL hP hD => op_words C0 hKW hSK hi hL hREL hP hD hS hl K)
    by_cases c24 : z = 24
    · refine lv_tableIn (off := 778) (tgt := 810) hx hb dL_law_32 (by rw [c24]; decide) (by rw [c24]; decide) (by rw [c24]; decide +kernel) (by decide) ?_
      exact INV_elim hI (fun _ _ _ _ _ _ _ _ _ _ _ _ _ _ _ _ _ _ _ _ _ _ _ _ _ _ _ _ _ _ _ _ _ _ _ _ _ _ _ _ _ _ _ _ _ _ _ _ _ _ _ _ _ _ _ _ _ _ _ _ _ _ _ _ _ _ _ _ _ _ _ _ _ _ _ _ _ hREL hP hD => op_next C0 hKW hSK hi hL hREL hP hD hS hl K)
    by_cases c25 : z = 25
    · refine lv_tableIn (off := 801) (tgt := 833) hx hb dL_law_32 (by rw [c25]; decide) (by rw [c25]; decide) (by rw [c25]; decide +kernel) (by decide) ?_
      exact INV_elim hI (fun _ _ _ _ _ _ _ _ _ _ _ _ _ _ _ _ _ _ _ _ _ _ _ _ _ _ _ _ _ _ _ _ _ _ _ _ _ _ _ _ _ _ _ _ _ _ _ _ _ _ _ _ _ _ _ _ _ _ _ _ _ _ _ _ _ _ _ _ _ _ _ _ _ _ _ _ _ hREL hP hD => op_rate C0 hKW hSK hi hL hREL hP hD hS hl K)
    by_cases c26 : z = 26
    · refine lv_tableIn (off := 834) (tgt := 866) hx hb dL_law_32 (by rw [c26]; decide) (by rw [c26]; decide) (by rw [c26]; decide +kernel) (by decide) ?_
      exact INV_elim hI (fun _ _ _ _ _ _ _ _ _ _ _ _ _ _ _ _ _ _ _ _ _ _ _ _ _ _ _ _ _ _ _ _ _ _ _ _ _ _ _ _ _ _ _ _ _ _ _ _ _ _ _ _ _ _ _ _ _ _ _ _ _ _ _ _ _ _ _ _ _ _ _ _ _ _ _ _ _ hREL hP hD => op_keep C0 hKW hSK hi hL hREL hP hD hS hl K)
    by_cases c27 : z = 27
    · refine lv_tableIn (off := 857) (tgt := 889) hx hb dL_law_32 (by rw [c27]; decide) (by rw [c27]; decide) (by rw [c27]; decide +kernel) (by decide) ?_
      exact INV_elim hI (fun _ _ _ _ _ _ _ _ _ _ _ _ _ _ _ _ _ _ _ _ _ _ _ _ _ _ _ _ _ _ _ _ _ _ _ _ _ _ _ _ _ _ _ _ _ _ _ _ _ _ _ _ _ _ _ _ _ _ _ _ _ _ _ _ _ _ _ _ _ _ _ _ _ _ _ _ _ hREL hP hD => op_back C0 hKW hSK hi hL hREL hP hD hS hl K)
    by_cases c28 : z = 28
    · refine lv_tableIn (off := 880) (tgt := 912) hx hb dL_law_32 (by rw [c28]; decide) (by rw [c28]; decide) (by rw [c28]; decide +kernel) (by decide) ?_
      exact INV_elim hI (fun _ _ _ _ _ _ _ _ _ _ _ _ _ _ _ _ _ _ _ _ _ _ _ _ _ _ _ _ _ _ _ _ _ _ _ _ _ _ _ _ _ _ _ _ _ _ _ _ _ _ _ _ _ _ _ _ _ _ _ _ _ _ _ _ _ _ _ _ _ _ _ _ _ _ _ _ _ hREL hP hD => op_count C0 hKW hSK hi hL hREL hP hD hS hl K)
    by_cases c29 : z = 29
    · refine lv_tableIn (off := 903) (tgt := 935) hx hb dL_law_32 (by rw [c29]; decide) (by rw [c29]; decide) (by rw [c29]; decide +kernel) (by decide) ?_
      exact INV_elim hI (fun _ _ _ _ _ _ _ _ _ _ _ _ _ _ _ _ _ _ _ _ _ _ _ _ _ _ _ _ _ _ _ _ _ _ _ _ _ _ _ _ _ _ _ _ _ _ _ _ _ _ _ _ _ _ _ _ _ _ _ _ _ _ _ _ _ _ _ _ _ _ _ _ _ _ _ _ _ hREL hP hD => op_trace C0 hKW hSK hi hL hREL hP hD hS hl K)
    refine lv_tableOut (tgt := 949) hx hb dL_law_32 (by have := lv_neT (a := 0) c0 (by decide); have := lv_neT (a := 1) c1 (by decide); have := lv_neT (a := 2) c2 (by decide); have := lv_neT (a := 3) c3 (by decide); have := lv_neT (a := 4) c4 (by decide); have := lv_neT (a := 5) c5 (by decide); have := lv_neT (a := 6) c6 (by decide); have := lv_neT (a := 7) c7 (by decide); have := lv_neT (a := 8) c8 (by decide); have := lv_neT (a := 9) c9 (by decide); have := lv_neT (a := 10) c10 (by decide); have := lv_neT (a := 11) c11 (by decide); have := lv_neT (a := 12) c12 (by decide); have := lv_neT (a := 13) c13 (by decide); have := lv_neT (a := 14) c14 (by decide); have := lv_neT (a := 15) c15 (by decide); have := lv_neT (a := 16) c16 (by decide); have := lv_neT (a := 17) c17 (by decide); have := lv_neT (a := 18) c18 (by decide); have := lv_neT (a := 19) c19 (by decide); have := lv_neT (a := 20) c20 (by decide); have := lv_neT (a := 21) c21 (by decide); have := lv_neT (a := 22) c22 (by decide); have := lv_neT (a := 23) c23 (by decide); have := lv_neT (a := 24) c24 (by decide); have := lv_neT (a := 25) c25 (by decide); have := lv_neT (a := 26) c26 (by decide); have := lv_neT (a := 27) c27 (by decide); have := lv_neT (a := 28) c28 (by decide); have := lv_neT (a := 29) c29 (by decide); omega) (by decide) ?_
    exact K H locs hI hS
