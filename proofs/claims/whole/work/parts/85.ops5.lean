-- the calls of the law
set_option maxHeartbeats 4000000 in
set_option maxRecDepth 100000 in
theorem op_promises {p : Program} {l : Launch} {e : Env} {s : State} {m : MethodId} {below : List Frame} {meth : Method} {c : Code} {b L : Nat} {xs : Nat → Int32} {D : va_G} {cI cZ cQ : ClassId} {adK adV : Nat → Nat} {qx qm : Nat} {ux um : Nat → Nat → Nat} (C0 : lw_At p s m meth c b L xs) (hKW : KW D (TY cI cZ cQ) s) (hSK : SK adK adV (fun q => s.heap.size ≤ q) s s.heap) {i : Nat} (hi : i + 4 ≤ L) (hL : L ≤ 2048) {H : Heap} {locs : List Loc} {z_typed : Int32} {z_reader_length : Int32} {z_reader_at : Int32} {z_reader_place : Int32} {z_reader_token : Int32} {z_reader_value : Int32} {z_draft_planks : Int32} {z_draft_size : Int32} {z_draft_sworn : Int32} {z_folk_planks : Int32} {z_folk_size : Int32} {z_folk_sworn : Int32} {z_present_day : Int32} {z_present_crossed : Int32} {z_history_known : Int32} {z_history_top : Int32} {z_gambler_trial_day : Int32} {z_gambler_trial_crossed : Int32} {z_guesser_seen : Int32} {z_guesser_least : Int32} {z_guesser_greatest : Int32} {z_traced : Int64} {z_letters : Nat → Int32} {z_draft_bank : Nat → Int32} {z_draft_kind : Nat → Int32} {z_draft_word : Nat → Int32} {z_draft_slow : Nat → Int32} {z_draft_told : Nat → Int32} {z_folk_bank : Nat → Int32} {z_folk_kind : Nat → Int32} {z_folk_word : Nat → Int32} {z_folk_slow : Nat → Int32} {z_folk_told : Nat → Int32} {z_strength_borne : Nat → Int32} {z_present_came : Nat → Int32} {z_present_under : Nat → Int32} {z_present_due : Nat → Int32} {z_kept : Nat → Int32} {z_gambler_trial_came : Nat → Int32} {z_gambler_trial_under : Nat → Int32} {z_gambler_trial_due : Nat → Int32} {z_guesser_load : Nat → Int32} {z_guesser_over : Nat → Int32} {z_guesser_borne : Nat → Int32} {rc : Nat → Nat → Int32} {ru : Nat → Nat → Int32} {rdu : Nat → Nat → Int32} {ic : Nat → Nat → Int32} {iu : Nat → Nat → Int32} {idu : Nat → Nat → Int32} {rday : Nat → Int32} {rcr : Nat → Int32} {iday : Nat → Int32} {icr : Nat → Int32} {y_thrown : Int32} {y_typed : Int32} {y_at : Int32} {y_token : Int32} {y_place : Int32} {y_value : Int32} {y_fault : Int32} {y_undoMany : Int32} {y_seenMany : Int32} {y_trace : Int64} {y_text : Nat → Int32} {y_told : Nat → Int32} {y_draft : Nat → Int32} {y_draftNow : Nat → Int32} {y_s : Nat → Int32} {y_w : Nat → Int32} {y_v : Nat → Int32} {y_kept : Nat → Int32} {y_isKept : Nat → Int32} {y_undos : Nat → Int32} {y_seenLoad : Nat → Int32} {y_seenOver : Nat → Int32} {y_byTaken : Nat → Int32} (hREL : REL z_typed z_letters z_folk_planks z_folk_size z_folk_sworn z_folk_bank z_folk_kind z_folk_word z_folk_slow z_strength_borne z_present_day z_present_crossed z_present_came z_present_under z_present_due z_history_known z_history_top rday rcr rc ru rdu z_kept iday icr ic iu idu z_guesser_seen z_guesser_load z_guesser_over z_traced y_typed y_text y_told y_s y_undoMany y_undos y_isKept y_kept y_seenMany y_seenLoad y_seenOver y_trace) (hP : va_P D vwCl (WM cI cZ qm um y_thrown y_typed y_at y_token y_place y_value y_fault y_undoMany y_seenMany y_trace y_text y_told y_draft y_draftNow y_s y_w y_v y_kept y_isKept y_undos y_seenLoad y_seenOver y_byTaken ++ WX cI cZ cQ qx ux z_typed z_reader_length z_reader_at z_reader_place z_reader_token z_reader_value z_draft_planks z_draft_size z_draft_sworn z_folk_planks z_folk_size z_folk_sworn z_present_day z_present_crossed z_history_known z_history_top z_gambler_trial_day z_gambler_trial_crossed z_guesser_seen z_guesser_least z_guesser_greatest z_traced z_letters z_draft_bank z_draft_kind z_draft_word z_draft_slow z_draft_told z_folk_bank z_folk_kind z_folk_word z_folk_slow z_folk_told z_strength_borne z_present_came z_present_under z_present_due z_kept z_gambler_trial_came z_gambler_trial_under z_gambler_trial_due z_guesser_load z_guesser_over z_guesser_borne rc ru rdu ic iu idu rday rcr iday icr) H) (hD : va_D (fun q => s.heap.size ≤ q) (WM cI cZ qm um y_thrown y_typed y_at y_token y_place y_value y_fault y_undoMany y_seenMany y_trace y_text y_told y_draft y_draftNow y_s y_w y_v y_kept y_isKept y_undos y_seenLoad y_seenOver y_byTaken ++ WX cI cZ cQ qx ux z_typed z_reader_length z_reader_at z_reader_place z_reader_token z_reader_value z_draft_planks z_draft_size z_draft_sworn z_folk_planks z_folk_size z_folk_sworn z_present_day z_present_crossed z_history_known z_history_top z_gambler_trial_day z_gambler_trial_crossed z_guesser_seen z_guesser_least z_guesser_greatest z_traced z_letters z_draft_bank z_draft_kind z_draft_word z_draft_slow z_draft_told z_folk_bank z_folk_kind z_folk_word z_folk_slow z_folk_told z_strength_borne z_present_came z_present_under z_present_due z_kept z_gambler_trial_came z_gambler_trial_under z_gambler_trial_due z_guesser_load z_guesser_over z_guesser_borne rc ru rdu ic iu idu rday rcr iday icr)) (hS : va_S (fun q => s.heap.size ≤ q) s.heap H locs) {ls : Array Slot} (hl : lv_has ls 4 [(3, .int (nI i)), (2, .ref qm), (1, .ref qx), (0, .ref b)]) (K : ∀ (H1 : Heap) (locs1 : List Loc), INV D (fun q => s.heap.size ≤ q) cI cZ cQ qx ux qm um H1 → va_S (fun q => s.heap.size ≤ q) s.heap H1 locs1 → W p l e room_1 s m #[Value.ref b] below meth c H1 locs1 100 4000 (lw_Z below #[Value.ref b] s) (F0 m 949 ls [])) : W p l e room_1 s m #[Value.ref b] below meth c H locs 100 4000 (lw_Z below #[Value.ref b] s) (F0 m 339 ls []) := by
  obtain ⟨⟨k, hLR, rfl, rfl⟩, ⟨N, P, bk, kd, wd, sl, hT, hF, hB, hST, ⟨hk, ht, hH, rfl, rfl, rfl⟩, hIR⟩, ⟨sk, hSR, rfl, rfl⟩, rfl⟩ := hREL
  obtain ⟨hx, hb, hr, hml, hown0, hts0, hX, hbl, hlocks, hgv⟩ := id C0
  have hown : s.vm.findClass RL = some m.cls := hown0
  have hts := tb_law hts0
  have hbA : ¬ (fun q : Nat => s.heap.size ≤ q) b := Nat.not_le.mpr hbl
  have hv1 : vp_in (nI i + 1) L := by rw [show nI i + 1 = nI (i + 1) from nI_add i 1]; exact vp_in_nI (by omega) (by omega)
  obtain ⟨p1, ep1⟩ : ∃ z, z = xs (nI i + 1).toNatClampNeg := ⟨_, rfl⟩
  have hv2 : vp_in (nI i + 2) L := by rw [show nI i + 2 = nI (i + 2) from nI_add i 2]; exact vp_in_nI (by omega) (by omega)
  obtain ⟨p2, ep2⟩ : ∃ z, z = xs (nI i + 2).toNatClampNeg := ⟨_, rfl⟩
  obtain ⟨g, v, under', due', r', k', t', c', u', du', dy', cr', U', hg, e8, e9, hH', hST'⟩ := q_promises (fu := 1000) (th := y_thrown) (by omega) hT hF hH hST p1 p2
  have hg2 : g = 0 ∨ g = 1 ∨ g = 2 ∨ g = 3 ∨ g = 4 ∨ g = 5 ∨ g = 6 ∨ g = 7 ∨ g = 8 ∨ g = 9 := by omega
  rcases hg2 with rfl | rfl | rfl | rfl | rfl | rfl | rfl | rfl | rfl | rfl
  · refine lv_aload_n hx hb dL_law_339 rfl (lv_at hl 2 rfl) ?_
    refine lv_aload_n hx hb dL_law_340 rfl (lv_at hl 3 rfl) ?_
    refine lv_iload_n hx hb dL_law_341 rfl (lv_at hl 0 rfl) ?_
    refine lv_iconst (v := 1) hx hb dL_law_342 (by decide) ?_
    refine lv_iadd hx hb dL_law_343 ?_
    refine va_sld hx hb hX hbl hbA hS hv1 dL_law_344 ?_
    rw [← ep1]
    refine lv_aload_n hx hb dL_law_345 rfl (lv_at hl 3 rfl) ?_
    refine lv_iload_n hx hb dL_law_346 rfl (lv_at hl 0 rfl) ?_
    refine lv_iconst (v := 2) hx hb dL_law_347 (by decide) ?_
    refine lv_iadd hx hb dL_law_348 ?_
    refine va_sld hx hb hX hbl hbA hS hv2 dL_law_349 ?_
    rw [← ep2]
    refine kX8_promises hx hb hml hown hts hKW q583 hP hD hS [14, 84, 77, 78, 79, 35, 36, 73, 74, 75, 76, 80, 88, 85] rfl (by decide) e8 hl.1 (Nat.le_of_ble_eq_true rfl) ⟨Nat.le_of_ble_eq_true rfl, Nat.le_of_ble_eq_true rfl⟩ ⟨Nat.le_of_ble_eq_true rfl, Nat.le_of_ble_eq_true rfl⟩ dL_law_350 (fun H locs hP hD hS => ?_)
    have hP : va_P D vwCl (WM cI cZ qm um y_thrown (nI k) y_at y_token y_place y_value y_fault (nI hk) (nI sk) z_traced y_text y_told y_draft y_draftNow y_s y_w y_v y_kept y_isKept y_undos y_seenLoad y_seenOver y_byTaken ++ WX cI cZ cQ qx ux (nI k) z_reader_length z_reader_at z_reader_place z_reader_token z_reader_value z_draft_planks z_draft_size z_draft_sworn z_folk_planks z_folk_size z_folk_sworn z_present_day z_present_crossed (nI k') (nI t') z_gambler_trial_day z_gambler_trial_crossed (nI sk) z_guesser_least z_guesser_greatest z_traced z_letters z_draft_bank z_draft_kind z_draft_word z_draft_slow z_draft_told z_folk_bank z_folk_kind z_folk_word z_folk_slow z_folk_told z_strength_borne z_present_came under' due' z_kept z_gambler_trial_came z_gambler_trial_under z_gambler_trial_due z_guesser_load z_guesser_over z_guesser_borne (up rc 0 c') (up ru 0 u') (up rdu 0 du') ic iu idu (up rday 0 dy') (up rcr 0 cr') iday icr) H := hP
    have hD : va_D (fun q => s.heap.size ≤ q) (WM cI cZ qm um y_thrown (nI k) y_at y_token y_place y_value y_fault (nI hk) (nI sk) z_traced y_text y_told y_draft y_draftNow y_s y_w y_v y_kept y_isKept y_undos y_seenLoad y_seenOver y_byTaken ++ WX cI cZ cQ qx ux (nI k) z_reader_length z_reader_at z_reader_place z_reader_token z_reader_value z_draft_planks z_draft_size z_draft_sworn z_folk_planks z_folk_size z_folk_sworn z_present_day z_present_crossed (nI k') (nI t') z_gambler_trial_day z_gambler_trial_crossed (nI sk) z_guesser_least z_guesser_greatest z_traced z_letters z_draft_bank z_draft_kind z_draft_word z_draft_slow z_draft_told z_folk_bank z_folk_kind z_folk_word z_folk_slow z_folk_told z_strength_borne z_present_came under' due' z_kept z_gambler_trial_came z_gambler_trial_under z_gambler_trial_due z_guesser_load z_guesser_over z_guesser_borne (up rc 0 c') (up ru 0 u') (up rdu 0 du') ic iu idu (up rday 0 dy') (up rcr 0 cr') iday icr) := hD
    refine lv_aload_n hx hb dL_law_353 rfl (lv_at hl 1 rfl) ?_
    refine lv_aload_n hx hb dL_law_354 rfl (lv_at hl 3 rfl) ?_
    refine lv_iload_n hx hb dL_law_355 rfl (lv_at hl 0 rfl) ?_
    refine lv_iconst (v := 1) hx hb dL_law_356 (by decide) ?_
    refine lv_iadd hx hb dL_law_357 ?_
    refine va_sld hx hb hX hbl hbA hS hv1 dL_law_358 ?_
    rw [← ep1]
    refine lv_aload_n hx hb dL_law_359 rfl (lv_at hl 3 rfl) ?_
    refine lv_iload_n hx hb dL_law_360 rfl (lv_at hl 0 rfl) ?_
    refine lv_iconst (v := 2) hx hb dL_law_361 (by decide) ?_
    refine lv_iadd hx hb dL_law_362 ?_
    refine va_sld hx hb hX hbl hbA hS hv2 dL_law_363 ?_
    rw [← ep2]
    refine kX9_promises hx hb hml hown hts hKW q1088 hP hD hS [0, 2, 5, 10] rfl (by decide) e9 hl.1 (Nat.le_of_ble_eq_true rfl) ⟨Nat.le_of_ble_eq_true rfl, Nat.le_of_ble_eq_true rfl⟩ ⟨Nat.le_of_ble_eq_true rfl, Nat.le_of_ble_eq_true rfl⟩ dL_law_364 (fun H locs hP hD hS => ?_)
    have hP : va_P D vwCl (WM cI cZ qm um 0 (nI k) y_at y_token y_place y_value y_fault (nI k') (nI sk) z_traced y_text y_told y_draft y_draftNow r' y_w y_v y_kept y_isKept U' y_seenLoad y_seenOver y_byTaken ++ WX cI cZ cQ qx ux (nI k) z_reader_length z_reader_at z_reader_place z_reader_token z_reader_value z_draft_planks z_draft_size z_draft_sworn z_folk_planks z_folk_size z_folk_sworn z_present_day z_present_crossed (nI k') (nI t') z_gambler_trial_day z_gambler_trial_crossed (nI sk) z_guesser_least z_guesser_greatest z_traced z_letters z_draft_bank z_draft_kind z_draft_word z_draft_slow z_draft_told z_folk_bank z_folk_kind z_folk_word z_folk_slow z_folk_told z_strength_borne z_present_came under' due' z_kept z_gambler_trial_came z_gambler_trial_under z_gambler_trial_due z_guesser_load z_guesser_over z_guesser_borne (up rc 0 c') (up ru 0 u') (up rdu 0 du') ic iu idu (up rday 0 dy') (up rcr 0 cr') iday icr) H := hP
    have hD : va_D (fun q => s.heap.size ≤ q) (WM cI cZ qm um 0 (nI k) y_at y_token y_place y_value y_fault (nI k') (nI sk) z_traced y_text y_told y_draft y_draftNow r' y_w y_v y_kept y_isKept U' y_seenLoad y_seenOver y_byTaken ++ WX cI cZ cQ qx ux (nI k) z_reader_length z_reader_at z_reader_place z_reader_token z_reader_value z_draft_planks z_draft_size z_draft_sworn z_folk_planks z_folk_size z_folk_sworn z_present_day z_present_crossed (nI k') (nI t') z_gambler_trial_day z_gambler_trial_crossed (nI sk) z_guesser_least z_guesser_greatest z_traced z_letters z_draft_bank z_draft_kind z_draft_word z_draft_slow z_draft_told z_folk_bank z_folk_kind z_folk_word z_folk_slow z_folk_told z_strength_borne z_present_came under' due' z_kept z_gambler_trial_came z_gambler_trial_under z_gambler_trial_due z_guesser_load z_guesser_over z_guesser_borne (up rc 0 c') (up ru 0 u') (up rdu 0 du') ic iu idu (up rday 0 dy') (up rcr 0 cr') iday icr) := hD
    refine lv_icmp_eq (tgt := 949) hx hb dL_law_367 (by decide) (fun _ => ?_) (fun h => absurd rfl h)
    exact K _ _ (INV_mk ⟨⟨k, hLR, rfl, rfl⟩, ⟨N, P, bk, kd, wd, sl, hT, hF, hB, hST', ⟨k', t', hH', rfl, rfl, rfl⟩, hIR⟩, ⟨sk, hSR, rfl, rfl⟩, rfl⟩ hP hD) hS
  · refine lv_aload_n hx hb dL_law_339 rfl (lv_at hl 2 rfl) ?_
    refine lv_aload_n hx hb dL_law_340 rfl (lv_at hl 3 rfl) ?_
    refine lv_iload_n hx hb dL_law_341 rfl (lv_at hl 0 rfl) ?_
    refine lv_iconst (v := 1) hx hb dL_law_342 (by decide) ?_
    refine lv_iadd hx hb dL_law_343 ?_
    refine va_sld hx hb hX hbl hbA hS hv1 dL_law_344 ?_
    rw [← ep1]
    refine lv_aload_n hx hb dL_law_345 rfl (lv_at hl 3 rfl) ?_
    refine lv_iload_n hx hb dL_law_346 rfl (lv_at hl 0 rfl) ?_
    refine lv_iconst (v := 2) hx hb dL_law_347 (by decide) ?_
    refine lv_iadd hx hb dL_law_348 ?_
    refine va_sld hx hb hX hbl hbA hS hv2 dL_law_349 ?_
    rw [← ep2]
    refine kX8_promises hx hb hml hown hts hKW q583 hP hD hS [14, 84, 77, 78, 79, 35, 36, 69, 70, 71, 72, 80, 88, 85] rfl (by decide) e8 hl.1 (Nat.le_of_ble_eq_true rfl) ⟨Nat.le_of_ble_eq_true rfl, Nat.le_of_ble_eq_true rfl⟩ ⟨Nat.le_of_ble_eq_true rfl, Nat.le_of_ble_eq_true rfl⟩ dL_law_350 (fun H locs hP hD hS => ?_)
    have hP : va_P D vwCl (WM cI cZ qm um y_thrown (nI k) y_at y_token y_place y_value y_fault (nI hk) (nI sk) z_traced y_text y_told y_draft y_draftNow y_s y_w y_v y_kept y_isKept y_undos y_seenLoad y_seenOver y_byTaken ++ WX cI cZ cQ qx ux (nI k) z_reader_length z_reader_at z_reader_place z_reader_token z_reader_value z_draft_planks z_draft_size z_draft_sworn z_folk_planks z_folk_size z_folk_sworn z_present_day z_present_crossed (nI k') (nI t') z_gambler_trial_day z_gambler_trial_crossed (nI sk) z_guesser_least z_guesser_greatest z_traced z_letters z_draft_bank z_draft_kind z_draft_word z_draft_slow z_draft_told z_folk_bank z_folk_kind z_folk_word z_folk_slow z_folk_told z_strength_borne z_present_came under' due' z_kept z_gambler_trial_came z_gambler_trial_under z_gambler_trial_due z_guesser_load z_guesser_over z_guesser_borne (up rc 1 c') (up ru 1 u') (up rdu 1 du') ic iu idu (up rday 1 dy') (up rcr 1 cr') iday icr) H := hP
    have hD : va_D (fun q => s.heap.size ≤ q) (WM cI cZ qm um y_thrown (nI k) y_at y_token y_place y_value y_fault (nI hk) (nI sk) z_traced y_text y_told y_draft y_draftNow y_s y_w y_v y_kept y_isKept y_undos y_seenLoad y_seenOver y_byTaken ++ WX cI cZ cQ qx ux (nI k) z_reader_length z_reader_at z_reader_place z_reader_token z_reader_value z_draft_planks z_draft_size z_draft_sworn z_folk_planks z_folk_size z_folk_sworn z_present_day z_present_crossed (nI k') (nI t') z_gambler_trial_day z_gambler_trial_crossed (nI sk) z_guesser_least z_guesser_greatest z_traced z_letters z_draft_bank z_draft_kind z_draft_word z_draft_slow z_draft_told z_folk_bank z_folk_kind z_folk_word z_folk_slow z_folk_told z_strength_borne z_present_came under' due' z_kept z_gambler_trial_came z_gambler_trial_under z_gambler_trial_due z_guesser_load z_guesser_over z_guesser_borne (up rc 1 c') (up ru 1 u') (up rdu 1 du') ic iu idu (up rday 1 dy') (up rcr 1 cr') iday icr) := hD
    refine lv_aload_n hx hb dL_law_353 rfl (lv_at hl 1 rfl) ?_
    refine lv_aload_n hx hb dL_law_354 rfl (lv_at hl 3 rfl) ?_
    refine lv_iload_n hx hb dL_law_355 rfl (lv_at hl 0 rfl) ?_
    refine lv_iconst (v := 1) hx hb dL_law_356 (by decide) ?_
    refine lv_iadd hx hb dL_law_357 ?_
    refine va_sld hx hb hX hbl hbA hS hv1 dL_law_358 ?_
    rw [← ep1]
    refine lv_aload_n hx hb dL_law_359 rfl (lv_at hl 3 rfl) ?_
    refine lv_iload_n hx hb dL_law_360 rfl (lv_at hl 0 rfl) ?_
    refine lv_iconst (v := 2) hx hb dL_law_361 (by decide) ?_
    refine lv_iadd hx hb dL_law_362 ?_
    refine va_sld hx hb hX hbl hbA hS hv2 dL_law_363 ?_
    rw [← ep2]
    refine kX9_promises hx hb hml hown hts hKW q1088 hP hD hS [0, 2, 5, 10] rfl (by decide) e9 hl.1 (Nat.le_of_ble_eq_true rfl) ⟨Nat.le_of_ble_eq_true rfl, Nat.le_of_ble_eq_true rfl⟩ ⟨Nat.le_of_ble_eq_true rfl, Nat.le_of_ble_eq_true rfl⟩ dL_law_364 (fun H locs hP hD hS => ?_)
    have hP : va_P D vwCl (WM cI cZ qm um 0 (nI k) y_at y_token y_place y_value y_fault (nI k') (nI sk) z_traced y_text y_told y_draft y_draftNow r' y_w y_v y_kept y_isKept U' y_seenLoad y_seenOver y_byTaken ++ WX cI cZ cQ qx ux (nI k) z_reader_length z_reader_at z_reader_place z_reader_token z_reader_value z_draft_planks z_draft_size z_draft_sworn z_folk_planks z_folk_size z_folk_sworn z_present_day z_present_crossed (nI k') (nI t') z_gambler_trial_day z_gambler_trial_crossed (nI sk) z_guesser_least z_guesser_greatest z_traced z_letters z_draft_bank z_draft_kind z_draft_word z_draft_slow z_draft_told z_folk_bank z_folk_kind z_folk_word z_folk_slow z_folk_told z_strength_borne z_present_came under' due' z_kept z_gambler_trial_came z_gambler_trial_under z_gambler_trial_due z_guesser_load z_guesser_over z_guesser_borne (up rc 1 c') (up ru 1 u') (up rdu 1 du') ic iu idu (up rday 1 dy') (up rcr 1 cr') iday icr) H := hP
    have hD : va_D (fun q => s.heap.size ≤ q) (WM cI cZ qm um 0 (nI k) y_at y_token y_place y_value y_fault (nI k') (nI sk) z_traced y_text y_told y_draft y_draftNow r' y_w y_v y_kept y_isKept U' y_seenLoad y_seenOver y_byTaken ++ WX cI cZ cQ qx ux (nI k) z_reader_length z_reader_at z_reader_place z_reader_token z_reader_value z_draft_planks z_draft_size z_draft_sworn z_folk_planks z_folk_size z_folk_sworn z_present_day z_present_crossed (nI k') (nI t') z_gambler_trial_day z_gambler_trial_crossed (nI sk) z_guesser_least z_guesser_greatest z_traced z_letters z_draft_bank z_draft_kind z_draft_word z_draft_slow z_draft_told z_folk_bank z_folk_kind z_folk_word z_folk_slow z_folk_told z_strength_borne z_present_came under' due' z_kept z_gambler_trial_came z_gambler_trial_under z_gambler_trial_due z_guesser_load z_guesser_over z_guesser_borne (up rc 1 c') (up ru 1 u') (up rdu 1 du') ic iu idu (up rday 1 dy') (up rcr 1 cr') iday icr) := hD
    refine lv_icmp_eq (tgt := 949) hx hb dL_law_367 (by decide) (fun _ => ?_) (fun h => absurd rfl h)
    exact K _ _ (INV_mk ⟨⟨k, hLR, rfl, rfl⟩, ⟨N, P, bk, kd, wd, sl, hT, hF, hB, hST', ⟨k', t', hH', rfl, rfl, rfl⟩, hIR⟩, ⟨sk, hSR, rfl, rfl⟩, rfl⟩ hP hD) hS
  · refine lv_aload_n hx hb dL_law_339 rfl (lv_at hl 2 rfl) ?_
    refine lv_aload_n hx hb dL_law_340 rfl (lv_at hl 3 rfl) ?_
    refine lv_iload_n hx hb dL_law_341 rfl (lv_at hl 0 rfl) ?_
    refine lv_iconst (v := 1) hx hb dL_law_342 (by decide) ?_
    refine lv_iadd hx hb dL_law_343 ?_
    refine va_sld hx hb hX hbl hbA hS hv1 dL_law_344 ?_
    rw [← ep1]
    refine lv_aload_n hx hb dL_law_345 rfl (lv_at hl 3 rfl) ?_
    refine lv_iload_n hx hb dL_law_346 rfl (lv_at hl 0 rfl) ?_
    refine lv_iconst (v := 2) hx hb dL_law_347 (by decide) ?_
    refine lv_iadd hx hb dL_law_348 ?_
    refine va_sld hx hb hX hbl hbA hS hv2 dL_law_349 ?_
    rw [← ep2]
    refine kX8_promises hx hb hml hown hts hKW q583 hP hD hS [14, 84, 77, 78, 79, 35, 36, 65, 66, 67, 68, 80, 88, 85] rfl (by decide) e8 hl.1 (Nat.le_of_ble_eq_true rfl) ⟨Nat.le_of_ble_eq_true rfl, Nat.le_of_ble_eq_true rfl⟩ ⟨Nat.le_of_ble_eq_true rfl, Nat.le_of_ble_eq_true rfl⟩ dL_law_350 (fun H locs hP hD hS => ?_)
    have hP : va_P D vwCl (WM cI cZ qm um y_thrown (nI k) y_at y_token y_place y_value y_fault (nI hk) (nI sk) z_traced y_text y_told y_draft y_draftNow y_s y_w y_v y_kept y_isKept y_undos y_seenLoad y_seenOver y_byTaken ++ WX cI cZ cQ qx ux (nI k) z_reader_length z_reader_at z_reader_place z_reader_token z_reader_value z_draft_planks z_draft_size z_draft_sworn z_folk_planks z_folk_size z_folk_sworn z_present_day z_present_crossed (nI k') (nI t') z_gambler_trial_day z_gambler_trial_crossed (nI sk) z_guesser_least z_guesser_greatest z_traced z_letters z_draft_bank z_draft_kind z_draft_word z_draft_slow z_draft_told z_folk_bank z_folk_kind z_folk_word z_folk_slow z_folk_told z_strength_borne z_present_came under' due' z_kept z_gambler_trial_came z_gambler_trial_under z_gambler_trial_due z_guesser_load z_guesser_over z_guesser_borne (up rc 2 c') (up ru 2 u') (up rdu 2 du') ic iu idu (up rday 2 dy') (up rcr 2 cr') iday icr) H := hP
    have hD : va_D (fun q => s.heap.size ≤ q) (WM cI cZ qm um y_thrown (nI k) y_at y_token y_place y_value y_fault (nI hk) (nI sk) z_traced y_text y_told y_draft y_draftNow y_s y_w y_v y_kept y_isKept y_undos y_seenLoad y_seenOver y_byTaken ++ WX cI cZ cQ qx ux (nI k) z_reader_length z_reader_at z_reader_place z_reader_token z_reader_value z_draft_planks z_draft_size z_draft_sworn z_folk_planks z_folk_size z_folk_sworn z_present_day z_present_crossed (nI k') (nI t') z_gambler_trial_day z_gambler_trial_crossed (nI sk) z_guesser_least z_guesser_greatest z_traced z_letters z_draft_bank z_draft_kind z_draft_word z_draft_slow z_draft_told z_folk_bank z_folk_kind z_folk_word z_folk_slow z_folk_told z_strength_borne z_present_came under' due' z_kept z_gambler_trial_came z_gambler_trial_under z_gambler_trial_due z_guesser_load z_guesser_over z_guesser_borne (up rc 2 c') (up ru 2 u') (up rdu 2 du') ic iu idu (up rday 2 dy') (up rcr 2 cr') iday icr) := hD
    refine lv_aload_n hx hb dL_law_353 rfl (lv_at hl 1 rfl) ?_
    refine lv_aload_n hx hb dL_law_354 rfl (lv_at hl 3 rfl) ?_
    refine lv_iload_n hx hb dL_law_355 rfl (lv_at hl 0 rfl) ?_
    refine lv_iconst (v := 1) hx hb dL_law_356 (by decide) ?_
    refine lv_iadd hx hb dL_law_357 ?_
    refine va_sld hx hb hX hbl hbA hS hv1 dL_law_358 ?_
    rw [← ep1]
    refine lv_aload_n hx hb dL_law_359 rfl (lv_at hl 3 rfl) ?_
    refine lv_iload_n hx hb dL_law_360 rfl (lv_at hl 0 rfl) ?_
    refine lv_iconst (v := 2) hx hb dL_law_361 (by decide) ?_
    refine lv_iadd hx hb dL_law_362 ?_
    refine va_sld hx hb hX hbl hbA hS hv2 dL_law_363 ?_
    rw [← ep2]
    refine kX9_promises hx hb hml hown hts hKW q1088 hP hD hS [0, 2, 5, 10] rfl (by decide) e9 hl.1 (Nat.le_of_ble_eq_true rfl) ⟨Nat.le_of_ble_eq_true rfl, Nat.le_of_ble_eq_true rfl⟩ ⟨Nat.le_of_ble_eq_true rfl, Nat.le_of_ble_eq_true rfl⟩ dL_law_364 (fun H locs hP hD hS => ?_)
    have hP : va_P D vwCl (WM cI cZ qm um 0 (nI k) y_at y_token y_place y_value y_fault (nI k') (nI sk) z_traced y_text y_told y_draft y_draftNow r' y_w y_v y_kept y_isKept U' y_seenLoad y_seenOver y_byTaken ++ WX cI cZ cQ qx ux (nI k) z_reader_length z_reader_at z_reader_place z_reader_token z_reader_value z_draft_planks z_draft_size z_draft_sworn z_folk_planks z_folk_size z_folk_sworn z_present_day z_present_crossed (nI k') (nI t') z_gambler_trial_day z_gambler_trial_crossed (nI sk) z_guesser_least z_guesser_greatest z_traced z_letters z_draft_bank z_draft_kind z_draft_word z_draft_slow z_draft_told z_folk_bank z_folk_kind z_folk_word z_folk_slow z_folk_told z_strength_borne z_present_came under' due' z_kept z_gambler_trial_came z_gambler_trial_under z_gambler_trial_due z_guesser_load z_guesser_over z_guesser_borne (up rc 2 c') (up ru 2 u') (up rdu 2 du') ic iu idu (up rday 2 dy') (up rcr 2 cr') iday icr) H := hP
    have hD : va_D (fun q => s.heap.size ≤ q) (WM cI cZ qm um 0 (nI k) y_at y_token y_place y_value y_fault (nI k') (nI sk) z_traced y_text y_told y_draft y_draftNow r' y_w y_v y_kept y_isKept U' y_seenLoad y_seenOver y_byTaken ++ WX cI cZ cQ qx ux (nI k) z_reader_length z_reader_at z_reader_place z_reader_token z_reader_value z_draft_planks z_draft_size z_draft_sworn z_folk_planks z_folk_size z_folk_sworn z_present_day z_present_crossed (nI k') (nI t') z_gambler_trial_day z_gambler_trial_crossed (nI sk) z_guesser_least z_guesser_greatest z_traced z_letters z_draft_bank z_draft_kind z_draft_word z_draft_slow z_draft_told z_folk_bank z_folk_kind z_folk_word z_folk_slow z_folk_told z_strength_borne z_present_came under' due' z_kept z_gambler_trial_came z_gambler_trial_under z_gambler_trial_due z_guesser_load z_guesser_over z_guesser_borne (up rc 2 c') (up ru 2 u') (up rdu 2 du') ic iu idu (up rday 2 dy') (up rcr 2 cr') iday icr) := hD
    refine lv_icmp_eq (tgt := 949) hx hb dL_law_367 (by decide) (fun _ => ?_) (fun h => absurd rfl h)
    exact K _ _ (INV_mk ⟨⟨k, hLR, rfl, rfl⟩, ⟨N, P, bk, kd, wd, sl, hT, hF, hB, hST', ⟨k', t', hH', rfl, rfl, rfl⟩, hIR⟩, ⟨sk, hSR, rfl, rfl⟩, rfl⟩ hP hD) hS
  · refine lv_aload_n hx hb dL_law_339 rfl (lv_at hl 2 rfl) ?_
    refine lv_aload_n hx hb dL_law_340 rfl (lv_at hl 3 rfl) ?_
    refine lv_iload_n hx hb dL_law_341 rfl (lv_at hl 0 rfl) ?_
    refine lv_iconst (v := 1) hx hb dL_law_342 (by decide) ?_
    refine lv_iadd hx hb dL_law_343 ?_
    refine va_sld hx hb hX hbl hbA hS hv1 dL_law_344 ?_
    rw [← ep1]
    refine lv_aload_n hx hb dL_law_345 rfl (lv_at hl 3 rfl) ?_
    refine lv_iload_n hx hb dL_law_346 rfl (lv_at hl 0 rfl) ?_
    refine lv_iconst (v := 2) hx hb dL_law_347 (by decide) ?_
    refine lv_iadd hx hb dL_law_348 ?_
    refine va_sld hx hb hX hbl hbA hS hv2 dL_law_349 ?_
    rw [← ep2]
    refine kX8_promises hx hb hml hown hts hKW q583 hP hD hS [14, 84, 77, 78, 79, 35, 36, 61, 62, 63, 64, 80, 88, 85] rfl (by decide) e8 hl.1 (Nat.le_of_ble_eq_true rfl) ⟨Nat.le_of_ble_eq_true rfl, Nat.le_of_ble_eq_true rfl⟩ ⟨Nat.le_of_ble_eq_true rfl, Nat.le_of_ble_eq_true rfl⟩ dL_law_350 (fun H locs hP hD hS => ?_)
    have hP : va_P D vwCl (WM cI cZ qm um y_thrown (nI k) y_at y_token y_place y_value y_fault (nI hk) (nI sk) z_traced y_text y_told y_draft y_draftNow y_s y_w y_v y_kept y_isKept y_undos y_seenLoad y_seenOver y_byTaken ++ WX cI cZ cQ qx ux (nI k) z_reader_length z_reader_at z_reader_place z_reader_token z_reader_value z_draft_planks z_draft_size z_draft_sworn z_folk_planks z_folk_size z_folk_sworn z_present_day z_present_crossed (nI k') (nI t') z_gambler_trial_day z_gambler_trial_crossed (nI sk) z_guesser_least z_guesser_greatest z_traced z_letters z_draft_bank z_draft_kind z_draft_word z_draft_slow z_draft_told z_folk_bank z_folk_kind z_folk_word z_folk_slow z_folk_told z_strength_borne z_present_came under' due' z_kept z_gambler_trial_came z_gambler_trial_under z_gambler_trial_due z_guesser_load z_guesser_over z_guesser_borne (up rc 3 c') (up ru 3 u') (up rdu 3 du') ic iu idu (up rday 3 dy') (up rcr 3 cr') iday icr) H := hP
    have hD : va_D (fun q => s.heap.size ≤ q) (WM cI cZ qm um y_thrown (nI k) y_at y_token y_place y_value y_fault (nI hk) (nI sk) z_traced y_text y_told y_draft y_draftNow y_s y_w y_v y_kept y_isKept y_undos y_seenLoad y_seenOver y_byTaken ++ WX cI cZ cQ qx ux (nI k) z_reader_length z_reader_at z_reader_place z_reader_token z_reader_value z_draft_planks z_draft_size z_draft_sworn z_folk_planks z_folk_size z_folk_sworn z_present_day z_present_crossed (nI k') (nI t') z_gambler_trial_day z_gambler_trial_crossed (nI sk) z_guesser_least z_guesser_greatest z_traced z_letters z_draft_bank z_draft_kind z_draft_word z_draft_slow z_draft_told z_folk_bank z_folk_kind z_folk_word z_folk_slow z_folk_told z_strength_borne z_present_came under' due' z_kept z_gambler_trial_came z_gambler_trial_under z_gambler_trial_due z_guesser_load z_guesser_over z_guesser_borne (up rc 3 c') (up ru 3 u') (up rdu 3 du') ic iu idu (up rday 3 dy') (up rcr 3 cr') iday icr) := hD
    refine lv_aload_n hx hb dL_law_353 rfl (lv_at hl 1 rfl) ?_
    refine lv_aload_n hx hb dL_law_354 rfl (lv_at hl 3 rfl) ?_
    refine lv_iload_n hx hb dL_law_355 rfl (lv_at hl 0 rfl) ?_
    refine lv_iconst (v := 1) hx hb dL_law_356 (by decide) ?_
    refine lv_iadd hx hb dL_law_357 ?_
    refine va_sld hx hb hX hbl hbA hS hv1 dL_law_358 ?_
    rw [← ep1]
    refine lv_aload_n hx hb dL_law_359 rfl (lv_at hl 3 rfl) ?_
    refine lv_iload_n hx hb dL_law_360 rfl (lv_at hl 0 rfl) ?_
    refine lv_iconst (v := 2) hx hb dL_law_361 (by decide) ?_
    refine lv_iadd hx hb dL_law_362 ?_
    refine va_sld hx hb hX hbl hbA hS hv2 dL_law_363 ?_
    rw [← ep2]
    refine kX9_promises hx hb hml hown hts hKW q1088 hP hD hS [0, 2, 5, 10] rfl (by decide) e9 hl.1 (Nat.le_of_ble_eq_true rfl) ⟨Nat.le_of_ble_eq_true rfl, Nat.le_of_ble_eq_true rfl⟩ ⟨Nat.le_of_ble_eq_true rfl, Nat.le_of_ble_eq_true rfl⟩ dL_law_364 (fun H locs hP hD hS => ?_)
    have hP : va_P D vwCl (WM cI cZ qm um 0 (nI k) y_at y_token y_place y_value y_fault (nI k') (nI sk) z_traced y_text y_told y_draft y_draftNow r' y_w y_v y_kept y_isKept U' y_seenLoad y_seenOver y_byTaken ++ WX cI cZ cQ qx ux (nI k) z_reader_length z_reader_at z_reader_place z_reader_token z_reader_value z_draft_planks z_draft_size z_draft_sworn z_folk_planks z_folk_size z_folk_sworn z_present_day z_present_crossed (nI k') (nI t') z_gambler_trial_day z_gambler_trial_crossed (nI sk) z_guesser_least z_guesser_greatest z_traced z_letters z_draft_bank z_draft_kind z_draft_word z_draft_slow z_draft_told z_folk_bank z_folk_kind z_folk_word z_folk_slow z_folk_told z_strength_borne z_present_came under' due' z_kept z_gambler_trial_came z_gambler_trial_under z_gambler_trial_due z_guesser_load z_guesser_over z_guesser_borne (up rc 3 c') (up ru 3 u') (up rdu 3 du') ic iu idu (up rday 3 dy') (up rcr 3 cr') iday icr) H := hP
    have hD : va_D (fun q => s.heap.size ≤ q) (WM cI cZ qm um 0 (nI k) y_at y_token y_place y_value y_fault (nI k') (nI sk) z_traced y_text y_told y_draft y_draftNow r' y_w y_v y_kept y_isKept U' y_seenLoad y_seenOver y_byTaken ++ WX cI cZ cQ qx ux (nI k) z_reader_length z_reader_at z_reader_place z_reader_token z_reader_value z_draft_planks z_draft_size z_draft_sworn z_folk_planks z_folk_size z_folk_sworn z_present_day z_present_crossed (nI k') (nI t') z_gambler_trial_day z_gambler_trial_crossed (nI sk) z_guesser_least z_guesser_greatest z_traced z_letters z_draft_bank z_draft_kind z_draft_word z_draft_slow z_draft_told z_folk_bank z_folk_kind z_folk_word z_folk_slow z_folk_told z_strength_borne z_present_came under' due' z_kept z_gambler_trial_came z_gambler_trial_under z_gambler_trial_due z_guesser_load z_guesser_over z_guesser_borne (up rc 3 c') (up ru 3 u') (up rdu 3 du') ic iu idu (up rday 3 dy') (up rcr 3 cr') iday icr) := hD
    refine lv_icmp_eq (tgt := 949) hx hb dL_law_367 (by decide) (fun _ => ?_) (fun h => absurd rfl h)
    exact K _ _ (INV_mk ⟨⟨k, hLR, rfl, rfl⟩, ⟨N, P, bk, kd, wd, sl, hT, hF, hB, hST', ⟨k', t', hH', rfl, rfl, rfl⟩, hIR⟩, ⟨sk, hSR, rfl, rfl⟩, rfl⟩ hP hD) hS
  · refine lv_aload_n hx hb dL_law_339 rfl (lv_at hl 2 rfl) ?_
    refine lv_aload_n hx hb dL_law_340 rfl (lv_at hl 3 rfl) ?_
    refine lv_iload_n hx hb dL_law_341 rfl (lv_at hl 0 rfl) ?_
    refine lv_iconst (v := 1) hx hb dL_law_342 (by decide) ?_
    refine lv_iadd hx hb dL_law_343 ?_
    refine va_sld hx hb hX hbl hbA hS hv1 dL_law_344 ?_
    rw [← ep1]
    refine lv_aload_n hx hb dL_law_345 rfl (lv_at hl 3 rfl) ?_
    refine lv_iload_n hx hb dL_law_346 rfl (lv_at hl 0 rfl) ?_
    refine lv_iconst (v := 2) hx hb dL_law_347 (by decide) ?_
    refine lv_iadd hx hb dL_law_348 ?_
    refine va_sld hx hb hX hbl hbA hS hv2 dL_law_349 ?_
    rw [← ep2]
    refine kX8_promises hx hb hml hown hts hKW q583 hP hD hS [14, 84, 77, 78, 79, 35, 36, 57, 58, 59, 60, 80, 88, 85] rfl (by decide) e8 hl.1 (Nat.le_of_ble_eq_true rfl) ⟨Nat.le_of_ble_eq_true rfl, Nat.le_of_ble_eq_true rfl⟩ ⟨Nat.le_of_ble_eq_true rfl, Nat.le_of_ble_eq_true rfl⟩ dL_law_350 (fun H locs hP hD hS => ?_)
    have hP : va_P D vwCl (WM cI cZ qm um y_thrown (nI k) y_at y_token y_place y_value y_fault (nI hk) (nI sk) z_traced y_text y_told y_draft y_draftNow y_s y_w y_v y_kept y_isKept y_undos y_seenLoad y_seenOver y_byTaken ++ WX cI cZ cQ qx ux (nI k) z_reader_length z_reader_at z_reader_place z_reader_token z_reader_value z_draft_planks z_draft_size z_draft_sworn z_folk_planks z_folk_size z_folk_sworn z_present_day z_present_crossed (nI k') (nI t') z_gambler_trial_day z_gambler_trial_crossed (nI sk) z_guesser_least z_guesser_greatest z_traced z_letters z_draft_bank z_draft_kind z_draft_word z_draft_slow z_draft_told z_folk_bank z_folk_kind z_folk_word z_folk_slow z_folk_told z_strength_borne z_present_came under' due' z_kept z_gambler_trial_came z_gambler_trial_under z_gambler_trial_due z_guesser_load z_guesser_over z_guesser_borne (up rc 4 c') (up ru 4 u') (up rdu 4 du') ic iu idu (up rday 4 dy') (up rcr 4 cr') iday icr) H := hP
    have hD : va_D (fun q => s.heap.size ≤ q) (WM cI cZ qm um y_thrown (nI k) y_at y_token y_place y_value y_fault (nI hk) (nI sk) z_traced y_text y_told y_draft y_draftNow y_s y_w y_v y_kept y_isKept y_undos y_seenLoad y_seenOver y_byTaken ++ WX cI cZ cQ qx ux (nI k) z_reader_length z_reader_at z_reader_place z_reader_token z_reader_value z_draft_planks z_draft_size z_draft_sworn z_folk_planks z_folk_size z_folk_sworn z_present_day z_present_crossed (nI k') (nI t') z_gambler_trial_day z_gambler_trial_crossed (nI sk) z_guesser_least z_guesser_greatest z_traced z_letters z_draft_bank z_draft_kind z_draft_word z_draft_slow z_draft_told z_folk_bank z_folk_kind z_folk_word z_folk_slow z_folk_told z_strength_borne z_present_came under' due' z_kept z_gambler_trial_came z_gambler_trial_under z_gambler_trial_due z_guesser_load z_guesser_over z_guesser_borne (up rc 4 c') (up ru 4 u') (up rdu 4 du') ic iu idu (up rday 4 dy') (up rcr 4 cr') iday icr) := hD
    refine lv_aload_n hx hb dL_law_353 rfl (lv_at hl 1 rfl) ?_
    refine lv_aload_n hx hb dL_law_354 rfl (lv_at hl 3 rfl) ?_
    refine lv_iload_n hx hb dL_law_355 rfl (lv_at hl 0 rfl) ?_
    refine lv_iconst (v := 1) hx hb dL_law_356 (by decide) ?_
    refine lv_iadd hx hb dL_law_357 ?_
    refine va_sld hx hb hX hbl hbA hS hv1 dL_law_358 ?_
    rw [← ep1]
    refine lv_aload_n hx hb dL_law_359 rfl (lv_at hl 3 rfl) ?_
    refine lv_iload_n hx hb dL_law_360 rfl (lv_at hl 0 rfl) ?_
    refine lv_iconst (v := 2) hx hb dL_law_361 (by decide) ?_
    refine lv_iadd hx hb dL_law_362 ?_
    refine va_sld hx hb hX hbl hbA hS hv2 dL_law_363 ?_
    rw [← ep2]
    refine kX9_promises hx hb hml hown hts hKW q1088 hP hD hS [0, 2, 5, 10] rfl (by decide) e9 hl.1 (Nat.le_of_ble_eq_true rfl) ⟨Nat.le_of_ble_eq_true rfl, Nat.le_of_ble_eq_true rfl⟩ ⟨Nat.le_of_ble_eq_true rfl, Nat.le_of_ble_eq_true rfl⟩ dL_law_364 (fun H locs hP hD hS => ?_)
    have hP : va_P D vwCl (WM cI cZ qm um 0 (nI k) y_at y_token y_place y_value y_fault (nI k') (nI sk) z_traced y_text y_told y_draft y_draftNow r' y_w y_v y_kept y_isKept U' y_seenLoad y_seenOver y_byTaken ++ WX cI cZ cQ qx ux (nI k) z_reader_length z_reader_at z_reader_place z_reader_token z_reader_value z_draft_planks z_draft_size z_draft_sworn z_folk_planks z_folk_size z_folk_sworn z_present_day z_present_crossed (nI k') (nI t') z_gambler_trial_day z_gambler_trial_crossed (nI sk) z_guesser_least z_guesser_greatest z_traced z_letters z_draft_bank z_draft_kind z_draft_word z_draft_slow z_draft_told z_folk_bank z_folk_kind z_folk_word z_folk_slow z_folk_told z_strength_borne z_present_came under' due' z_kept z_gambler_trial_came z_gambler_trial_under z_gambler_trial_due z_guesser_load z_guesser_over z_guesser_borne (up rc 4 c') (up ru 4 u') (up rdu 4 du') ic iu idu (up rday 4 dy') (up rcr 4 cr') iday icr) H := hP
    have hD : va_D (fun q => s.heap.size ≤ q) (WM cI cZ qm um 0 (nI k) y_at y_token y_place y_value y_fault (nI k') (nI sk) z_traced y_text y_told y_draft y_draftNow r' y_w y_v y_kept y_isKept U' y_seenLoad y_seenOver y_byTaken ++ WX cI cZ cQ qx ux (nI k) z_reader_length z_reader_at z_reader_place z_reader_token z_reader_value z_draft_planks z_draft_size z_draft_sworn z_folk_planks z_folk_size z_folk_sworn z_present_day z_present_crossed (nI k') (nI t') z_gambler_trial_day z_gambler_trial_crossed (nI sk) z_guesser_least z_guesser_greatest z_traced z_letters z_draft_bank z_draft_kind z_draft_word z_draft_slow z_draft_told z_folk_bank z_folk_kind z_folk_word z_folk_slow z_folk_told z_strength_borne z_present_came under' due' z_kept z_gambler_trial_came z_gambler_trial_under z_gambler_trial_due z_guesser_load z_guesser_over z_guesser_borne (up rc 4 c') (up ru 4 u') (up rdu 4 du') ic iu idu (up rday 4 dy') (up rcr 4 cr') iday icr) := hD
    refine lv_icmp_eq (tgt := 949) hx hb dL_law_367 (by decide) (fun _ => ?_) (fun h => absurd rfl h)
    exact K _ _ (INV_mk ⟨⟨k, hLR, rfl, rfl⟩, ⟨N, P, bk, kd, wd, sl, hT, hF, hB, hST', ⟨k', t', hH', rfl, rfl, rfl⟩, hIR⟩, ⟨sk, hSR, rfl, rfl⟩, rfl⟩ hP hD) hS
  · refine lv_aload_n hx hb dL_law_339 rfl (lv_at hl 2 rfl) ?_
    refine lv_aload_n hx hb dL_law_340 rfl (lv_at hl 3 rfl) ?_
    refine lv_iload_n hx hb dL_law_341 rfl (lv_at hl 0 rfl) ?_
    refine lv_iconst (v := 1) hx hb dL_law_342 (by decide) ?_
    refine lv_iadd hx hb dL_law_343 ?_
    refine va_sld hx hb hX hbl hbA hS hv1 dL_law_344 ?_
    rw [← ep1]
    refine lv_aload_n hx hb dL_law_345 rfl (lv_at hl 3 rfl) ?_
    refine lv_iload_n hx hb dL_law_346 rfl (lv_at hl 0 rfl) ?_
    refine lv_iconst (v := 2) hx hb dL_law_347 (by decide) ?_
    refine lv_iadd hx hb dL_law_348 ?_
    refine va_sld hx hb hX hbl hbA hS hv2 dL_law_349 ?_
    rw [← ep2]
    refine kX8_promises hx hb hml hown hts hKW q583 hP hD hS [14, 84, 77, 78, 79, 35, 36, 53, 54, 55, 56, 80, 88, 85] rfl (by decide) e8 hl.1 (Nat.le_of_ble_eq_true rfl) ⟨Nat.le_of_ble_eq_true rfl, Nat.le_of_ble_eq_true rfl⟩ ⟨Nat.le_of_ble_eq_true rfl, Nat.le_of_ble_eq_true rfl⟩ dL_law_350 (fun H locs hP hD hS => ?_)
    have hP : va_P D vwCl (WM cI cZ qm um y_thrown (nI k) y_at y_token y_place y_value y_fault (nI hk) (nI sk) z_traced y_text y_told y_draft y_draftNow y_s y_w y_v y_kept y_isKept y_undos y_seenLoad y_seenOver y_byTaken ++ WX cI cZ cQ qx ux (nI k) z_reader_length z_reader_at z_reader_place z_reader_token z_reader_value z_draft_planks z_draft_size z_draft_sworn z_folk_planks z_folk_size z_folk_sworn z_present_day z_present_crossed (nI k') (nI t') z_gambler_trial_day z_gambler_trial_crossed (nI sk) z_guesser_least z_guesser_greatest z_traced z_letters z_draft_bank z_draft_kind z_draft_word z_draft_slow z_draft_told z_folk_bank z_folk_kind z_folk_word z_folk_slow z_folk_told z_strength_borne z_present_came under' due' z_kept z_gambler_trial_came z_gambler_trial_under z_gambler_trial_due z_guesser_load z_guesser_over z_guesser_borne (up rc 5 c') (up ru 5 u') (up rdu 5 du') ic iu idu (up rday 5 dy') (up rcr 5 cr') iday icr) H := hP
    have hD : va_D (fun q => s.heap.size ≤ q) (WM cI cZ qm um y_thrown (nI k) y_at y_token y_place y_value y_fault (nI hk) (nI sk) z_traced y_text y_told y_draft y_draftNow y_s y_w y_v y_kept y_isKept y_undos y_seenLoad y_seenOver y_byTaken ++ WX cI cZ cQ qx ux (nI k) z_reader_length z_reader_at z_reader_place z_reader_token z_reader_value z_draft_planks z_draft_size z_draft_sworn z_folk_planks z_folk_size z_folk_sworn z_present_day z_present_crossed (nI k') (nI t') z_gambler_trial_day z_gambler_trial_crossed (nI sk) z_guesser_least z_guesser_greatest z_traced z_letters z_draft_bank z_draft_kind z_draft_word z_draft_slow z_draft_told z_folk_bank z_folk_kind z_folk_word z_folk_slow z_folk_told z_strength_borne z_present_came under' due' z_kept z_gambler_trial_came z_gambler_trial_under z_gambler_trial_due z_guesser_load z_guesser_over z_guesser_borne (up rc 5 c') (up ru 5 u') (up rdu 5 du') ic iu idu (up rday 5 dy') (up rcr 5 cr') iday icr) := hD
    refine lv_aload_n hx hb dL_law_353 rfl (lv_at hl 1 rfl) ?_
    refine lv_aload_n hx hb dL_law_354 rfl (lv_at hl 3 rfl) ?_
    refine lv_iload_n hx hb dL_law_355 rfl (lv_at hl 0 rfl) ?_
    refine lv_iconst (v := 1) hx hb dL_law_356 (by decide) ?_
    refine lv_iadd hx hb dL_law_357 ?_
    refine va_sld hx hb hX hbl hbA hS hv1 dL_law_358 ?_
    rw [← ep1]
    refine lv_aload_n hx hb dL_law_359 rfl (lv_at hl 3 rfl) ?_
    refine lv_iload_n hx hb dL_law_360 rfl (lv_at hl 0 rfl) ?_
    refine lv_iconst (v := 2) hx hb dL_law_361 (by decide) ?_
    refine lv_iadd hx hb dL_law_362 ?_
    refine va_sld hx hb hX hbl hbA hS hv2 dL_law_363 ?_
    rw [← ep2]
    refine kX9_promises hx hb hml hown hts hKW q1088 hP hD hS [0, 2, 5, 10] rfl (by decide) e9 hl.1 (Nat.le_of_ble_eq_true rfl) ⟨Nat.le_of_ble_eq_true rfl, Nat.le_of_ble_eq_true rfl⟩ ⟨Nat.le_of_ble_eq_true rfl, Nat.le_of_ble_eq_true rfl⟩ dL_law_364 (fun H locs hP hD hS => ?_)
    have hP : va_P D vwCl (WM cI cZ qm um 0 (nI k) y_at y_token y_place y_value y_fault (nI k') (nI sk) z_traced y_text y_told y_draft y_draftNow r' y_w y_v y_kept y_isKept U' y_seenLoad y_seenOver y_byTaken ++ WX cI cZ cQ qx ux (nI k) z_reader_length z_reader_at z_reader_place z_reader_token z_reader_value z_draft_planks z_draft_size z_draft_sworn z_folk_planks z_folk_size z_folk_sworn z_present_day z_present_crossed (nI k') (nI t') z_gambler_trial_day z_gambler_trial_crossed (nI sk) z_guesser_least z_guesser_greatest z_traced z_letters z_draft_bank z_draft_kind z_draft_word z_draft_slow z_draft_told z_folk_bank z_folk_kind z_folk_word z_folk_slow z_folk_told z_strength_borne z_present_came under' due' z_kept z_gambler_trial_came z_gambler_trial_under z_gambler_trial_due z_guesser_load z_guesser_over z_guesser_borne (up rc 5 c') (up ru 5 u') (up rdu 5 du') ic iu idu (up rday 5 dy') (up rcr 5 cr') iday icr) H := hP
    have hD : va_D (fun q => s.heap.size ≤ q) (WM cI cZ qm um 0 (nI k) y_at y_token y_place y_value y_fault (nI k') (nI sk) z_traced y_text y_told y_draft y_draftNow r' y_w y_v y_kept y_isKept U' y_seenLoad y_seenOver y_byTaken ++ WX cI cZ cQ qx ux (nI k) z_reader_length z_reader_at z_reader_place z_reader_token z_reader_value z_draft_planks z_draft_size z_draft_sworn z_folk_planks z_folk_size z_folk_sworn z_present_day z_present_crossed (nI k') (nI t') z_gambler_trial_day z_gambler_trial_crossed (nI sk) z_guesser_least z_guesser_greatest z_traced z_letters z_draft_bank z_draft_kind z_draft_word z_draft_slow z_draft_told z_folk_bank z_folk_kind z_folk_word z_folk_slow z_folk_told z_strength_borne z_present_came under' due' z_kept z_gambler_trial_came z_gambler_trial_under z_gambler_trial_due z_guesser_load z_guesser_over z_guesser_borne (up rc 5 c') (up ru 5 u') (up rdu 5 du') ic iu idu (up rday 5 dy') (up rcr 5 cr') iday icr) := hD
    refine lv_icmp_eq (tgt := 949) hx hb dL_law_367 (by decide) (fun _ => ?_) (fun h => absurd rfl h)
    exact K _ _ (INV_mk ⟨⟨k, hLR, rfl, rfl⟩, ⟨N, P, bk, kd, wd, sl, hT, hF, hB, hST', ⟨k', t', hH', rfl, rfl, rfl⟩, hIR⟩, ⟨sk, hSR, rfl, rfl⟩, rfl⟩ hP hD) hS
  · refine lv_aload_n hx hb dL_law_339 rfl (lv_at hl 2 rfl) ?_
    refine lv_aload_n hx hb dL_law_340 rfl (lv_at hl 3 rfl) ?_
    refine lv_iload_n hx hb dL_law_341 rfl (lv_at hl 0 rfl) ?_
    refine lv_iconst (v := 1) hx hb dL_law_342 (by decide) ?_
    refine lv_iadd hx hb dL_law_343 ?_
    refine va_sld hx hb hX hbl hbA hS hv1 dL_law_344 ?_
    rw [← ep1]
    refine lv_aload_n hx hb dL_law_345 rfl (lv_at hl 3 rfl) ?_
    refine lv_iload_n hx hb dL_law_346 rfl (lv_at hl 0 rfl) ?_
    refine lv_iconst (v := 2) hx hb dL_law_347 (by decide) ?_
    refine lv_iadd hx hb dL_law_348 ?_
    refine va_sld hx hb hX hbl hbA hS hv2 dL_law_349 ?_
    rw [← ep2]
    refine kX8_promises hx hb hml hown hts hKW q583 hP hD hS [14, 84, 77, 78, 79, 35, 36, 49, 50, 51, 52, 80, 88, 85] rfl (by decide) e8 hl.1 (Nat.le_of_ble_eq_true rfl) ⟨Nat.le_of_ble_eq_true rfl, Nat.le_of_ble_eq_true rfl⟩ ⟨Nat.le_of_ble_eq_true rfl, Nat.le_of_ble_eq_true rfl⟩ dL_law_350 (fun H locs hP hD hS => ?_)
    have hP : va_P D vwCl (WM cI cZ qm um y_thrown (nI k) y_at y_token y_place y_value y_fault (nI hk) (nI sk) z_traced y_text y_told y_draft y_draftNow y_s y_w y_v y_kept y_isKept y_undos y_seenLoad y_seenOver y_byTaken ++ WX cI cZ cQ qx ux (nI k) z_reader_length z_reader_at z_reader_place z_reader_token z_reader_value z_draft_planks z_draft_size z_draft_sworn z_folk_planks z_folk_size z_folk_sworn z_present_day z_present_crossed (nI k') (nI t') z_gambler_trial_day z_gambler_trial_crossed (nI sk) z_guesser_least z_guesser_greatest z_traced z_letters z_draft_bank z_draft_kind z_draft_word z_draft_slow z_draft_told z_folk_bank z_folk_kind z_folk_word z_folk_slow z_folk_told z_strength_borne z_present_came under' due' z_kept z_gambler_trial_came z_gambler_trial_under z_gambler_trial_due z_guesser_load z_guesser_over z_guesser_borne (up rc 6 c') (up ru 6 u') (up rdu 6 du') ic iu idu (up rday 6 dy') (up rcr 6 cr') iday icr) H := hP
    have hD : va_D (fun q => s.heap.size ≤ q) (WM cI cZ qm um y_thrown (nI k) y_at y_token y_place y_value y_fault (nI hk) (nI sk) z_traced y_text y_told y_draft y_draftNow y_s y_w y_v y_kept y_isKept y_undos y_seenLoad y_seenOver y_byTaken ++ WX cI cZ cQ qx ux (nI k) z_reader_length z_reader_at z_reader_place z_reader_token z_reader_value z_draft_planks z_draft_size z_draft_sworn z_folk_planks z_folk_size z_folk_sworn z_present_day z_present_crossed (nI k') (nI t') z_gambler_trial_day z_gambler_trial_crossed (nI sk) z_guesser_least z_guesser_greatest z_traced z_letters z_draft_bank z_draft_kind z_draft_word z_draft_slow z_draft_told z_folk_bank z_folk_kind z_folk_word z_folk_slow z_folk_told z_strength_borne z_present_came under' due' z_kept z_gambler_trial_came z_gambler_trial_under z_gambler_trial_due z_guesser_load z_guesser_over z_guesser_borne (up rc 6 c') (up ru 6 u') (up rdu 6 du') ic iu idu (up rday 6 dy') (up rcr 6 cr') iday icr) := hD
    refine lv_aload_n hx hb dL_law_353 rfl (lv_at hl 1 rfl) ?_
    refine lv_aload_n hx hb dL_law_354 rfl (lv_at hl 3 rfl) ?_
    refine lv_iload_n hx hb dL_law_355 rfl (lv_at hl 0 rfl) ?_
    refine lv_iconst (v := 1) hx hb dL_law_356 (by decide) ?_
    refine lv_iadd hx hb dL_law_357 ?_
    refine va_sld hx hb hX hbl hbA hS hv1 dL_law_358 ?_
    rw [← ep1]
    refine lv_aload_n hx hb dL_law_359 rfl (lv_at hl 3 rfl) ?_
    refine lv_iload_n hx hb dL_law_360 rfl (lv_at hl 0 rfl) ?_
    refine lv_iconst (v := 2) hx hb dL_law_361 (by decide) ?_
    refine lv_iadd hx hb dL_law_362 ?_
    refine va_sld hx hb hX hbl hbA hS hv2 dL_law_363 ?_
    rw [← ep2]
    refine kX9_promises hx hb hml hown hts hKW q1088 hP hD hS [0, 2, 5, 10] rfl (by decide) e9 hl.1 (Nat.le_of_ble_eq_true rfl) ⟨Nat.le_of_ble_eq_true rfl, Nat.le_of_ble_eq_true rfl⟩ ⟨Nat.le_of_ble_eq_true rfl, Nat.le_of_ble_eq_true rfl⟩ dL_law_364 (fun H locs hP hD hS => ?_)
    have hP : va_P D vwCl (WM cI cZ qm um 0 (nI k) y_at y_token y_place y_value y_fault (nI k') (nI sk) z_traced y_text y_told y_draft y_draftNow r' y_w y_v y_kept y_isKept U' y_seenLoad y_seenOver y_byTaken ++ WX cI cZ cQ qx ux (nI k) z_reader_length z_reader_at z_reader_place z_reader_token z_reader_value z_draft_planks z_draft_size z_draft_sworn z_folk_planks z_folk_size z_folk_sworn z_present_day z_present_crossed (nI k') (nI t') z_gambler_trial_day z_gambler_trial_crossed (nI sk) z_guesser_least z_guesser_greatest z_traced z_letters z_draft_bank z_draft_kind z_draft_word z_draft_slow z_draft_told z_folk_bank z_folk_kind z_folk_word z_folk_slow z_folk_told z_strength_borne z_present_came under' due' z_kept z_gambler_trial_came z_gambler_trial_under z_gambler_trial_due z_guesser_load z_guesser_over z_guesser_borne (up rc 6 c') (up ru 6 u') (up rdu 6 du') ic iu idu (up rday 6 dy') (up rcr 6 cr') iday icr) H := hP
    have hD : va_D (fun q => s.heap.size ≤ q) (WM cI cZ qm um 0 (nI k) y_at y_token y_place y_value y_fault (nI k') (nI sk) z_traced y_text y_told y_draft y_draftNow r' y_w y_v y_kept y_isKept U' y_seenLoad y_seenOver y_byTaken ++ WX cI cZ cQ qx ux (nI k) z_reader_length z_reader_at z_reader_place z_reader_token z_reader_value z_draft_planks z_draft_size z_draft_sworn z_folk_planks z_folk_size z_folk_sworn z_present_day z_present_crossed (nI k') (nI t') z_gambler_trial_day z_gambler_trial_crossed (nI sk) z_guesser_least z_guesser_greatest z_traced z_letters z_draft_bank z_draft_kind z_draft_word z_draft_slow z_draft_told z_folk_bank z_folk_kind z_folk_word z_folk_slow z_folk_told z_strength_borne z_present_came under' due' z_kept z_gambler_trial_came z_gambler_trial_under z_gambler_trial_due z_guesser_load z_guesser_over z_guesser_borne (up rc 6 c') (up ru 6 u') (up rdu 6 du') ic iu idu (up rday 6 dy') (up rcr 6 cr') iday icr) := hD
    refine lv_icmp_eq (tgt := 949) hx hb dL_law_367 (by decide) (fun _ => ?_) (fun h => absurd rfl h)
    exact K _ _ (INV_mk ⟨⟨k, hLR, rfl, rfl⟩, ⟨N, P, bk, kd, wd, sl, hT, hF, hB, hST', ⟨k', t', hH', rfl, rfl, rfl⟩, hIR⟩, ⟨sk, hSR, rfl, rfl⟩, rfl⟩ hP hD) hS
  · refine lv_aload_n hx hb dL_law_339 rfl (lv_at hl 2 rfl) ?_
    refine lv_aload_n hx hb dL_law_340 rfl (lv_at hl 3 rfl) ?_
    refine lv_iload_n hx hb dL_law_341 rfl (lv_at hl 0 rfl) ?_
    refine lv_iconst (v := 1) hx hb dL_law_342 (by decide) ?_
    refine lv_iadd hx hb dL_law_343 ?_
    refine va_sld hx hb hX hbl hbA hS hv1 dL_law_344 ?_
    rw [← ep1]
    refine lv_aload_n hx hb dL_law_345 rfl (lv_at hl 3 rfl) ?_
    refine lv_iload_n hx hb dL_law_346 rfl (lv_at hl 0 rfl) ?_
    refine lv_iconst (v := 2) hx hb dL_law_347 (by decide) ?_
    refine lv_iadd hx hb dL_law_348 ?_
    refine va_sld hx hb hX hbl hbA hS hv2 dL_law_349 ?_
    rw [← ep2]
    refine kX8_promises hx hb hml hown hts hKW q583 hP hD hS [14, 84, 77, 78, 79, 35, 36, 45, 46, 47, 48, 80, 88, 85] rfl (by decide) e8 hl.1 (Nat.le_of_ble_eq_true rfl) ⟨Nat.le_of_ble_eq_true rfl, Nat.le_of_ble_eq_true rfl⟩ ⟨Nat.le_of_ble_eq_true rfl, Nat.le_of_ble_eq_true rfl⟩ dL_law_350 (fun H locs hP hD hS => ?_)
    have hP : va_P D vwCl (WM cI cZ qm um y_thrown (nI k) y_at y_token y_place y_value y_fault (nI hk) (nI sk) z_traced y_text y_told y_draft y_draftNow y_s y_w y_v y_kept y_isKept y_undos y_seenLoad y_seenOver y_byTaken ++ WX cI cZ cQ qx ux (nI k) z_reader_length z_reader_at z_reader_place z_reader_token z_reader_value z_draft_planks z_draft_size z_draft_sworn z_folk_planks z_folk_size z_folk_sworn z_present_day z_present_crossed (nI k') (nI t') z_gambler_trial_day z_gambler_trial_crossed (nI sk) z_guesser_least z_guesser_greatest z_traced z_letters z_draft_bank z_draft_kind z_draft_word z_draft_slow z_draft_told z_folk_bank z_folk_kind z_folk_word z_folk_slow z_folk_told z_strength_borne z_present_came under' due' z_kept z_gambler_trial_came z_gambler_trial_under z_gambler_trial_due z_guesser_load z_guesser_over z_guesser_borne (up rc 7 c') (up ru 7 u') (up rdu 7 du') ic iu idu (up rday 7 dy') (up rcr 7 cr') iday icr) H := hP
    have hD : va_D (fun q => s.heap.size ≤ q) (WM cI cZ qm um y_thrown (nI k) y_at y_token y_place y_value y_fault (nI hk) (nI sk) z_traced y_text y_told y_draft y_draftNow y_s y_w y_v y_kept y_isKept y_undos y_seenLoad y_seenOver y_byTaken ++ WX cI cZ cQ qx ux (nI k) z_reader_length z_reader_at z_reader_place z_reader_token z_reader_value z_draft_planks z_draft_size z_draft_sworn z_folk_planks z_folk_size z_folk_sworn z_present_day z_present_crossed (nI k') (nI t') z_gambler_trial_day z_gambler_trial_crossed (nI sk) z_guesser_least z_guesser_greatest z_traced z_letters z_draft_bank z_draft_kind z_draft_word z_draft_slow z_draft_told z_folk_bank z_folk_kind z_folk_word z_folk_slow z_folk_told z_strength_borne z_present_came under' due' z_kept z_gambler_trial_came z_gambler_trial_under z_gambler_trial_due z_guesser_load z_guesser_over z_guesser_borne (up rc 7 c') (up ru 7 u') (up rdu 7 du') ic iu idu (up rday 7 dy') (up rcr 7 cr') iday icr) := hD
    refine lv_aload_n hx hb dL_law_353 rfl (lv_at hl 1 rfl) ?_
    refine lv_aload_n hx hb dL_law_354 rfl (lv_at hl 3 rfl) ?_
    refine lv_iload_n hx hb dL_law_355 rfl (lv_at hl 0 rfl) ?_
    refine lv_iconst (v := 1) hx hb dL_law_356 (by decide) ?_
    refine lv_iadd hx hb dL_law_357 ?_
    refine va_sld hx hb hX hbl hbA hS hv1 dL_law_358 ?_
    rw [← ep1]
    refine lv_aload_n hx hb dL_law_359 rfl (lv_at hl 3 rfl) ?_
    refine lv_iload_n hx hb dL_law_360 rfl (lv_at hl 0 rfl) ?_
    refine lv_iconst (v := 2) hx hb dL_law_361 (by decide) ?_
    refine lv_iadd hx hb dL_law_362 ?_
    refine va_sld hx hb hX hbl hbA hS hv2 dL_law_363 ?_
    rw [← ep2]
    refine kX9_promises hx hb hml hown hts hKW q1088 hP hD hS [0, 2, 5, 10] rfl (by decide) e9 hl.1 (Nat.le_of_ble_eq_true rfl) ⟨Nat.le_of_ble_eq_true rfl, Nat.le_of_ble_eq_true rfl⟩ ⟨Nat.le_of_ble_eq_true rfl, Nat.le_of_ble_eq_true rfl⟩ dL_law_364 (fun H locs hP hD hS => ?_)
    have hP : va_P D vwCl (WM cI cZ qm um 0 (nI k) y_at y_token y_place y_value y_fault (nI k') (nI sk) z_traced y_text y_told y_draft y_draftNow r' y_w y_v y_kept y_isKept U' y_seenLoad y_seenOver y_byTaken ++ WX cI cZ cQ qx ux (nI k) z_reader_length z_reader_at z_reader_place z_reader_token z_reader_value z_draft_planks z_draft_size z_draft_sworn z_folk_planks z_folk_size z_folk_sworn z_present_day z_present_crossed (nI k') (nI t') z_gambler_trial_day z_gambler_trial_crossed (nI sk) z_guesser_least z_guesser_greatest z_traced z_letters z_draft_bank z_draft_kind z_draft_word z_draft_slow z_draft_told z_folk_bank z_folk_kind z_folk_word z_folk_slow z_folk_told z_strength_borne z_present_came under' due' z_kept z_gambler_trial_came z_gambler_trial_under z_gambler_trial_due z_guesser_load z_guesser_over z_guesser_borne (up rc 7 c') (up ru 7 u') (up rdu 7 du') ic iu idu (up rday 7 dy') (up rcr 7 cr') iday icr) H := hP
    have hD : va_D (fun q => s.heap.size ≤ q) (WM cI cZ qm um 0 (nI k) y_at y_token y_place y_value y_fault (nI k') (nI sk) z_traced y_text y_told y_draft y_draftNow r' y_w y_v y_kept y_isKept U' y_seenLoad y_seenOver y_byTaken ++ WX cI cZ cQ qx ux (nI k) z_reader_length z_reader_at z_reader_place z_reader_token z_reader_value z_draft_planks z_draft_size z_draft_sworn z_folk_planks z_folk_size z_folk_sworn z_present_day z_present_crossed (nI k') (nI t') z_gambler_trial_day z_gambler_trial_crossed (nI sk) z_guesser_least z_guesser_greatest z_traced z_letters z_draft_bank z_draft_kind z_draft_word z_draft_slow z_draft_told z_folk_bank z_folk_kind z_folk_word z_folk_slow z_folk_told z_strength_borne z_present_came under' due' z_kept z_gambler_trial_came z_gambler_trial_under z_gambler_trial_due z_guesser_load z_guesser_over z_guesser_borne (up rc 7 c') (up ru 7 u') (up rdu 7 du') ic iu idu (up rday 7 dy') (up rcr 7 cr') iday icr) := hD
    refine lv_icmp_eq (tgt := 949) hx hb dL_law_367 (by decide) (fun _ => ?_) (fun h => absurd rfl h)
    exact K _ _ (INV_mk ⟨⟨k, hLR, rfl, rfl⟩, ⟨N, P, bk, kd, wd, sl, hT, hF, hB, hST', ⟨k', t', hH', rfl, rfl, rfl⟩, hIR⟩, ⟨sk, hSR, rfl, rfl⟩, rfl⟩ hP hD) hS
  · refine lv_aload_n hx hb dL_law_339 rfl (lv_at hl 2 rfl) ?_
    refine lv_aload_n hx hb dL_law_340 rfl (lv_at hl 3 rfl) ?_
    refine lv_iload_n hx hb dL_law_341 rfl (lv_at hl 0 rfl) ?_
    refine lv_iconst (v := 1) hx hb dL_law_342 (by decide) ?_
    refine lv_iadd hx hb dL_law_343 ?_
    refine va_sld hx hb hX hbl hbA hS hv1 dL_law_344 ?_
    rw [← ep1]
    refine lv_aload_n hx hb dL_law_345 rfl (lv_at hl 3 rfl) ?_
    refine lv_iload_n hx hb dL_law_346 rfl (lv_at hl 0 rfl) ?_
    refine lv_iconst (v := 2) hx hb dL_law_347 (by decide) ?_
    refine lv_iadd hx hb dL_law_348 ?_
    refine va_sld hx hb hX hbl hbA hS hv2 dL_law_349 ?_
    rw [← ep2]
    refine kX8_promises hx hb hml hown hts hKW q583 hP hD hS [14, 84, 77, 78, 79, 35, 36, 41, 42, 43, 44, 80, 88, 85] rfl (by decide) e8 hl.1 (Nat.le_of_ble_eq_true rfl) ⟨Nat.le_of_ble_eq_true rfl, Nat.le_of_ble_eq_true rfl⟩ ⟨Nat.le_of_ble_eq_true rfl, Nat.le_of_ble_eq_true rfl⟩ dL_law_350 (fun H locs hP hD hS => ?_)
    have hP : va_P D vwCl (WM cI cZ qm um y_thrown (nI k) y_at y_token y_place y_value y_fault (nI hk) (nI sk) z_traced y_text y_told y_draft y_draftNow y_s y_w y_v y_kept y_isKept y_undos y_seenLoad y_seenOver y_byTaken ++ WX cI cZ cQ qx ux (nI k) z_reader_length z_reader_at z_reader_place z_reader_token z_reader_value z_draft_planks z_draft_size z_draft_sworn z_folk_planks z_folk_size z_folk_sworn z_present_day z_present_crossed (nI k') (nI t') z_gambler_trial_day z_gambler_trial_crossed (nI sk) z_guesser_least z_guesser_greatest z_traced z_letters z_draft_bank z_draft_kind z_draft_word z_draft_slow z_draft_told z_folk_bank z_folk_kind z_folk_word z_folk_slow z_folk_told z_strength_borne z_present_came under' due' z_kept z_gambler_trial_came z_gambler_trial_under z_gambler_trial_due z_guesser_load z_guesser_over z_guesser_borne (up rc 8 c') (up ru 8 u') (up rdu 8 du') ic iu idu (up rday 8 dy') (up rcr 8 cr') iday icr) H := hP
    have hD : va_D (fun q => s.heap.size ≤ q) (WM cI cZ qm um y_thrown (nI k) y_at y_token y_place y_value y_fault (nI hk) (nI sk) z_traced y_text y_told y_draft y_draftNow y_s y_w y_v y_kept y_isKept y_undos y_seenLoad y_seenOver y_byTaken ++ WX cI cZ cQ qx ux (nI k) z_reader_length z_reader_at z_reader_place z_reader_token z_reader_value z_draft_planks z_draft_size z_draft_sworn z_folk_planks z_folk_size z_folk_sworn z_present_day z_present_crossed (nI k') (nI t') z_gambler_trial_day z_gambler_trial_crossed (nI sk) z_guesser_least z_guesser_greatest z_traced z_letters z_draft_bank z_draft_kind z_draft_word z_draft_slow z_draft_told z_folk_bank z_folk_kind z_folk_word z_folk_slow z_folk_told z_strength_borne z_present_came under' due' z_kept z_gambler_trial_came z_gambler_trial_under z_gambler_trial_due z_guesser_load z_guesser_over z_guesser_borne (up rc 8 c') (up ru 8 u') (up rdu 8 du') ic iu idu (up rday 8 dy') (up rcr 8 cr') iday icr) := hD
    refine lv_aload_n hx hb dL_law_353 rfl (lv_at hl 1 rfl) ?_
    refine lv_aload_n hx hb dL_law_354 rfl (lv_at hl 3 rfl) ?_
    refine lv_iload_n hx hb dL_law_355 rfl (lv_at hl 0 rfl) ?_
    refine lv_iconst (v := 1) hx hb dL_law_356 (by decide) ?_
    refine lv_iadd hx hb dL_law_357 ?_
    refine va_sld hx hb hX hbl hbA hS hv1 dL_law_358 ?_
    rw [← ep1]
    refine lv_aload_n hx hb dL_law_359 rfl (lv_at hl 3 rfl) ?_
    refine lv_iload_n hx hb dL_law_360 rfl (lv_at hl 0 rfl) ?_
    refine lv_iconst (v := 2) hx hb dL_law_361 (by decide) ?_
    refine lv_iadd hx hb dL_law_362 ?_
    refine va_sld hx hb hX hbl hbA hS hv2 dL_law_363 ?_
    rw [← ep2]
    refine kX9_promises hx hb hml hown hts hKW q1088 hP hD hS [0, 2, 5, 10] rfl (by decide) e9 hl.1 (Nat.le_of_ble_eq_true rfl) ⟨Nat.le_of_ble_eq_true rfl, Nat.le_of_ble_eq_true rfl⟩ ⟨Nat.le_of_ble_eq_true rfl, Nat.le_of_ble_eq_true rfl⟩ dL_law_364 (fun H locs hP hD hS => ?_)
    have hP : va_P D vwCl (WM cI cZ qm um 0 (nI k) y_at y_token y_place y_value y_fault (nI k') (nI sk) z_traced y_text y_told y_draft y_draftNow r' y_w y_v y_kept y_isKept U' y_seenLoad y_seenOver y_byTaken ++ WX cI cZ cQ qx ux (nI k) z_reader_length z_reader_at z_reader_place z_reader_token z_reader_value z_draft_planks z_draft_size z_draft_sworn z_folk_planks z_folk_size z_folk_sworn z_present_day z_present_crossed (nI k') (nI t') z_gambler_trial_day z_gambler_trial_crossed (nI sk) z_guesser_least z_guesser_greatest z_traced z_letters z_draft_bank z_draft_kind z_draft_word z_draft_slow z_draft_told z_folk_bank z_folk_kind z_folk_word z_folk_slow z_folk_told z_strength_borne z_present_came under' due' z_kept z_gambler_trial_came z_gambler_trial_under z_gambler_trial_due z_guesser_load z_guesser_over z_guesser_borne (up rc 8 c') (up ru 8 u') (up rdu 8 du') ic iu idu (up rday 8 dy') (up rcr 8 cr') iday icr) H := hP
    have hD : va_D (fun q => s.heap.size ≤ q) (WM cI cZ qm um 0 (nI k) y_at y_token y_place y_value y_fault (nI k') (nI sk) z_traced y_text y_told y_draft y_draftNow r' y_w y_v y_kept y_isKept U' y_seenLoad y_seenOver y_byTaken ++ WX cI cZ cQ qx ux (nI k) z_reader_length z_reader_at z_reader_place z_reader_token z_reader_value z_draft_planks z_draft_size z_draft_sworn z_folk_planks z_folk_size z_folk_sworn z_present_day z_present_crossed (nI k') (nI t') z_gambler_trial_day z_gambler_trial_crossed (nI sk) z_guesser_least z_guesser_greatest z_traced z_letters z_draft_bank z_draft_kind z_draft_word z_draft_slow z_draft_told z_folk_bank z_folk_kind z_folk_word z_folk_slow z_folk_told z_strength_borne z_present_came under' due' z_kept z_gambler_trial_came z_gambler_trial_under z_gambler_trial_due z_guesser_load z_guesser_over z_guesser_borne (up rc 8 c') (up ru 8 u') (up rdu 8 du') ic iu idu (up rday 8 dy') (up rcr 8 cr') iday icr) := hD
    refine lv_icmp_eq (tgt := 949) hx hb dL_law_367 (by decide) (fun _ => ?_) (fun h => absurd rfl h)
    exact K _ _ (INV_mk ⟨⟨k, hLR, rfl, rfl⟩, ⟨N, P, bk, kd, wd, sl, hT, hF, hB, hST', ⟨k', t', hH', rfl, rfl, rfl⟩, hIR⟩, ⟨sk, hSR, rfl, rfl⟩, rfl⟩ hP hD) hS
  · refine lv_aload_n hx hb dL_law_339 rfl (lv_at hl 2 rfl) ?_
    refine lv_aload_n hx hb dL_law_340 rfl (lv_at hl 3 rfl) ?_
    refine lv_iload_n hx hb dL_law_341 rfl (lv_at hl 0 rfl) ?_
    refine lv_iconst (v := 1) hx hb dL_law_342 (by decide) ?_
    refine lv_iadd hx hb dL_law_343 ?_
    refine va_sld hx hb hX hbl hbA hS hv1 dL_law_344 ?_
    rw [← ep1]
    refine lv_aload_n hx hb dL_law_345 rfl (lv_at hl 3 rfl) ?_
    refine lv_iload_n hx hb dL_law_346 rfl (lv_at hl 0 rfl) ?_
    refine lv_iconst (v := 2) hx hb dL_law_347 (by decide) ?_
    refine lv_iadd hx hb dL_law_348 ?_
    refine va_sld hx hb hX hbl hbA hS hv2 dL_law_349 ?_
    rw [← ep2]
    refine kX8_promises hx hb hml hown hts hKW q583 hP hD hS [14, 84, 77, 78, 79, 35, 36, 37, 38, 39, 40, 80, 88, 85] rfl (by decide) e8 hl.1 (Nat.le_of_ble_eq_true rfl) ⟨Nat.le_of_ble_eq_true rfl, Nat.le_of_ble_eq_true rfl⟩ ⟨Nat.le_of_ble_eq_true rfl, Nat.le_of_ble_eq_true rfl⟩ dL_law_350 (fun H locs hP hD hS => ?_)
    have hP : va_P D vwCl (WM cI cZ qm um y_thrown (nI k) y_at y_token y_place y_value y_fault (nI hk) (nI sk) z_traced y_text y_told y_draft y_draftNow y_s y_w y_v y_kept y_isKept y_undos y_seenLoad y_seenOver y_byTaken ++ WX cI cZ cQ qx ux (nI k) z_reader_length z_reader_at z_reader_place z_reader_token z_reader_value z_draft_planks z_draft_size z_draft_sworn z_folk_planks z_folk_size z_folk_sworn z_present_day z_present_crossed (nI k') (nI t') z_gambler_trial_day z_gambler_trial_crossed (nI sk) z_guesser_least z_guesser_greatest z_traced z_letters z_draft_bank z_draft_kind z_draft_word z_draft_slow z_draft_told z_folk_bank z_folk_kind z_folk_word z_folk_slow z_folk_told z_strength_borne z_present_came under' due' z_kept z_gambler_trial_came z_gambler_trial_under z_gambler_trial_due z_guesser_load z_guesser_over z_guesser_borne (up rc 9 c') (up ru 9 u') (up rdu 9 du') ic iu idu (up rday 9 dy') (up rcr 9 cr') iday icr) H := hP
    have hD : va_D (fun q => s.heap.size ≤ q) (WM cI cZ qm um y_thrown (nI k) y_at y_token y_place y_value y_fault (nI hk) (nI sk) z_traced y_text y_told y_draft y_draftNow y_s y_w y_v y_kept y_isKept y_undos y_seenLoad y_seenOver y_byTaken ++ WX cI cZ cQ qx ux (nI k) z_reader_length z_reader_at z_reader_place z_reader_token z_reader_value z_draft_planks z_draft_size z_draft_sworn z_folk_planks z_folk_size z_folk_sworn z_present_day z_present_crossed (nI k') (nI t') z_gambler_trial_day z_gambler_trial_crossed (nI sk) z_guesser_least z_guesser_greatest z_traced z_letters z_draft_bank z_draft_kind z_draft_word z_draft_slow z_draft_told z_folk_bank z_folk_kind z_folk_word z_folk_slow z_folk_told z_strength_borne z_present_came under' due' z_kept z_gambler_trial_came z_gambler_trial_under z_gambler_trial_due z_guesser_load z_guesser_over z_guesser_borne (up rc 9 c') (up ru 9 u') (up rdu 9 du') ic iu idu (up rday 9 dy') (up rcr 9 cr') iday icr) := hD
    refine lv_aload_n hx hb dL_law_353 rfl (lv_at hl 1 rfl) ?_
    refine lv_aload_n hx hb dL_law_354 rfl (lv_at hl 3 rfl) ?_
    refine lv_iload_n hx hb dL_law_355 rfl (lv_at hl 0 rfl) ?_
    refine lv_iconst (v := 1) hx hb dL_law_356 (by decide) ?_
    refine lv_iadd hx hb dL_law_357 ?_
    refine va_sld hx hb hX hbl hbA hS hv1 dL_law_358 ?_
    rw [← ep1]
    refine lv_aload_n hx hb dL_law_359 rfl (lv_at hl 3 rfl) ?_
    refine lv_iload_n hx hb dL_law_360 rfl (lv_at hl 0 rfl) ?_
    refine lv_iconst (v := 2) hx hb dL_law_361 (by decide) ?_
    refine lv_iadd hx hb dL_law_362 ?_
    refine va_sld hx hb hX hbl hbA hS hv2 dL_law_363 ?_
    rw [← ep2]
    refine kX9_promises hx hb hml hown hts hKW q1088 hP hD hS [0, 2, 5, 10] rfl (by decide) e9 hl.1 (Nat.le_of_ble_eq_true rfl) ⟨Nat.le_of_ble_eq_true rfl, Nat.le_of_ble_eq_true rfl⟩ ⟨Nat.le_of_ble_eq_true rfl, Nat.le_of_ble_eq_true rfl⟩ dL_law_364 (fun H locs hP hD hS => ?_)
    have hP : va_P D vwCl (WM cI cZ qm um 0 (nI k) y_at y_token y_place y_value y_fault (nI k') (nI sk) z_traced y_text y_told y_draft y_draftNow r' y_w y_v y_kept y_isKept U' y_seenLoad y_seenOver y_byTaken ++ WX cI cZ cQ qx ux (nI k) z_reader_length z_reader_at z_reader_place z_reader_token z_reader_value z_draft_planks z_draft_size z_draft_sworn z_folk_planks z_folk_size z_folk_sworn z_present_day z_present_crossed (nI k') (nI t') z_gambler_trial_day z_gambler_trial_crossed (nI sk) z_guesser_least z_guesser_greatest z_traced z_letters z_draft_bank z_draft_kind z_draft_word z_draft_slow z_draft_told z_folk_bank z_folk_kind z_folk_word z_folk_slow z_folk_told z_strength_borne z_present_came under' due' z_kept z_gambler_trial_came z_gambler_trial_under z_gambler_trial_due z_guesser_load z_guesser_over z_guesser_borne (up rc 9 c') (up ru 9 u') (up rdu 9 du') ic iu idu (up rday 9 dy') (up rcr 9 cr') iday icr) H := hP
    have hD : va_D (fun q => s.heap.size ≤ q) (WM cI cZ qm um 0 (nI k) y_at y_token y_place y_value y_fault (nI k') (nI sk) z_traced y_text y_told y_draft y_draftNow r' y_w y_v y_kept y_isKept U' y_seenLoad y_seenOver y_byTaken ++ WX cI cZ cQ qx ux (nI k) z_reader_length z_reader_at z_reader_place z_reader_token z_reader_value z_draft_planks z_draft_size z_draft_sworn z_folk_planks z_folk_size z_folk_sworn z_present_day z_present_crossed (nI k') (nI t') z_gambler_trial_day z_gambler_trial_crossed (nI sk) z_guesser_least z_guesser_greatest z_traced z_letters z_draft_bank z_draft_kind z_draft_word z_draft_slow z_draft_told z_folk_bank z_folk_kind z_folk_word z_folk_slow z_folk_told z_strength_borne z_present_came under' due' z_kept z_gambler_trial_came z_gambler_trial_under z_gambler_trial_due z_guesser_load z_guesser_over z_guesser_borne (up rc 9 c') (up ru 9 u') (up rdu 9 du') ic iu idu (up rday 9 dy') (up rcr 9 cr') iday icr) := hD
    refine lv_icmp_eq (tgt := 949) hx hb dL_law_367 (by decide) (fun _ => ?_) (fun h => absurd rfl h)
    exact K _ _ (INV_mk ⟨⟨k, hLR, rfl, rfl⟩, ⟨N, P, bk, kd, wd, sl, hT, hF, hB, hST', ⟨k', t', hH', rfl, rfl, rfl⟩, hIR⟩, ⟨sk, hSR, rfl, rfl⟩, rfl⟩ hP hD) hS

set_option maxHeartbeats 4000000 in
set_option maxRecDepth 100000 in
theorem op_breaks {p : Program} {l : Launch} {e : Env} {s : State} {m : MethodId} {below : List Frame} {meth : Method} {c : Code} {b L : Nat} {xs : Nat → Int32} {D : va_G} {cI cZ cQ : ClassId} {adK adV : Nat → Nat} {qx qm : Nat} {ux um : Nat → Nat → Nat} (C0 : lw_At p s m meth c b L xs) (hKW : KW D (TY cI cZ cQ) s) (hSK : SK adK adV (fun q => s.heap.size ≤ q) s s.heap) {i : Nat} (hi : i + 4 ≤ L) (hL : L ≤ 2048) {H : Heap} {locs : List Loc} {z_typed : Int32} {z_reader_length : Int32} {z_reader_at : Int32} {z_reader_place : Int32} {z_reader_token : Int32} {z_reader_value : Int32} {z_draft_planks : Int32} {z_draft_size : Int32} {z_draft_sworn : Int32} {z_folk_planks : Int32} {z_folk_size : Int32} {z_folk_sworn : Int32} {z_present_day : Int32} {z_present_crossed : Int32} {z_history_known : Int32} {z_history_top : Int32} {z_gambler_trial_day : Int32} {z_gambler_trial_crossed : Int32} {z_guesser_seen : Int32} {z_guesser_least : Int32} {z_guesser_greatest : Int32} {z_traced : Int64} {z_letters : Nat → Int32} {z_draft_bank : Nat → Int32} {z_draft_kind : Nat → Int32} {z_draft_word : Nat → Int32} {z_draft_slow : Nat → Int32} {z_draft_told : Nat → Int32} {z_folk_bank : Nat → Int32} {z_folk_kind : Nat → Int32} {z_folk_word : Nat → Int32} {z_folk_slow : Nat → Int32} {z_folk_told : Nat → Int32} {z_strength_borne : Nat → Int32} {z_present_came : Nat → Int32} {z_present_under : Nat → Int32} {z_present_due : Nat → Int32} {z_kept : Nat → Int32} {z_gambler_trial_came : Nat → Int32} {z_gambler_trial_under : Nat → Int32} {z_gambler_trial_due : Nat → Int32} {z_guesser_load : Nat → Int32} {z_guesser_over : Nat → Int32} {z_guesser_borne : Nat → Int32} {rc : Nat → Nat → Int32} {ru : Nat → Nat → Int32} {rdu : Nat → Nat → Int32} {ic : Nat → Nat → Int32} {iu : Nat → Nat → Int32} {idu : Nat → Nat → Int32} {rday : Nat → Int32} {rcr : Nat → Int32} {iday : Nat → Int32} {icr : Nat → Int32} {y_thrown : Int32} {y_typed : Int32} {y_at : Int32} {y_token : Int32} {y_place : Int32} {y_value : Int32} {y_fault : Int32} {y_undoMany : Int32} {y_seenMany : Int32} {y_trace : Int64} {y_text : Nat → Int32} {y_told : Nat → Int32} {y_draft : Nat → Int32} {y_draftNow : Nat → Int32} {y_s : Nat → Int32} {y_w : Nat → Int32} {y_v : Nat → Int32} {y_kept : Nat → Int32} {y_isKept : Nat → Int32} {y_undos : Nat → Int32} {y_seenLoad : Nat → Int32} {y_seenOver : Nat → Int32} {y_byTaken : Nat → Int32} (hREL : REL z_typed z_letters z_folk_planks z_folk_size z_folk_sworn z_folk_bank z_folk_kind z_folk_word z_folk_slow z_strength_borne z_present_day z_present_crossed z_present_came z_present_under z_present_due z_history_known z_history_top rday rcr rc ru rdu z_kept iday icr ic iu idu z_guesser_seen z_guesser_load z_guesser_over z_traced y_typed y_text y_told y_s y_undoMany y_undos y_isKept y_kept y_seenMany y_seenLoad y_seenOver y_trace) (hP : va_P D vwCl (WM cI cZ qm um y_thrown y_typed y_at y_token y_place y_value y_fault y_undoMany y_seenMany y_trace y_text y_told y_draft y_draftNow y_s y_w y_v y_kept y_isKept y_undos y_seenLoad y_seenOver y_byTaken ++ WX cI cZ cQ qx ux z_typed z_reader_length z_reader_at z_reader_place z_reader_token z_reader_value z_draft_planks z_draft_size z_draft_sworn z_folk_planks z_folk_size z_folk_sworn z_present_day z_present_crossed z_history_known z_history_top z_gambler_trial_day z_gambler_trial_crossed z_guesser_seen z_guesser_least z_guesser_greatest z_traced z_letters z_draft_bank z_draft_kind z_draft_word z_draft_slow z_draft_told z_folk_bank z_folk_kind z_folk_word z_folk_slow z_folk_told z_strength_borne z_present_came z_present_under z_present_due z_kept z_gambler_trial_came z_gambler_trial_under z_gambler_trial_due z_guesser_load z_guesser_over z_guesser_borne rc ru rdu ic iu idu rday rcr iday icr) H) (hD : va_D (fun q => s.heap.size ≤ q) (WM cI cZ qm um y_thrown y_typed y_at y_token y_place y_value y_fault y_undoMany y_seenMany y_trace y_text y_told y_draft y_draftNow y_s y_w y_v y_kept y_isKept y_undos y_seenLoad y_seenOver y_byTaken ++ WX cI cZ cQ qx ux z_typed z_reader_length z_reader_at z_reader_place z_reader_token z_reader_value z_draft_planks z_draft_size z_draft_sworn z_folk_planks z_folk_size z_folk_sworn z_present_day z_present_crossed z_history_known z_history_top z_gambler_trial_day z_gambler_trial_crossed z_guesser_seen z_guesser_least z_guesser_greatest z_traced z_letters z_draft_bank z_draft_kind z_draft_word z_draft_slow z_draft_told z_folk_bank z_folk_kind z_folk_word z_folk_slow z_folk_told z_strength_borne z_present_came z_present_under z_present_due z_kept z_gambler_trial_came z_gambler_trial_under z_gambler_trial_due z_guesser_load z_guesser_over z_guesser_borne rc ru rdu ic iu idu rday rcr iday icr)) (hS : va_S (fun q => s.heap.size ≤ q) s.heap H locs) {ls : Array Slot} (hl : lv_has ls 4 [(3, .int (nI i)), (2, .ref qm), (1, .ref qx), (0, .ref b)]) (K : ∀ (H1 : Heap) (locs1 : List Loc), INV D (fun q => s.heap.size ≤ q) cI cZ cQ qx ux qm um H1 → va_S (fun q => s.heap.size ≤ q) s.heap H1 locs1 → W p l e room_1 s m #[Value.ref b] below meth c H1 locs1 100 4000 (lw_Z below #[Value.ref b] s) (F0 m 949 ls [])) : W p l e room_1 s m #[Value.ref b] below meth c H locs 100 4000 (lw_Z below #[Value.ref b] s) (F0 m 372 ls []) := by
  obtain ⟨⟨k, hLR, rfl, rfl⟩, ⟨N, P, bk, kd, wd, sl, hT, hF, hB, hST, ⟨hk, ht, hH, rfl, rfl, rfl⟩, hIR⟩, ⟨sk, hSR, rfl, rfl⟩, rfl⟩ := hREL
  obtain ⟨hx, hb, hr, hml, hown0, hts0, hX, hbl, hlocks, hgv⟩ := id C0
  have hown : s.vm.findClass RL = some m.cls := hown0
  have hts := tb_law hts0
  have hbA : ¬ (fun q : Nat => s.heap.size ≤ q) b := Nat.not_le.mpr hbl
  have hv1 : vp_in (nI i + 1) L := by rw [show nI i + 1 = nI (i + 1) from nI_add i 1]; exact vp_in_nI (by omega) (by omega)
  obtain ⟨p1, ep1⟩ : ∃ z, z = xs (nI i + 1).toNatClampNeg := ⟨_, rfl⟩
  have hv2 : vp_in (nI i + 2) L := by rw [show nI i + 2 = nI (i + 2) from nI_add i 2]; exact vp_in_nI (by omega) (by omega)
  obtain ⟨p2, ep2⟩ : ∃ z, z = xs (nI i + 2).toNatClampNeg := ⟨_, rfl⟩
  obtain ⟨g, v, came', under', r', k', t', c', u', du', dy', cr', U', hg, e8, e9, hH', hST'⟩ := q_breaks (fu := 1000) (th := y_thrown) (by omega) hT hF hB hH hST p1 p2
  have hg2 : g = 0 ∨ g = 1 ∨ g = 2 ∨ g = 3 ∨ g = 4 ∨ g = 5 ∨ g = 6 ∨ g = 7 ∨ g = 8 ∨ g = 9 := by omega
  rcases hg2 with rfl | rfl | rfl | rfl | rfl | rfl | rfl | rfl | rfl | rfl
  · refine lv_aload_n hx hb dL_law_372 rfl (lv_at hl 2 rfl) ?_
    refine lv_aload_n hx hb dL_law_373 rfl (lv_at hl 3 rfl) ?_
    refine lv_iload_n hx hb dL_law_374 rfl (lv_at hl 0 rfl) ?_
    refine lv_iconst (v := 1) hx hb dL_law_375 (by decide) ?_
    refine lv_iadd hx hb dL_law_376 ?_
    refine va_sld hx hb hX hbl hbA hS hv1 dL_law_377 ?_
    rw [← ep1]
    refine lv_aload_n hx hb dL_law_378 rfl (lv_at hl 3 rfl) ?_
    refine lv_iload_n hx hb dL_law_379 rfl (lv_at hl 0 rfl) ?_
    refine lv_iconst (v := 2) hx hb dL_law_380 (by decide) ?_
    refine lv_iadd hx hb dL_law_381 ?_
    refine va_sld hx hb hX hbl hbA hS hv2 dL_law_382 ?_
    rw [← ep2]
    refine kX8_breaks hx hb hml hown hts hKW q610 hP hD hS [14, 84, 77, 78, 79, 35, 36, 73, 74, 75, 76, 80, 81, 82] rfl (by decide) e8 hl.1 (Nat.le_of_ble_eq_true rfl) ⟨Nat.le_of_ble_eq_true rfl, Nat.le_of_ble_eq_true rfl⟩ ⟨Nat.le_of_ble_eq_true rfl, Nat.le_of_ble_eq_true rfl⟩ dL_law_383 (fun H locs hP hD hS => ?_)
    have hP : va_P D vwCl (WM cI cZ qm um y_thrown (nI k) y_at y_token y_place y_value y_fault (nI hk) (nI sk) z_traced y_text y_told y_draft y_draftNow y_s y_w y_v y_kept y_isKept y_undos y_seenLoad y_seenOver y_byTaken ++ WX cI cZ cQ qx ux (nI k) z_reader_length z_reader_at z_reader_place z_reader_token z_reader_value z_draft_planks z_draft_size z_draft_sworn z_folk_planks z_folk_size z_folk_sworn z_present_day z_present_crossed (nI k') (nI t') z_gambler_trial_day z_gambler_trial_crossed (nI sk) z_guesser_least z_guesser_greatest z_traced z_letters z_draft_bank z_draft_kind z_draft_word z_draft_slow z_draft_told z_folk_bank z_folk_kind z_folk_word z_folk_slow z_folk_told z_strength_borne came' under' z_present_due z_kept z_gambler_trial_came z_gambler_trial_under z_gambler_trial_due z_guesser_load z_guesser_over z_guesser_borne (up rc 0 c') (up ru 0 u') (up rdu 0 du') ic iu idu (up rday 0 dy') (up rcr 0 cr') iday icr) H := hP
    have hD : va_D (fun q => s.heap.size ≤ q) (WM cI cZ qm um y_thrown (nI k) y_at y_token y_place y_value y_fault (nI hk) (nI sk) z_traced y_text y_told y_draft y_draftNow y_s y_w y_v y_kept y_isKept y_undos y_seenLoad y_seenOver y_byTaken ++ WX cI cZ cQ qx ux (nI k) z_reader_length z_reader_at z_reader_place z_reader_token z_reader_value z_draft_planks z_draft_size z_draft_sworn z_folk_planks z_folk_size z_folk_sworn z_present_day z_present_crossed (nI k') (nI t') z_gambler_trial_day z_gambler_trial_crossed (nI sk) z_guesser_least z_guesser_greatest z_traced z_letters z_draft_bank z_draft_kind z_draft_word z_draft_slow z_draft_told z_folk_bank z_folk_kind z_folk_word z_folk_slow z_folk_told z_strength_borne came' under' z_present_due z_kept z_gambler_trial_came z_gambler_trial_under z_gambler_trial_due z_guesser_load z_guesser_over z_guesser_borne (up rc 0 c') (up ru 0 u') (up rdu 0 du') ic iu idu (up rday 0 dy') (up rcr 0 cr') iday icr) := hD
    refine lv_aload_n hx hb dL_law_386 rfl (lv_at hl 1 rfl) ?_
    refine lv_aload_n hx hb dL_law_387 rfl (lv_at hl 3 rfl) ?_
    refine lv_iload_n hx hb dL_law_388 rfl (lv_at hl 0 rfl) ?_
    refine lv_iconst (v := 1) hx hb dL_law_389 (by decide) ?_
    refine lv_iadd hx hb dL_law_390 ?_
    refine va_sld hx hb hX hbl hbA hS hv1 dL_law_391 ?_
    rw [← ep1]
    refine lv_aload_n hx hb dL_law_392 rfl (lv_at hl 3 rfl) ?_
    refine lv_iload_n hx hb dL_law_393 rfl (lv_at hl 0 rfl) ?_
    refine lv_iconst (v := 2) hx hb dL_law_394 (by decide) ?_
    refine lv_iadd hx hb dL_law_395 ?_
    refine va_sld hx hb hX hbl hbA hS hv2 dL_law_396 ?_
    rw [← ep2]
    refine kX9_breaks hx hb hml hown hts hKW q1100 hP hD hS [0, 2, 5, 10] rfl (by decide) e9 hl.1 (Nat.le_of_ble_eq_true rfl) ⟨Nat.le_of_ble_eq_true rfl, Nat.le_of_ble_eq_true rfl⟩ ⟨Nat.le_of_ble_eq_true rfl, Nat.le_of_ble_eq_true rfl⟩ dL_law_397 (fun H locs hP hD hS => ?_)
    have hP : va_P D vwCl (WM cI cZ qm um 0 (nI k) y_at y_token y_place y_value y_fault (nI k') (nI sk) z_traced y_text y_told y_draft y_draftNow r' y_w y_v y_kept y_isKept U' y_seenLoad y_seenOver y_byTaken ++ WX cI cZ cQ qx ux (nI k) z_reader_length z_reader_at z_reader_place z_reader_token z_reader_value z_draft_planks z_draft_size z_draft_sworn z_folk_planks z_folk_size z_folk_sworn z_present_day z_present_crossed (nI k') (nI t') z_gambler_trial_day z_gambler_trial_crossed (nI sk) z_guesser_least z_guesser_greatest z_traced z_letters z_draft_bank z_draft_kind z_draft_word z_draft_slow z_draft_told z_folk_bank z_folk_kind z_folk_word z_folk_slow z_folk_told z_strength_borne came' under' z_present_due z_kept z_gambler_trial_came z_gambler_trial_under z_gambler_trial_due z_guesser_load z_guesser_over z_guesser_borne (up rc 0 c') (up ru 0 u') (up rdu 0 du') ic iu idu (up rday 0 dy') (up rcr 0 cr') iday icr) H := hP
    have hD : va_D (fun q => s.heap.size ≤ q) (WM cI cZ qm um 0 (nI k) y_at y_token y_place y_value y_fault (nI k') (nI sk) z_traced y_text y_told y_draft y_draftNow r' y_w y_v y_kept y_isKept U' y_seenLoad y_seenOver y_byTaken ++ WX cI cZ cQ qx ux (nI k) z_reader_length z_reader_at z_reader_place z_reader_token z_reader_value z_draft_planks z_draft_size z_draft_sworn z_folk_planks z_folk_size z_folk_sworn z_present_day z_present_crossed (nI k') (nI t') z_gambler_trial_day z_gambler_trial_crossed (nI sk) z_guesser_least z_guesser_greatest z_traced z_letters z_draft_bank z_draft_kind z_draft_word z_draft_slow z_draft_told z_folk_bank z_folk_kind z_folk_word z_folk_slow z_folk_told z_strength_borne came' under' z_present_due z_kept z_gambler_trial_came z_gambler_trial_under z_gambler_trial_due z_guesser_load z_guesser_over z_guesser_borne (up rc 0 c') (up ru 0 u') (up rdu 0 du') ic iu idu (up rday 0 dy') (up rcr 0 cr') iday icr) := hD
    refine lv_icmp_eq (tgt := 949) hx hb dL_law_400 (by decide) (fun _ => ?_) (fun h => absurd rfl h)
    exact K _ _ (INV_mk ⟨⟨k, hLR, rfl, rfl⟩, ⟨N, P, bk, kd, wd, sl, hT, hF, hB, hST', ⟨k', t', hH', rfl, rfl, rfl⟩, hIR⟩, ⟨sk, hSR, rfl, rfl⟩, rfl⟩ hP hD) hS
  · refine lv_aload_n hx hb dL_law_372 rfl (lv_at hl 2 rfl) ?_
    refine lv_aload_n hx hb dL_law_373 rfl (lv_at hl 3 rfl) ?_
    refine lv_iload_n hx hb dL_law_374 rfl (lv_at hl 0 rfl) ?_
    refine lv_iconst (v := 1) hx hb dL_law_375 (by decide) ?_
    refine lv_iadd hx hb dL_law_376 ?_
    refine va_sld hx hb hX hbl hbA hS hv1 dL_law_377 ?_
    rw [← ep1]
    refine lv_aload_n hx hb dL_law_378 rfl (lv_at hl 3 rfl) ?_
    refine lv_iload_n hx hb dL_law_379 rfl (lv_at hl 0 rfl) ?_
    refine lv_iconst (v := 2) hx hb dL_law_380 (by decide) ?_
    refine lv_iadd hx hb dL_law_381 ?_
    refine va_sld hx hb hX hbl hbA hS hv2 dL_law_382 ?_
    rw [← ep2]
    refine kX8_breaks hx hb hml hown hts hKW q610 hP hD hS [14, 84, 77, 78, 79, 35, 36, 69, 70, 71, 72, 80, 81, 82] rfl (by decide) e8 hl.1 (Nat.le_of_ble_eq_true rfl) ⟨Nat.le_of_ble_eq_true rfl, Nat.le_of_ble_eq_true rfl⟩ ⟨Nat.le_of_ble_eq_true rfl, Nat.le_of_ble_eq_true rfl⟩ dL_law_383 (fun H locs hP hD hS => ?_)
    have hP : va_P D vwCl (WM cI cZ qm um y_thrown (nI k) y_at y_token y_place y_value y_fault (nI hk) (nI sk) z_traced y_text y_told y_draft y_draftNow y_s y_w y_v y_kept y_isKept y_undos y_seenLoad y_seenOver y_byTaken ++ WX cI cZ cQ qx ux (nI k) z_reader_length z_reader_at z_reader_place z_reader_token z_reader_value z_draft_planks z_draft_size z_draft_sworn z_folk_planks z_folk_size z_folk_sworn z_present_day z_present_crossed (nI k') (nI t') z_gambler_trial_day z_gambler_trial_crossed (nI sk) z_guesser_least z_guesser_greatest z_traced z_letters z_draft_bank z_draft_kind z_draft_word z_draft_slow z_draft_told z_folk_bank z_folk_kind z_folk_word z_folk_slow z_folk_told z_strength_borne came' under' z_present_due z_kept z_gambler_trial_came z_gambler_trial_under z_gambler_trial_due z_guesser_load z_guesser_over z_guesser_borne (up rc 1 c') (up ru 1 u') (up rdu 1 du') ic iu idu (up rday 1 dy') (up rcr 1 cr') iday icr) H := hP
    have hD : va_D (fun q => s.heap.size ≤ q) (WM cI cZ qm um y_thrown (nI k) y_at y_token y_place y_value y_fault (nI hk) (nI sk) z_traced y_text y_told y_draft y_draftNow y_s y_w y_v y_kept y_isKept y_undos y_seenLoad y_seenOver y_byTaken ++ WX cI cZ cQ qx ux (nI k) z_reader_length z_reader_at z_reader_place z_reader_token z_reader_value z_draft_planks z_draft_size z_draft_sworn z_folk_planks z_folk_size z_folk_sworn z_present_day z_present_crossed (nI k') (nI t') z_gambler_trial_day z_gambler_trial_crossed (nI sk) z_guesser_least z_guesser_greatest z_traced z_letters z_draft_bank z_draft_kind z_draft_word z_draft_slow z_draft_told z_folk_bank z_folk_kind z_folk_word z_folk_slow z_folk_told z_strength_borne came' under' z_present_due z_kept z_gambler_trial_came z_gambler_trial_under z_gambler_trial_due z_guesser_load z_guesser_over z_guesser_borne (up rc 1 c') (up ru 1 u') (up rdu 1 du') ic iu idu (up rday 1 dy') (up rcr 1 cr') iday icr) := hD
    refine lv_aload_n hx hb dL_law_386 rfl (lv_at hl 1 rfl) ?_
    refine lv_aload_n hx hb dL_law_387 rfl (lv_at hl 3 rfl) ?_
    refine lv_iload_n hx hb dL_law_388 rfl (lv_at hl 0 rfl) ?_
    refine lv_iconst (v := 1) hx hb dL_law_389 (by decide) ?_
    refine lv_iadd hx hb dL_law_390 ?_
    refine va_sld hx hb hX hbl hbA hS hv1 dL_law_391 ?_
    rw [← ep1]
    refine lv_aload_n hx hb dL_law_392 rfl (lv_at hl 3 rfl) ?_
    refine lv_iload_n hx hb dL_law_393 rfl (lv_at hl 0 rfl) ?_
    refine lv_iconst (v := 2) hx hb dL_law_394 (by decide) ?_
    refine lv_iadd hx hb dL_law_395 ?_
    refine va_sld hx hb hX hbl hbA hS hv2 dL_law_396 ?_
    rw [← ep2]
    refine kX9_breaks hx hb hml hown hts hKW q1100 hP hD hS [0, 2, 5, 10] rfl (by decide) e9 hl.1 (Nat.le_of_ble_eq_true rfl) ⟨Nat.le_of_ble_eq_true rfl, Nat.le_of_ble_eq_true rfl⟩ ⟨Nat.le_of_ble_eq_true rfl, Nat.le_of_ble_eq_true rfl⟩ dL_law_397 (fun H locs hP hD hS => ?_)
    have hP : va_P D vwCl (WM cI cZ qm um 0 (nI k) y_at y_token y_place y_value y_fault (nI k') (nI sk) z_traced y_text y_told y_draft y_draftNow r' y_w y_v y_kept y_isKept U' y_seenLoad y_seenOver y_byTaken ++ WX cI cZ cQ qx ux (nI k) z_reader_length z_reader_at z_reader_place z_reader_token z_reader_value z_draft_planks z_draft_size z_draft_sworn z_folk_planks z_folk_size z_folk_sworn z_present_day z_present_crossed (nI k') (nI t') z_gambler_trial_day z_gambler_trial_crossed (nI sk) z_guesser_least z_guesser_greatest z_traced z_letters z_draft_bank z_draft_kind z_draft_word z_draft_slow z_draft_told z_folk_bank z_folk_kind z_folk_word z_folk_slow z_folk_told z_strength_borne came' under' z_present_due z_kept z_gambler_trial_came z_gambler_trial_under z_gambler_trial_due z_guesser_load z_guesser_over z_guesser_borne (up rc 1 c') (up ru 1 u') (up rdu 1 du') ic iu idu (up rday 1 dy') (up rcr 1 cr') iday icr) H := hP
    have hD : va_D (fun q => s.heap.size ≤ q) (WM cI cZ qm um 0 (nI k) y_at y_token y_place y_value y_fault (nI k') (nI sk) z_traced y_text y_told y_draft y_draftNow r' y_w y_v y_kept y_isKept U' y_seenLoad y_seenOver y_byTaken ++ WX cI cZ cQ qx ux (nI k) z_reader_length z_reader_at z_reader_place z_reader_token z_reader_value z_draft_planks z_draft_size z_draft_sworn z_folk_planks z_folk_size z_folk_sworn z_present_day z_present_crossed (nI k') (nI t') z_gambler_trial_day z_gambler_trial_crossed (nI sk) z_guesser_least z_guesser_greatest z_traced z_letters z_draft_bank z_draft_kind z_draft_word z_draft_slow z_draft_told z_folk_bank z_folk_kind z_folk_word z_folk_slow z_folk_told z_strength_borne came' under' z_present_due z_kept z_gambler_trial_came z_gambler_trial_under z_gambler_trial_due z_guesser_load z_guesser_over z_guesser_borne (up rc 1 c') (up ru 1 u') (up rdu 1 du') ic iu idu (up rday 1 dy') (up rcr 1 cr') iday icr) := hD
    refine lv_icmp_eq (tgt := 949) hx hb dL_law_400 (by decide) (fun _ => ?_) (fun h => absurd rfl h)
    exact K _ _ (INV_mk ⟨⟨k, hLR, rfl, rfl⟩, ⟨N, P, bk, kd, wd, sl, hT, hF, hB, hST', ⟨k', t', hH', rfl, rfl, rfl⟩, hIR⟩, ⟨sk, hSR, rfl, rfl⟩, rfl⟩ hP hD) hS
  · refine lv_aload_n hx hb dL_law_372 rfl (lv_at hl 2 rfl) ?_
    refine lv_aload_n hx hb dL_law_373 rfl (lv_at hl 3 rfl) ?_
    refine lv_iload_n hx hb dL_law_374 rfl (lv_at hl 0 rfl) ?_
    refine lv_iconst (v := 1) hx hb dL_law_375 (by decide) ?_
    refine lv_iadd hx hb dL_law_376 ?_
    refine va_sld hx hb hX hbl hbA hS hv1 dL_law_377 ?_
    rw [← ep1]
    refine lv_aload_n hx hb dL_law_378 rfl (lv_at hl 3 rfl) ?_
    refine lv_iload_n hx hb dL_law_379 rfl (lv_at hl 0 rfl) ?_
    refine lv_iconst (v := 2) hx hb dL_law_380 (by decide) ?_
    refine lv_iadd hx hb dL_law_381 ?_
    refine va_sld hx hb hX hbl hbA hS hv2 dL_law_382 ?_
    rw [← ep2]
    refine kX8_breaks hx hb hml hown hts hKW q610 hP hD hS [14, 84, 77, 78, 79, 35, 36, 65, 66, 67, 68, 80, 81, 82] rfl (by decide) e8 hl.1 (Nat.le_of_ble_eq_true rfl) ⟨Nat.le_of_ble_eq_true rfl, Nat.le_of_ble_eq_true rfl⟩ ⟨Nat.le_of_ble_eq_true rfl, Nat.le_of_ble_eq_true rfl⟩ dL_law_383 (fun H locs hP hD hS => ?_)
    have hP : va_P D vwCl (WM cI cZ qm um y_thrown (nI k) y_at y_token y_place y_value y_fault (nI hk) (nI sk) z_traced y_text y_told y_draft y_draftNow y_s y_w y_v y_kept y_isKept y_undos y_seenLoad y_seenOver y_byTaken ++ WX cI cZ cQ qx ux (nI k) z_reader_length z_reader_at z_reader_place z_reader_token z_reader_value z_draft_planks z_draft_size z_draft_sworn z_folk_planks z_folk_size z_folk_sworn z_present_day z_present_crossed (nI k') (nI t') z_gambler_trial_day z_gambler_trial_crossed (nI sk) z_guesser_least z_guesser_greatest z_traced z_letters z_draft_bank z_draft_kind z_draft_word z_draft_slow z_draft_told z_folk_bank z_folk_kind z_folk_word z_folk_slow z_folk_told z_strength_borne came' under' z_present_due z_kept z_gambler_trial_came z_gambler_trial_under z_gambler_trial_due z_guesser_load z_guesser_over z_guesser_borne (up rc 2 c') (up ru 2 u') (up rdu 2 du') ic iu idu (up rday 2 dy') (up rcr 2 cr') iday icr) H := hP
    have hD : va_D (fun q => s.heap.size ≤ q) (WM cI cZ qm um y_thrown (nI k) y_at y_token y_place y_value y_fault (nI hk) (nI sk) z_traced y_text y_told y_draft y_draftNow y_s y_w y_v y_kept y_isKept y_undos y_seenLoad y_seenOver y_byTaken ++ WX cI cZ cQ qx ux (nI k) z_reader_length z_reader_at z_reader_place z_reader_token z_reader_value z_draft_planks z_draft_size z_draft_sworn z_folk_planks z_folk_size z_folk_sworn z_present_day z_present_crossed (nI k') (nI t') z_gambler_trial_day z_gambler_trial_crossed (nI sk) z_guesser_least z_guesser_greatest z_traced z_letters z_draft_bank z_draft_kind z_draft_word z_draft_slow z_draft_told z_folk_bank z_folk_kind z_folk_word z_folk_slow z_folk_told z_strength_borne came' under' z_present_due z_kept z_gambler_trial_came z_gambler_trial_under z_gambler_trial_due z_guesser_load z_guesser_over z_guesser_borne (up rc 2 c') (up ru 2 u') (up rdu 2 du') ic iu idu (up rday 2 dy') (up rcr 2 cr') iday icr) := hD
    refine lv_aload_n hx hb dL_law_386 rfl (lv_at hl 1 rfl) ?_
    refine lv_aload_n hx hb dL_law_387 rfl (lv_at hl 3 rfl) ?_
    refine lv_iload_n hx hb dL_law_388 rfl (lv_at hl 0 rfl) ?_
    refine lv_iconst (v := 1) hx hb dL_law_389 (by decide) ?_
    refine lv_iadd hx hb dL_law_390 ?_
    refine va_sld hx hb hX hbl hbA hS hv1 dL_law_391 ?_
    rw [← ep1]
    refine lv_aload_n hx hb dL_law_392 rfl (lv_at hl 3 rfl) ?_
    refine lv_iload_n hx hb dL_law_393 rfl (lv_at hl 0 rfl) ?_
    refine lv_iconst (v := 2) hx hb dL_law_394 (by decide) ?_
    refine lv_iadd hx hb dL_law_395 ?_
    refine va_sld hx hb hX hbl hbA hS hv2 dL_law_396 ?_
    rw [← ep2]
    refine kX9_breaks hx hb hml hown hts hKW q1100 hP hD hS [0, 2, 5, 10] rfl (by decide) e9 hl.1 (Nat.le_of_ble_eq_true rfl) ⟨Nat.le_of_ble_eq_true rfl, Nat.le_of_ble_eq_true rfl⟩ ⟨Nat.le_of_ble_eq_true rfl, Nat.le_of_ble_eq_true rfl⟩ dL_law_397 (fun H locs hP hD hS => ?_)
    have hP : va_P D vwCl (WM cI cZ qm um 0 (nI k) y_at y_token y_place y_value y_fault (nI k') (nI sk) z_traced y_text y_told y_draft y_draftNow r' y_w y_v y_kept y_isKept U' y_seenLoad y_seenOver y_byTaken ++ WX cI cZ cQ qx ux (nI k) z_reader_length z_reader_at z_reader_place z_reader_token z_reader_value z_draft_planks z_draft_size z_draft_sworn z_folk_planks z_folk_size z_folk_sworn z_present_day z_present_crossed (nI k') (nI t') z_gambler_trial_day z_gambler_trial_crossed (nI sk) z_guesser_least z_guesser_greatest z_traced z_letters z_draft_bank z_draft_kind z_draft_word z_draft_slow z_draft_told z_folk_bank z_folk_kind z_folk_word z_folk_slow z_folk_told z_strength_borne came' under' z_present_due z_kept z_gambler_trial_came z_gambler_trial_under z_gambler_trial_due z_guesser_load z_guesser_over z_guesser_borne (up rc 2 c') (up ru 2 u') (up rdu 2 du') ic iu idu (up rday 2 dy') (up rcr 2 cr') iday icr) H := hP
    have hD : va_D (fun q => s.heap.size ≤ q) (WM cI cZ qm um 0 (nI k) y_at y_token y_place y_value y_fault (nI k') (nI sk) z_traced y_text y_told y_draft y_draftNow r' y_w y_v y_kept y_isKept U' y_seenLoad y_seenOver y_byTaken ++ WX cI cZ cQ qx ux (nI k) z_reader_length z_reader_at z_reader_place z_reader_token z_reader_value z_draft_planks z_draft_size z_draft_sworn z_folk_planks z_folk_size z_folk_sworn z_present_day z_present_crossed (nI k') (nI t') z_gambler_trial_day z_gambler_trial_crossed (nI sk) z_guesser_least z_guesser_greatest z_traced z_letters z_draft_bank z_draft_kind z_draft_word z_draft_slow z_draft_told z_folk_bank z_folk_kind z_folk_word z_folk_slow z_folk_told z_strength_borne came' under' z_present_due z_kept z_gambler_trial_came z_gambler_trial_under z_gambler_trial_due z_guesser_load z_guesser_over z_guesser_borne (up rc 2 c') (up ru 2 u') (up rdu 2 du') ic iu idu (up rday 2 dy') (up rcr 2 cr') iday icr) := hD
    refine lv_icmp_eq (tgt := 949) hx hb dL_law_400 (by decide) (fun _ => ?_) (fun h => absurd rfl h)
    exact K _ _ (INV_mk ⟨⟨k, hLR, rfl, rfl⟩, ⟨N, P, bk, kd, wd, sl, hT, hF, hB, hST', ⟨k', t', hH', rfl, rfl, rfl⟩, hIR⟩, ⟨sk, hSR, rfl, rfl⟩, rfl⟩ hP hD) hS
  · refine lv_aload_n hx hb dL_law_372 rfl (lv_at hl 2 rfl) ?_
    refine lv_aload_n hx hb dL_law_373 rfl (lv_at hl 3 rfl) ?_
    refine lv_iload_n hx hb dL_law_374 rfl (lv_at hl 0 rfl) ?_
    refine lv_iconst (v := 1) hx hb dL_law_375 (by decide) ?_
    refine lv_iadd hx hb dL_law_376 ?_
    refine va_sld hx hb hX hbl hbA hS hv1 dL_law_377 ?_
    rw [← ep1]
    refine lv_aload_n hx hb dL_law_378 rfl (lv_at hl 3 rfl) ?_
    refine lv_iload_n hx hb dL_law_379 rfl (lv_at hl 0 rfl) ?_
    refine lv_iconst (v := 2) hx hb dL_law_380 (by decide) ?_
    refine lv_iadd hx hb dL_law_381 ?_
    refine va_sld hx hb hX hbl hbA hS hv2 dL_law_382 ?_
    rw [← ep2]
    refine kX8_breaks hx hb hml hown hts hKW q610 hP hD hS [14, 84, 77, 78, 79, 35, 36, 61, 62, 63, 64, 80, 81, 82] rfl (by decide) e8 hl.1 (Nat.le_of_ble_eq_true rfl) ⟨Nat.le_of_ble_eq_true rfl, Nat.le_of_ble_eq_true rfl⟩ ⟨Nat.le_of_ble_eq_true rfl, Nat.le_of_ble_eq_true rfl⟩ dL_law_383 (fun H locs hP hD hS => ?_)
    have hP : va_P D vwCl (WM cI cZ qm um y_thrown (nI k) y_at y_token y_place y_value y_fault (nI hk) (nI sk) z_traced y_text y_told y_draft y_draftNow y_s y_w y_v y_kept y_isKept y_undos y_seenLoad y_seenOver y_byTaken ++ WX cI cZ cQ qx ux (nI k) z_reader_length z_reader_at z_reader_place z_reader_token z_reader_value z_draft_planks z_draft_size z_draft_sworn z_folk_planks z_folk_size z_folk_sworn z_present_day z_present_crossed (nI k') (nI t') z_gambler_trial_day z_gambler_trial_crossed (nI sk) z_guesser_least z_guesser_greatest z_traced z_letters z_draft_bank z_draft_kind z_draft_word z_draft_slow z_draft_told z_folk_bank z_folk_kind z_folk_word z_folk_slow z_folk_told z_strength_borne came' under' z_present_due z_kept z_gambler_trial_came z_gambler_trial_under z_gambler_trial_due z_guesser_load z_guesser_over z_guesser_borne (up rc 3 c') (up ru 3 u') (up rdu 3 du') ic iu idu (up rday 3 dy') (up rcr 3 cr') iday icr) H := hP
    have hD : va_D (fun q => s.heap.size ≤ q) (WM cI cZ qm um y_thrown (nI k) y_at y_token y_place y_value y_fault (nI hk) (nI sk) z_traced y_text y_told y_draft y_draftNow y_s y_w y_v y_kept y_isKept y_undos y_seenLoad y_seenOver y_byTaken ++ WX cI cZ cQ qx ux (nI k) z_reader_length z_reader_at z_reader_place z_reader_token z_reader_value z_draft_planks z_draft_size z_draft_sworn z_folk_planks z_folk_size z_folk_sworn z_present_day z_present_crossed (nI k') (nI t') z_gambler_trial_day z_gambler_trial_crossed (nI sk) z_guesser_least z_guesser_greatest z_traced z_letters z_draft_bank z_draft_kind z_draft_word z_draft_slow z_draft_told z_folk_bank z_folk_kind z_folk_word z_folk_slow z_folk_told z_strength_borne came' under' z_present_due z_kept z_gambler_trial_came z_gambler_trial_under z_gambler_trial_due z_guesser_load z_guesser_over z_guesser_borne (up rc 3 c') (up ru 3 u') (up rdu 3 du') ic iu idu (up rday 3 dy') (up rcr 3 cr') iday icr) := hD
    refine lv_aload_n hx hb dL_law_386 rfl (lv_at hl 1 rfl) ?_
    refine lv_aload_n hx hb dL_law_387 rfl (lv_at hl 3 rfl) ?_
    refine lv_iload_n hx hb dL_law_388 rfl (lv_at hl 0 rfl) ?_
    refine lv_iconst (v := 1) hx hb dL_law_389 (by decide) ?_
    refine lv_iadd hx hb dL_law_390 ?_
    refine va_sld hx hb hX hbl hbA hS hv1 dL_law_391 ?_
    rw [← ep1]
    refine lv_aload_n hx hb dL_law_392 rfl (lv_at hl 3 rfl) ?_
    refine lv_iload_n hx hb dL_law_393 rfl (lv_at hl 0 rfl) ?_
    refine lv_iconst (v := 2) hx hb dL_law_394 (by decide) ?_
    refine lv_iadd hx hb dL_law_395 ?_
    refine va_sld hx hb hX hbl hbA hS hv2 dL_law_396 ?_
    rw [← ep2]
    refine kX9_breaks hx hb hml hown hts hKW q1100 hP hD hS [0, 2, 5, 10] rfl (by decide) e9 hl.1 (Nat.le_of_ble_eq_true rfl) ⟨Nat.le_of_ble_eq_true rfl, Nat.le_of_ble_eq_true rfl⟩ ⟨Nat.le_of_ble_eq_true rfl, Nat.le_of_ble_eq_true rfl⟩ dL_law_397 (fun H locs hP hD hS => ?_)
    have hP : va_P D vwCl (WM cI cZ qm um 0 (nI k) y_at y_token y_place y_value y_fault (nI k') (nI sk) z_traced y_text y_told y_draft y_draftNow r' y_w y_v y_kept y_isKept U' y_seenLoad y_seenOver y_byTaken ++ WX cI cZ cQ qx ux (nI k) z_reader_length z_reader_at z_reader_place z_reader_token z_reader_value z_draft_planks z_draft_size z_draft_sworn z_folk_planks z_folk_size z_folk_sworn z_present_day z_present_crossed (nI k') (nI t') z_gambler_trial_day z_gambler_trial_crossed (nI sk) z_guesser_least z_guesser_greatest z_traced z_letters z_draft_bank z_draft_kind z_draft_word z_draft_slow z_draft_told z_folk_bank z_folk_kind z_folk_word z_folk_slow z_folk_told z_strength_borne came' under' z_present_due z_kept z_gambler_trial_came z_gambler_trial_under z_gambler_trial_due z_guesser_load z_guesser_over z_guesser_borne (up rc 3 c') (up ru 3 u') (up rdu 3 du') ic iu idu (up rday 3 dy') (up rcr 3 cr') iday icr) H := hP
    have hD : va_D (fun q => s.heap.size ≤ q) (WM cI cZ qm um 0 (nI k) y_at y_token y_place y_value y_fault (nI k') (nI sk) z_traced y_text y_told y_draft y_draftNow r' y_w y_v y_kept y_isKept U' y_seenLoad y_seenOver y_byTaken ++ WX cI cZ cQ qx ux (nI k) z_reader_length z_reader_at z_reader_place z_reader_token z_reader_value z_draft_planks z_draft_size z_draft_sworn z_folk_planks z_folk_size z_folk_sworn z_present_day z_present_crossed (nI k') (nI t') z_gambler_trial_day z_gambler_trial_crossed (nI sk) z_guesser_least z_guesser_greatest z_traced z_letters z_draft_bank z_draft_kind z_draft_word z_draft_slow z_draft_told z_folk_bank z_folk_kind z_folk_word z_folk_slow z_folk_told z_strength_borne came' under' z_present_due z_kept z_gambler_trial_came z_gambler_trial_under z_gambler_trial_due z_guesser_load z_guesser_over z_guesser_borne (up rc 3 c') (up ru 3 u') (up rdu 3 du') ic iu idu (up rday 3 dy') (up rcr 3 cr') iday icr) := hD
    refine lv_icmp_eq (tgt := 949) hx hb dL_law_400 (by decide) (fun _ => ?_) (fun h => absurd rfl h)
    exact K _ _ (INV_mk ⟨⟨k, hLR, rfl, rfl⟩, ⟨N, P, bk, kd, wd, sl, hT, hF, hB, hST', ⟨k', t', hH', rfl, rfl, rfl⟩, hIR⟩, ⟨sk, hSR, rfl, rfl⟩, rfl⟩ hP hD) hS
  · refine lv_aload_n hx hb dL_law_372 rfl (lv_at hl 2 rfl) ?_
    refine lv_aload_n hx hb dL_law_373 rfl (lv_at hl 3 rfl) ?_
    refine lv_iload_n hx hb dL_law_374 rfl (lv_at hl 0 rfl) ?_
    refine lv_iconst (v := 1) hx hb dL_law_375 (by decide) ?_
    refine lv_iadd hx hb dL_law_376 ?_
    refine va_sld hx hb hX hbl hbA hS hv1 dL_law_377 ?_
    rw [← ep1]
    refine lv_aload_n hx hb dL_law_378 rfl (lv_at hl 3 rfl) ?_
    refine lv_iload_n hx hb dL_law_379 rfl (lv_at hl 0 rfl) ?_
    refine lv_iconst (v := 2) hx hb dL_law_380 (by decide) ?_
    refine lv_iadd hx hb dL_law_381 ?_
    refine va_sld hx hb hX hbl hbA hS hv2 dL_law_382 ?_
    rw [← ep2]
    refine kX8_breaks hx hb hml hown hts hKW q610 hP hD hS [14, 84, 77, 78, 79, 35, 36, 57, 58, 59, 60, 80, 81, 82] rfl (by decide) e8 hl.1 (Nat.le_of_ble_eq_true rfl) ⟨Nat.le_of_ble_eq_true rfl, Nat.le_of_ble_eq_true rfl⟩ ⟨Nat.le_of_ble_eq_true rfl, Nat.le_of_ble_eq_true rfl⟩ dL_law_383 (fun H locs hP hD hS => ?_)
    have hP : va_P D vwCl (WM cI cZ qm um y_thrown (nI k) y_at y_token y_place y_value y_fault (nI hk) (nI sk) z_traced y_text y_told y_draft y_draftNow y_s y_w y_v y_kept y_isKept y_undos y_seenLoad y_seenOver y_byTaken ++ WX cI cZ cQ qx ux (nI k) z_reader_length z_reader_at z_reader_place z_reader_token z_reader_value z_draft_planks z_draft_size z_draft_sworn z_folk_planks z_folk_size z_folk_sworn z_present_day z_present_crossed (nI k') (nI t') z_gambler_trial_day z_gambler_trial_crossed (nI sk) z_guesser_least z_guesser_greatest z_traced z_letters z_draft_bank z_draft_kind z_draft_word z_draft_slow z_draft_told z_folk_bank z_folk_kind z_folk_word z_folk_slow z_folk_told z_strength_borne came' under' z_present_due z_kept z_gambler_trial_came z_gambler_trial_under z_gambler_trial_due z_guesser_load z_guesser_over z_guesser_borne (up rc 4 c') (up ru 4 u') (up rdu 4 du') ic iu idu (up rday 4 dy') (up rcr 4 cr') iday icr) H := hP
    have hD : va_D (fun q => s.heap.size ≤ q) (WM cI cZ qm um y_thrown (nI k) y_at y_token y_place y_value y_fault (nI hk) (nI sk) z_traced y_text y_told y_draft y_draftNow y_s y_w y_v y_kept y_isKept y_undos y_seenLoad y_seenOver y_byTaken ++ WX cI cZ cQ qx ux (nI k) z_reader_length z_reader_at z_reader_place z_reader_token z_reader_value z_draft_planks z_draft_size z_draft_sworn z_folk_planks z_folk_size z_folk_sworn z_present_day z_present_crossed (nI k') (nI t') z_gambler_trial_day z_gambler_trial_crossed (nI sk) z_guesser_least z_guesser_greatest z_traced z_letters z_draft_bank z_draft_kind z_draft_word z_draft_slow z_draft_told z_folk_bank z_folk_kind z_folk_word z_folk_slow z_folk_told z_strength_borne came' under' z_present_due z_kept z_gambler_trial_came z_gambler_trial_under z_gambler_trial_due z_guesser_load z_guesser_over z_guesser_borne (up rc 4 c') (up ru 4 u') (up rdu 4 du') ic iu idu (up rday 4 dy') (up rcr 4 cr') iday icr) := hD
    refine lv_aload_n hx hb dL_law_386 rfl (lv_at hl 1 rfl) ?_
    refine lv_aload_n hx hb dL_law_387 rfl (lv_at hl 3 rfl) ?_
    refine lv_iload_n hx hb dL_law_388 rfl (lv_at hl 0 rfl) ?_
    refine lv_iconst (v := 1) hx hb dL_law_389 (by decide) ?_
    refine lv_iadd hx hb dL_law_390 ?_
    refine va_sld hx hb hX hbl hbA hS hv1 dL_law_391 ?_
    rw [← ep1]
    refine lv_aload_n hx hb dL_law_392 rfl (lv_at hl 3 rfl) ?_
    refine lv_iload_n hx hb dL_law_393 rfl (lv_at hl 0 rfl) ?_
    refine lv_iconst (v := 2) hx hb dL_law_394 (by decide) ?_
    refine lv_iadd hx hb dL_law_395 ?_
    refine va_sld hx hb hX hbl hbA hS hv2 dL_law_396 ?_
    rw [← ep2]
    refine kX9_breaks hx hb hml hown hts hKW q1100 hP hD hS [0, 2, 5, 10] rfl (by decide) e9 hl.1 (Nat.le_of_ble_eq_true rfl) ⟨Nat.le_of_ble_eq_true rfl, Nat.le_of_ble_eq_true rfl⟩ ⟨Nat.le_of_ble_eq_true rfl, Nat.le_of_ble_eq_true rfl⟩ dL_law_397 (fun H locs hP hD hS => ?_)
    have hP : va_P D vwCl (WM cI cZ qm um 0 (nI k) y_at y_token y_place y_value y_fault (nI k') (nI sk) z_traced y_text y_told y_draft y_draftNow r' y_w y_v y_kept y_isKept U' y_seenLoad y_seenOver y_byTaken ++ WX cI cZ cQ qx ux (nI k) z_reader_length z_reader_at z_reader_place z_reader_token z_reader_value z_draft_planks z_draft_size z_draft_sworn z_folk_planks z_folk_size z_folk_sworn z_present_day z_present_crossed (nI k') (nI t') z_gambler_trial_day z_gambler_trial_crossed (nI sk) z_guesser_least z_guesser_greatest z_traced z_letters z_draft_bank z_draft_kind z_draft_word z_draft_slow z_draft_told z_folk_bank z_folk_kind z_folk_word z_folk_slow z_folk_told z_strength_borne came' under' z_present_due z_kept z_gambler_trial_came z_gambler_trial_under z_gambler_trial_due z_guesser_load z_guesser_over z_guesser_borne (up rc 4 c') (up ru 4 u') (up rdu 4 du') ic iu idu (up rday 4 dy') (up rcr 4 cr') iday icr) H := hP
    have hD : va_D (fun q => s.heap.size ≤ q) (WM cI cZ qm um 0 (nI k) y_at y_token y_place y_value y_fault (nI k') (nI sk) z_traced y_text y_told y_draft y_draftNow r' y_w y_v y_kept y_isKept U' y_seenLoad y_seenOver y_byTaken ++ WX cI cZ cQ qx ux (nI k) z_reader_length z_reader_at z_reader_place z_reader_token z_reader_value z_draft_planks z_draft_size z_draft_sworn z_folk_planks z_folk_size z_folk_sworn z_present_day z_present_crossed (nI k') (nI t') z_gambler_trial_day z_gambler_trial_crossed (nI sk) z_guesser_least z_guesser_greatest z_traced z_letters z_draft_bank z_draft_kind z_draft_word z_draft_slow z_draft_told z_folk_bank z_folk_kind z_folk_word z_folk_slow z_folk_told z_strength_borne came' under' z_present_due z_kept z_gambler_trial_came z_gambler_trial_under z_gambler_trial_due z_guesser_load z_guesser_over z_guesser_borne (up rc 4 c') (up ru 4 u') (up rdu 4 du') ic iu idu (up rday 4 dy') (up rcr 4 cr') iday icr) := hD
    refine lv_icmp_eq (tgt := 949) hx hb dL_law_400 (by decide) (fun _ => ?_) (fun h => absurd rfl h)
    exact K _ _ (INV_mk ⟨⟨k, hLR, rfl, rfl⟩, ⟨N, P, bk, kd, wd, sl, hT, hF, hB, hST', ⟨k', t', hH', rfl, rfl, rfl⟩, hIR⟩, ⟨sk, hSR, rfl, rfl⟩, rfl⟩ hP hD) hS
  · refine lv_aload_n hx hb dL_law_372 rfl (lv_at hl 2 rfl) ?_
    refine lv_aload_n hx hb dL_law_373 rfl (lv_at hl 3 rfl) ?_
    refine lv_iload_n hx hb dL_law_374 rfl (lv_at hl 0 rfl) ?_
    refine lv_iconst (v := 1) hx hb dL_law_375 (by decide) ?_
    refine lv_iadd hx hb dL_law_376 ?_
    refine va_sld hx hb hX hbl hbA hS hv1 dL_law_377 ?_
    rw [← ep1]
    refine lv_aload_n hx hb dL_law_378 rfl (lv_at hl 3 rfl) ?_
    refine lv_iload_n hx hb dL_law_379 rfl (lv_at hl 0 rfl) ?_
    refine lv_iconst (v := 2) hx hb dL_law_380 (by decide) ?_
    refine lv_iadd hx hb dL_law_381 ?_
    refine va_sld hx hb hX hbl hbA hS hv2 dL_law_382 ?_
    rw [← ep2]
    refine kX8_breaks hx hb hml hown hts hKW q610 hP hD hS [14, 84, 77, 78, 79, 35, 36, 53, 54, 55, 56, 80, 81, 82] rfl (by decide) e8 hl.1 (Nat.le_of_ble_eq_true rfl) ⟨Nat.le_of_ble_eq_true rfl, Nat.le_of_ble_eq_true rfl⟩ ⟨Nat.le_of_ble_eq_true rfl, Nat.le_of_ble_eq_true rfl⟩ dL_law_383 (fun H locs hP hD hS => ?_)
    have hP : va_P D vwCl (WM cI cZ qm um y_thrown (nI k) y_at y_token y_place y_value y_fault (nI hk) (nI sk) z_traced y_text y_told y_draft y_draftNow y_s y_w y_v y_kept y_isKept y_undos y_seenLoad y_seenOver y_byTaken ++ WX cI cZ cQ qx ux (nI k) z_reader_length z_reader_at z_reader_place z_reader_token z_reader_value z_draft_planks z_draft_size z_draft_sworn z_folk_planks z_folk_size z_folk_sworn z_present_day z_present_crossed (nI k') (nI t') z_gambler_trial_day z_gambler_trial_crossed (nI sk) z_guesser_least z_guesser_greatest z_traced z_letters z_draft_bank z_draft_kind z_draft_word z_draft_slow z_draft_told z_folk_bank z_folk_kind z_folk_word z_folk_slow z_folk_told z_strength_borne came' under' z_present_due z_kept z_gambler_trial_came z_gambler_trial_under z_gambler_trial_due z_guesser_load z_guesser_over z_guesser_borne (up rc 5 c') (up ru 5 u') (up rdu 5 du') ic iu idu (up rday 5 dy') (up rcr 5 cr') iday icr) H := hP
    have hD : va_D (fun q => s.heap.size ≤ q) (WM cI cZ qm um y_thrown (nI k) y_at y_token y_place y_value y_fault (nI hk) (nI sk) z_traced y_text y_told y_draft y_draftNow y_s y_w y_v y_kept y_isKept y_undos y_seenLoad y_seenOver y_byTaken ++ WX cI cZ cQ qx ux (nI k) z_reader_length z_reader_at z_reader_place z_reader_token z_reader_value z_draft_planks z_draft_size z_draft_sworn z_folk_planks z_folk_size z_folk_sworn z_present_day z_present_crossed (nI k') (nI t') z_gambler_trial_day z_gambler_trial_crossed (nI sk) z_guesser_least z_guesser_greatest z_traced z_letters z_draft_bank z_draft_kind z_draft_word z_draft_slow z_draft_told z_folk_bank z_folk_kind z_folk_word z_folk_slow z_folk_told z_strength_borne came' under' z_present_due z_kept z_gambler_trial_came z_gambler_trial_under z_gambler_trial_due z_guesser_load z_guesser_over z_guesser_borne (up rc 5 c') (up ru 5 u') (up rdu 5 du') ic iu idu (up rday 5 dy') (up rcr 5 cr') iday icr) := hD
    refine lv_aload_n hx hb dL_law_386 rfl (lv_at hl 1 rfl) ?_
    refine lv_aload_n hx hb dL_law_387 rfl (lv_at hl 3 rfl) ?_
    refine lv_iload_n hx hb dL_law_388 rfl (lv_at hl 0 rfl) ?_
    refine lv_iconst (v := 1) hx hb dL_law_389 (by decide) ?_
    refine lv_iadd hx hb dL_law_390 ?_
    refine va_sld hx hb hX hbl hbA hS hv1 dL_law_391 ?_
    rw [← ep1]
    refine lv_aload_n hx hb dL_law_392 rfl (lv_at hl 3 rfl) ?_
    refine lv_iload_n hx hb dL_law_393 rfl (lv_at hl 0 rfl) ?_
    refine lv_iconst (v := 2) hx hb dL_law_394 (by decide) ?_
    refine lv_iadd hx hb dL_law_395 ?_
    refine va_sld hx hb hX hbl hbA hS hv2 dL_law_396 ?_
    rw [← ep2]
    refine kX9_breaks hx hb hml hown hts hKW q1100 hP hD hS [0, 2, 5, 10] rfl (by decide) e9 hl.1 (Nat.le_of_ble_eq_true rfl) ⟨Nat.le_of_ble_eq_true rfl, Nat.le_of_ble_eq_true rfl⟩ ⟨Nat.le_of_ble_eq_true rfl, Nat.le_of_ble_eq_true rfl⟩ dL_law_397 (fun H locs hP hD hS => ?_)
    have hP : va_P D vwCl (WM cI cZ qm um 0 (nI k) y_at y_token y_place y_value y_fault (nI k') (nI sk) z_traced y_text y_told y_draft y_draftNow r' y_w y_v y_kept y_isKept U' y_seenLoad y_seenOver y_byTaken ++ WX cI cZ cQ qx ux (nI k) z_reader_length z_reader_at z_reader_place z_reader_token z_reader_value z_draft_planks z_draft_size z_draft_sworn z_folk_planks z_folk_size z_folk_sworn z_present_day z_present_crossed (nI k') (nI t') z_gambler_trial_day z_gambler_trial_crossed (nI sk) z_guesser_least z_guesser_greatest z_traced z_letters z_draft_bank z_draft_kind z_draft_word z_draft_slow z_draft_told z_folk_bank z_folk_kind z_folk_word z_folk_slow z_folk_told z_strength_borne came' under' z_present_due z_kept z_gambler_trial_came z_gambler_trial_under z_gambler_trial_due z_guesser_load z_guesser_over z_guesser_borne (up rc 5 c') (up ru 5 u') (up rdu 5 du') ic iu idu (up rday 5 dy') (up rcr 5 cr') iday icr) H := hP
    have hD : va_D (fun q => s.heap.size ≤ q) (WM cI cZ qm um 0 (nI k) y_at y_token y_place y_value y_fault (nI k') (nI sk) z_traced y_text y_told y_draft y_draftNow r' y_w y_v y_kept y_isKept U' y_seenLoad y_seenOver y_byTaken ++ WX cI cZ cQ qx ux (nI k) z_reader_length z_reader_at z_reader_place z_reader_token z_reader_value z_draft_planks z_draft_size z_draft_sworn z_folk_planks z_folk_size z_folk_sworn z_present_day z_present_crossed (nI k') (nI t') z_gambler_trial_day z_gambler_trial_crossed (nI sk) z_guesser_least z_guesser_greatest z_traced z_letters z_draft_bank z_draft_kind z_draft_word z_draft_slow z_draft_told z_folk_bank z_folk_kind z_folk_word z_folk_slow z_folk_told z_strength_borne came' under' z_present_due z_kept z_gambler_trial_came z_gambler_trial_under z_gambler_trial_due z_guesser_load z_guesser_over z_guesser_borne (up rc 5 c') (up ru 5 u') (up rdu 5 du') ic iu idu (up rday 5 dy') (up rcr 5 cr') iday icr) := hD
    refine lv_icmp_eq (tgt := 949) hx hb dL_law_400 (by decide) (fun _ => ?_) (fun h => absurd rfl h)
    exact K _ _ (INV_mk ⟨⟨k, hLR, rfl, rfl⟩, ⟨N, P, bk, kd, wd, sl, hT, hF, hB, hST', ⟨k', t', hH', rfl, rfl, rfl⟩, hIR⟩, ⟨sk, hSR, rfl, rfl⟩, rfl⟩ hP hD) hS
  · refine lv_aload_n hx hb dL_law_372 rfl (lv_at hl 2 rfl) ?_
    refine lv_aload_n hx hb dL_law_373 rfl (lv_at hl 3 rfl) ?_
    refine lv_iload_n hx hb dL_law_374 rfl (lv_at hl 0 rfl) ?_
    refine lv_iconst (v := 1) hx hb dL_law_375 (by decide) ?_
    refine lv_iadd hx hb dL_law_376 ?_
    refine va_sld hx hb hX hbl hbA hS hv1 dL_law_377 ?_
    rw [← ep1]
    refine lv_aload_n hx hb dL_law_378 rfl (lv_at hl 3 rfl) ?_
    refine lv_iload_n hx hb dL_law_379 rfl (lv_at hl 0 rfl) ?_
    refine lv_iconst (v := 2) hx hb dL_law_380 (by decide) ?_
    refine lv_iadd hx hb dL_law_381 ?_
    refine va_sld hx hb hX hbl hbA hS hv2 dL_law_382 ?_
    rw [← ep2]
    refine kX8_breaks hx hb hml hown hts hKW q610 hP hD hS [14, 84, 77, 78, 79, 35, 36, 49, 50, 51, 52, 80, 81, 82] rfl (by decide) e8 hl.1 (Nat.le_of_ble_eq_true rfl) ⟨Nat.le_of_ble_eq_true rfl, Nat.le_of_ble_eq_true rfl⟩ ⟨Nat.le_of_ble_eq_true rfl, Nat.le_of_ble_eq_true rfl⟩ dL_law_383 (fun H locs hP hD hS => ?_)
    have hP : va_P D vwCl (WM cI cZ qm um y_thrown (nI k) y_at y_token y_place y_value y_fault (nI hk) (nI sk) z_traced y_text y_told y_draft y_draftNow y_s y_w y_v y_kept y_isKept y_undos y_seenLoad y_seenOver y_byTaken ++ WX cI cZ cQ qx ux (nI k) z_reader_length z_reader_at z_reader_place z_reader_token z_reader_value z_draft_planks z_draft_size z_draft_sworn z_folk_planks z_folk_size z_folk_sworn z_present_day z_present_crossed (nI k') (nI t') z_gambler_trial_day z_gambler_trial_crossed (nI sk) z_guesser_least z_guesser_greatest z_traced z_letters z_draft_bank z_draft_kind z_draft_word z_draft_slow z_draft_told z_folk_bank z_folk_kind z_folk_word z_folk_slow z_folk_told z_strength_borne came' under' z_present_due z_kept z_gambler_trial_came z_gambler_trial_under z_gambler_trial_due z_guesser_load z_guesser_over z_guesser_borne (up rc 6 c') (up ru 6 u') (up rdu 6 du') ic iu idu (up rday 6 dy') (up rcr 6 cr') iday icr) H := hP
    have hD : va_D (fun q => s.heap.size ≤ q) (WM cI cZ qm um y_thrown (nI k) y_at y_token y_place y_value y_fault (nI hk) (nI sk) z_traced y_text y_told y_draft y_draftNow y_s y_w y_v y_kept y_isKept y_undos y_seenLoad y_seenOver y_byTaken ++ WX cI cZ cQ qx ux (nI k) z_reader_length z_reader_at z_reader_place z_reader_token z_reader_value z_draft_planks z_draft_size z_draft_sworn z_folk_planks z_folk_size z_folk_sworn z_present_day z_present_crossed (nI k') (nI t') z_gambler_trial_day z_gambler_trial_crossed (nI sk) z_guesser_least z_guesser_greatest z_traced z_letters z_draft_bank z_draft_kind z_draft_word z_draft_slow z_draft_told z_folk_bank z_folk_kind z_folk_word z_folk_slow z_folk_told z_strength_borne came' under' z_present_due z_kept z_gambler_trial_came z_gambler_trial_under z_gambler_trial_due z_guesser_load z_guesser_over z_guesser_borne (up rc 6 c') (up ru 6 u') (up rdu 6 du') ic iu idu (up rday 6 dy') (up rcr 6 cr') iday icr) := hD
    refine lv_aload_n hx hb dL_law_386 rfl (lv_at hl 1 rfl) ?_
    refine lv_aload_n hx hb dL_law_387 rfl (lv_at hl 3 rfl) ?_
    refine lv_iload_n hx hb dL_law_388 rfl (lv_at hl 0 rfl) ?_
    refine lv_iconst (v := 1) hx hb dL_law_389 (by decide) ?_
    refine lv_iadd hx hb dL_law_390 ?_
    refine va_sld hx hb hX hbl hbA hS hv1 dL_law_391 ?_
    rw [← ep1]
    refine lv_aload_n hx hb dL_law_392 rfl (lv_at hl 3 rfl) ?_
    refine lv_iload_n hx hb dL_law_393 rfl (lv_at hl 0 rfl) ?_
    refine lv_iconst (v := 2) hx hb dL_law_394 (by decide) ?_
    refine lv_iadd hx hb dL_law_395 ?_
    refine va_sld hx hb hX hbl hbA hS hv2 dL_law_396 ?_
    rw [← ep2]
    refine kX9_breaks hx hb hml hown hts hKW q1100 hP hD hS [0, 2, 5, 10] rfl (by decide) e9 hl.1 (Nat.le_of_ble_eq_true rfl) ⟨Nat.le_of_ble_eq_true rfl, Nat.le_of_ble_eq_true rfl⟩ ⟨Nat.le_of_ble_eq_true rfl, Nat.le_of_ble_eq_true rfl⟩ dL_law_397 (fun H locs hP hD hS => ?_)
    have hP : va_P D vwCl (WM cI cZ qm um 0 (nI k) y_at y_token y_place y_value y_fault (nI k') (nI sk) z_traced y_text y_told y_draft y_draftNow r' y_w y_v y_kept y_isKept U' y_seenLoad y_seenOver y_byTaken ++ WX cI cZ cQ qx ux (nI k) z_reader_length z_reader_at z_reader_place z_reader_token z_reader_value z_draft_planks z_draft_size z_draft_sworn z_folk_planks z_folk_size z_folk_sworn z_present_day z_present_crossed (nI k') (nI t') z_gambler_trial_day z_gambler_trial_crossed (nI sk) z_guesser_least z_guesser_greatest z_traced z_letters z_draft_bank z_draft_kind z_draft_word z_draft_slow z_draft_told z_folk_bank z_folk_kind z_folk_word z_folk_slow z_folk_told z_strength_borne came' under' z_present_due z_kept z_gambler_trial_came z_gambler_trial_under z_gambler_trial_due z_guesser_load z_guesser_over z_guesser_borne (up rc 6 c') (up ru 6 u') (up rdu 6 du') ic iu idu (up rday 6 dy') (up rcr 6 cr') iday icr) H := hP
    have hD : va_D (fun q => s.heap.size ≤ q) (WM cI cZ qm um 0 (nI k) y_at y_token y_place y_value y_fault (nI k') (nI sk) z_traced y_text y_told y_draft y_draftNow r' y_w y_v y_kept y_isKept U' y_seenLoad y_seenOver y_byTaken ++ WX cI cZ cQ qx ux (nI k) z_reader_length z_reader_at z_reader_place z_reader_token z_reader_value z_draft_planks z_draft_size z_draft_sworn z_folk_planks z_folk_size z_folk_sworn z_present_day z_present_crossed (nI k') (nI t') z_gambler_trial_day z_gambler_trial_crossed (nI sk) z_guesser_least z_guesser_greatest z_traced z_letters z_draft_bank z_draft_kind z_draft_word z_draft_slow z_draft_told z_folk_bank z_folk_kind z_folk_word z_folk_slow z_folk_told z_strength_borne came' under' z_present_due z_kept z_gambler_trial_came z_gambler_trial_under z_gambler_trial_due z_guesser_load z_guesser_over z_guesser_borne (up rc 6 c') (up ru 6 u') (up rdu 6 du') ic iu idu (up rday 6 dy') (up rcr 6 cr') iday icr) := hD
    refine lv_icmp_eq (tgt := 949) hx hb dL_law_400 (by decide) (fun _ => ?_) (fun h => absurd rfl h)
    exact K _ _ (INV_mk ⟨⟨k, hLR, rfl, rfl⟩, ⟨N, P, bk, kd, wd, sl, hT, hF, hB, hST', ⟨k', t', hH', rfl, rfl, rfl⟩, hIR⟩, ⟨sk, hSR, rfl, rfl⟩, rfl⟩ hP hD) hS
  · refine lv_aload_n hx hb dL_law_372 rfl (lv_at hl 2 rfl) ?_
    refine lv_aload_n hx hb dL_law_373 rfl (lv_at hl 3 rfl) ?_
    refine lv_iload_n hx hb dL_law_374 rfl (lv_at hl 0 rfl) ?_
    refine lv_iconst (v := 1) hx hb dL_law_375 (by decide) ?_
    refine lv_iadd hx hb dL_law_376 ?_
    refine va_sld hx hb hX hbl hbA hS hv1 dL_law_377 ?_
    rw [← ep1]
    refine lv_aload_n hx hb dL_law_378 rfl (lv_at hl 3 rfl) ?_
    refine lv_iload_n hx hb dL_law_379 rfl (lv_at hl 0 rfl) ?_
    refine lv_iconst (v := 2) hx hb dL_law_380 (by decide) ?_
    refine lv_iadd hx hb dL_law_381 ?_
    refine va_sld hx hb hX hbl hbA hS hv2 dL_law_382 ?_
    rw [← ep2]
    refine kX8_breaks hx hb hml hown hts hKW q610 hP hD hS [14, 84, 77, 78, 79, 35, 36, 45, 46, 47, 48, 80, 81, 82] rfl (by decide) e8 hl.1 (Nat.le_of_ble_eq_true rfl) ⟨Nat.le_of_ble_eq_true rfl, Nat.le_of_ble_eq_true rfl⟩ ⟨Nat.le_of_ble_eq_true rfl, Nat.le_of_ble_eq_true rfl⟩ dL_law_383 (fun H locs hP hD hS => ?_)
    have hP : va_P D vwCl (WM cI cZ qm um y_thrown (nI k) y_at y_token y_place y_value y_fault (nI hk) (nI sk) z_traced y_text y_told y_draft y_draftNow y_s y_w y_v y_kept y_isKept y_undos y_seenLoad y_seenOver y_byTaken ++ WX cI cZ cQ qx ux (nI k) z_reader_length z_reader_at z_reader_place z_reader_token z_reader_value z_draft_planks z_draft_size z_draft_sworn z_folk_planks z_folk_size z_folk_sworn z_present_day z_present_crossed (nI k') (nI t') z_gambler_trial_day z_gambler_trial_crossed (nI sk) z_guesser_least z_guesser_greatest z_traced z_letters z_draft_bank z_draft_kind z_draft_word z_draft_slow z_draft_told z_folk_bank z_folk_kind z_folk_word z_folk_slow z_folk_told z_strength_borne came' under' z_present_due z_kept z_gambler_trial_came z_gambler_trial_under z_gambler_trial_due z_guesser_load z_guesser_over z_guesser_borne (up rc 7 c') (up ru 7 u') (up rdu 7 du') ic iu idu (up rday 7 dy') (up rcr 7 cr') iday icr) H := hP
    have hD : va_D (fun q => s.heap.size ≤ q) (WM cI cZ qm um y_thrown (nI k) y_at y_token y_place y_value y_fault (nI hk) (nI sk) z_traced y_text y_told y_draft y_draftNow y_s y_w y_v y_kept y_isKept y_undos y_seenLoad y_seenOver y_byTaken ++ WX cI cZ cQ qx ux (nI k) z_reader_length z_reader_at z_reader_place z_reader_token z_reader_value z_draft_planks z_draft_size z_draft_sworn z_folk_planks z_folk_size z_folk_sworn z_present_day z_present_crossed (nI k') (nI t') z_gambler_trial_day z_gambler_trial_crossed (nI sk) z_guesser_least z_guesser_greatest z_traced z_letters z_draft_bank z_draft_kind z_draft_word z_draft_slow z_draft_told z_folk_bank z_folk_kind z_folk_word z_folk_slow z_folk_told z_strength_borne came' under' z_present_due z_kept z_gambler_trial_came z_gambler_trial_under z_gambler_trial_due z_guesser_load z_guesser_over z_guesser_borne (up rc 7 c') (up ru 7 u') (up rdu 7 du') ic iu idu (up rday 7 dy') (up rcr 7 cr') iday icr) := hD
    refine lv_aload_n hx hb dL_law_386 rfl (lv_at hl 1 rfl) ?_
    refine lv_aload_n hx hb dL_law_387 rfl (lv_at hl 3 rfl) ?_
    refine lv_iload_n hx hb dL_law_388 rfl (lv_at hl 0 rfl) ?_
    refine lv_iconst (v := 1) hx hb dL_law_389 (by decide) ?_
    refine lv_iadd hx hb dL_law_390 ?_
    refine va_sld hx hb hX hbl hbA hS hv1 dL_law_391 ?_
    rw [← ep1]
    refine lv_aload_n hx hb dL_law_392 rfl (lv_at hl 3 rfl) ?_
    refine lv_iload_n hx hb dL_law_393 rfl (lv_at hl 0 rfl) ?_
    refine lv_iconst (v := 2) hx hb dL_law_394 (by decide) ?_
    refine lv_iadd hx hb dL_law_395 ?_
    refine va_sld hx hb hX hbl hbA hS hv2 dL_law_396 ?_
    rw [← ep2]
    refine kX9_breaks hx hb hml hown hts hKW q1100 hP hD hS [0, 2, 5, 10] rfl (by decide) e9 hl.1 (Nat.le_of_ble_eq_true rfl) ⟨Nat.le_of_ble_eq_true rfl, Nat.le_of_ble_eq_true rfl⟩ ⟨Nat.le_of_ble_eq_true rfl, Nat.le_of_ble_eq_true rfl⟩ dL_law_397 (fun H locs hP hD hS => ?_)
    have hP : va_P D vwCl (WM cI cZ qm um 0 (nI k) y_at y_token y_place y_value y_fault (nI k') (nI sk) z_traced y_text y_told y_draft y_draftNow r' y_w y_v y_kept y_isKept U' y_seenLoad y_seenOver y_byTaken ++ WX cI cZ cQ qx ux (nI k) z_reader_length z_reader_at z_reader_place z_reader_token z_reader_value z_draft_planks z_draft_size z_draft_sworn z_folk_planks z_folk_size z_folk_sworn z_present_day z_present_crossed (nI k') (nI t') z_gambler_trial_day z_gambler_trial_crossed (nI sk) z_guesser_least z_guesser_greatest z_traced z_letters z_draft_bank z_draft_kind z_draft_word z_draft_slow z_draft_told z_folk_bank z_folk_kind z_folk_word z_folk_slow z_folk_told z_strength_borne came' under' z_present_due z_kept z_gambler_trial_came z_gambler_trial_under z_gambler_trial_due z_guesser_load z_guesser_over z_guesser_borne (up rc 7 c') (up ru 7 u') (up rdu 7 du') ic iu idu (up rday 7 dy') (up rcr 7 cr') iday icr) H := hP
    have hD : va_D (fun q => s.heap.size ≤ q) (WM cI cZ qm um 0 (nI k) y_at y_token y_place y_value y_fault (nI k') (nI sk) z_traced y_text y_told y_draft y_draftNow r' y_w y_v y_kept y_isKept U' y_seenLoad y_seenOver y_byTaken ++ WX cI cZ cQ qx ux (nI k) z_reader_length z_reader_at z_reader_place z_reader_token z_reader_value z_draft_planks z_draft_size z_draft_sworn z_folk_planks z_folk_size z_folk_sworn z_present_day z_present_crossed (nI k') (nI t') z_gambler_trial_day z_gambler_trial_crossed (nI sk) z_guesser_least z_guesser_greatest z_traced z_letters z_draft_bank z_draft_kind z_draft_word z_draft_slow z_draft_told z_folk_bank z_folk_kind z_folk_word z_folk_slow z_folk_told z_strength_borne came' under' z_present_due z_kept z_gambler_trial_came z_gambler_trial_under z_gambler_trial_due z_guesser_load z_guesser_over z_guesser_borne (up rc 7 c') (up ru 7 u') (up rdu 7 du') ic iu idu (up rday 7 dy') (up rcr 7 cr') iday icr) := hD
    refine lv_icmp_eq (tgt := 949) hx hb dL_law_400 (by decide) (fun _ => ?_) (fun h => absurd rfl h)
    exact K _ _ (INV_mk ⟨⟨k, hLR, rfl, rfl⟩, ⟨N, P, bk, kd, wd, sl, hT, hF, hB, hST', ⟨k', t', hH', rfl, rfl, rfl⟩, hIR⟩, ⟨sk, hSR, rfl, rfl⟩, rfl⟩ hP hD) hS
  · refine lv_aload_n hx hb dL_law_372 rfl (lv_at hl 2 rfl) ?_
    refine lv_aload_n hx hb dL_law_373 rfl (lv_at hl 3 rfl) ?_
    refine lv_iload_n hx hb dL_law_374 rfl (lv_at hl 0 rfl) ?_
    refine lv_iconst (v := 1) hx hb dL_law_375 (by decide) ?_
    refine lv_iadd hx hb dL_law_376 ?_
    refine va_sld hx hb hX hbl hbA hS hv1 dL_law_377 ?_
    rw [← ep1]
    refine lv_aload_n hx hb dL_law_378 rfl (lv_at hl 3 rfl) ?_
    refine lv_iload_n hx hb dL_law_379 rfl (lv_at hl 0 rfl) ?_
    refine lv_iconst (v := 2) hx hb dL_law_380 (by decide) ?_
    refine lv_iadd hx hb dL_law_381 ?_
    refine va_sld hx hb hX hbl hbA hS hv2 dL_law_382 ?_
    rw [← ep2]
    refine kX8_breaks hx hb hml hown hts hKW q610 hP hD hS [14, 84, 77, 78, 79, 35, 36, 41, 42, 43, 44, 80, 81, 82] rfl (by decide) e8 hl.1 (Nat.le_of_ble_eq_true rfl) ⟨Nat.le_of_ble_eq_true rfl, Nat.le_of_ble_eq_true rfl⟩ ⟨Nat.le_of_ble_eq_true rfl, Nat.le_of_ble_eq_true rfl⟩ dL_law_383 (fun H locs hP hD hS => ?_)
    have hP : va_P D vwCl (WM cI cZ qm um y_thrown (nI k) y_at y_token y_place y_value y_fault (nI hk) (nI sk) z_traced y_text y_told y_draft y_draftNow y_s y_w y_v y_kept y_isKept y_undos y_seenLoad y_seenOver y_byTaken ++ WX cI cZ cQ qx ux (nI k) z_reader_length z_reader_at z_reader_place z_reader_token z_reader_value z_draft_planks z_draft_size z_draft_sworn z_folk_planks z_folk_size z_folk_sworn z_present_day z_present_crossed (nI k') (nI t') z_gambler_trial_day z_gambler_trial_crossed (nI sk) z_guesser_least z_guesser_greatest z_traced z_letters z_draft_bank z_draft_kind z_draft_word z_draft_slow z_draft_told z_folk_bank z_folk_kind z_folk_word z_folk_slow z_folk_told z_strength_borne came' under' z_present_due z_kept z_gambler_trial_came z_gambler_trial_under z_gambler_trial_due z_guesser_load z_guesser_over z_guesser_borne (up rc 8 c') (up ru 8 u') (up rdu 8 du') ic iu idu (up rday 8 dy') (up rcr 8 cr') iday icr) H := hP
    have hD : va_D (fun q => s.heap.size ≤ q) (WM cI cZ qm um y_thrown (nI k) y_at y_token y_place y_value y_fault (nI hk) (nI sk) z_traced y_text y_told y_draft y_draftNow y_s y_w y_v y_kept y_isKept y_undos y_seenLoad y_seenOver y_byTaken ++ WX cI cZ cQ qx ux (nI k) z_reader_length z_reader_at z_reader_place z_reader_token z_reader_value z_draft_planks z_draft_size z_draft_sworn z_folk_planks z_folk_size z_folk_sworn z_present_day z_present_crossed (nI k') (nI t') z_gambler_trial_day z_gambler_trial_crossed (nI sk) z_guesser_least z_guesser_greatest z_traced z_letters z_draft_bank z_draft_kind z_draft_word z_draft_slow z_draft_told z_folk_bank z_folk_kind z_folk_word z_folk_slow z_folk_told z_strength_borne came' under' z_present_due z_kept z_gambler_trial_came z_gambler_trial_under z_gambler_trial_due z_guesser_load z_guesser_over z_guesser_borne (up rc 8 c') (up ru 8 u') (up rdu 8 du') ic iu idu (up rday 8 dy') (up rcr 8 cr') iday icr) := hD
    refine lv_aload_n hx hb dL_law_386 rfl (lv_at hl 1 rfl) ?_
    refine lv_aload_n hx hb dL_law_387 rfl (lv_at hl 3 rfl) ?_
    refine lv_iload_n hx hb dL_law_388 rfl (lv_at hl 0 rfl) ?_
    refine lv_iconst (v := 1) hx hb dL_law_389 (by decide) ?_
    refine lv_iadd hx hb dL_law_390 ?_
    refine va_sld hx hb hX hbl hbA hS hv1 dL_law_391 ?_
    rw [← ep1]
    refine lv_aload_n hx hb dL_law_392 rfl (lv_at hl 3 rfl) ?_
    refine lv_iload_n hx hb dL_law_393 rfl (lv_at hl 0 rfl) ?_
    refine lv_iconst (v := 2) hx hb dL_law_394 (by decide) ?_
    refine lv_iadd hx hb dL_law_395 ?_
    refine va_sld hx hb hX hbl hbA hS hv2 dL_law_396 ?_
    rw [← ep2]
    refine kX9_breaks hx hb hml hown hts hKW q1100 hP hD hS [0, 2, 5, 10] rfl (by decide) e9 hl.1 (Nat.le_of_ble_eq_true rfl) ⟨Nat.le_of_ble_eq_true rfl, Nat.le_of_ble_eq_true rfl⟩ ⟨Nat.le_of_ble_eq_true rfl, Nat.le_of_ble_eq_true rfl⟩ dL_law_397 (fun H locs hP hD hS => ?_)
    have hP : va_P D vwCl (WM cI cZ qm um 0 (nI k) y_at y_token y_place y_value y_fault (nI k') (nI sk) z_traced y_text y_told y_draft y_draftNow r' y_w y_v y_kept y_isKept U' y_seenLoad y_seenOver y_byTaken ++ WX cI cZ cQ qx ux (nI k) z_reader_length z_reader_at z_reader_place z_reader_token z_reader_value z_draft_planks z_draft_size z_draft_sworn z_folk_planks z_folk_size z_folk_sworn z_present_day z_present_crossed (nI k') (nI t') z_gambler_trial_day z_gambler_trial_crossed (nI sk) z_guesser_least z_guesser_greatest z_traced z_letters z_draft_bank z_draft_kind z_draft_word z_draft_slow z_draft_told z_folk_bank z_folk_kind z_folk_word z_folk_slow z_folk_told z_strength_borne came' under' z_present_due z_kept z_gambler_trial_came z_gambler_trial_under z_gambler_trial_due z_guesser_load z_guesser_over z_guesser_borne (up rc 8 c') (up ru 8 u') (up rdu 8 du') ic iu idu (up rday 8 dy') (up rcr 8 cr') iday icr) H := hP
    have hD : va_D (fun q => s.heap.size ≤ q) (WM cI cZ qm um 0 (nI k) y_at y_token y_place y_value y_fault (nI k') (nI sk) z_traced y_text y_told y_draft y_draftNow r' y_w y_v y_kept y_isKept U' y_seenLoad y_seenOver y_byTaken ++ WX cI cZ cQ qx ux (nI k) z_reader_length z_reader_at z_reader_place z_reader_token z_reader_value z_draft_planks z_draft_size z_draft_sworn z_folk_planks z_folk_size z_folk_sworn z_present_day z_present_crossed (nI k') (nI t') z_gambler_trial_day z_gambler_trial_crossed (nI sk) z_guesser_least z_guesser_greatest z_traced z_letters z_draft_bank z_draft_kind z_draft_word z_draft_slow z_draft_told z_folk_bank z_folk_kind z_folk_word z_folk_slow z_folk_told z_strength_borne came' under' z_present_due z_kept z_gambler_trial_came z_gambler_trial_under z_gambler_trial_due z_guesser_load z_guesser_over z_guesser_borne (up rc 8 c') (up ru 8 u') (up rdu 8 du') ic iu idu (up rday 8 dy') (up rcr 8 cr') iday icr) := hD
    refine lv_icmp_eq (tgt := 949) hx hb dL_law_400 (by decide) (fun _ => ?_) (fun h => absurd rfl h)
    exact K _ _ (INV_mk ⟨⟨k, hLR, rfl, rfl⟩, ⟨N, P, bk, kd, wd, sl, hT, hF, hB, hST', ⟨k', t', hH', rfl, rfl, rfl⟩, hIR⟩, ⟨sk, hSR, rfl, rfl⟩, rfl⟩ hP hD) hS
  · refine lv_aload_n hx hb dL_law_372 rfl (lv_at hl 2 rfl) ?_
    refine lv_aload_n hx hb dL_law_373 rfl (lv_at hl 3 rfl) ?_
    refine lv_iload_n hx hb dL_law_374 rfl (lv_at hl 0 rfl) ?_
    refine lv_iconst (v := 1) hx hb dL_law_375 (by decide) ?_
    refine lv_iadd hx hb dL_law_376 ?_
    refine va_sld hx hb hX hbl hbA hS hv1 dL_law_377 ?_
    rw [← ep1]
    refine lv_aload_n hx hb dL_law_378 rfl (lv_at hl 3 rfl) ?_
    refine lv_iload_n hx hb dL_law_379 rfl (lv_at hl 0 rfl) ?_
    refine lv_iconst (v := 2) hx hb dL_law_380 (by decide) ?_
    refine lv_iadd hx hb dL_law_381 ?_
    refine va_sld hx hb hX hbl hbA hS hv2 dL_law_382 ?_
    rw [← ep2]
    refine kX8_breaks hx hb hml hown hts hKW q610 hP hD hS [14, 84, 77, 78, 79, 35, 36, 37, 38, 39, 40, 80, 81, 82] rfl (by decide) e8 hl.1 (Nat.le_of_ble_eq_true rfl) ⟨Nat.le_of_ble_eq_true rfl, Nat.le_of_ble_eq_true rfl⟩ ⟨Nat.le_of_ble_eq_true rfl, Nat.le_of_ble_eq_true rfl⟩ dL_law_383 (fun H locs hP hD hS => ?_)
    have hP : va_P D vwCl (WM cI cZ qm um y_thrown (nI k) y_at y_token y_place y_value y_fault (nI hk) (nI sk) z_traced y_text y_told y_draft y_draftNow y_s y_w y_v y_kept y_isKept y_undos y_seenLoad y_seenOver y_byTaken ++ WX cI cZ cQ qx ux (nI k) z_reader_length z_reader_at z_reader_place z_reader_token z_reader_value z_draft_planks z_draft_size z_draft_sworn z_folk_planks z_folk_size z_folk_sworn z_present_day z_present_crossed (nI k') (nI t') z_gambler_trial_day z_gambler_trial_crossed (nI sk) z_guesser_least z_guesser_greatest z_traced z_letters z_draft_bank z_draft_kind z_draft_word z_draft_slow z_draft_told z_folk_bank z_folk_kind z_folk_word z_folk_slow z_folk_told z_strength_borne came' under' z_present_due z_kept z_gambler_trial_came z_gambler_trial_under z_gambler_trial_due z_guesser_load z_guesser_over z_guesser_borne (up rc 9 c') (up ru 9 u') (up rdu 9 du') ic iu idu (up rday 9 dy') (up rcr 9 cr') iday icr) H := hP
    have hD : va_D (fun q => s.heap.size ≤ q) (WM cI cZ qm um y_thrown (nI k) y_at y_token y_place y_value y_fault (nI hk) (nI sk) z_traced y_text y_told y_draft y_draftNow y_s y_w y_v y_kept y_isKept y_undos y_seenLoad y_seenOver y_byTaken ++ WX cI cZ cQ qx ux (nI k) z_reader_length z_reader_at z_reader_place z_reader_token z_reader_value z_draft_planks z_draft_size z_draft_sworn z_folk_planks z_folk_size z_folk_sworn z_present_day z_present_crossed (nI k') (nI t') z_gambler_trial_day z_gambler_trial_crossed (nI sk) z_guesser_least z_guesser_greatest z_traced z_letters z_draft_bank z_draft_kind z_draft_word z_draft_slow z_draft_told z_folk_bank z_folk_kind z_folk_word z_folk_slow z_folk_told z_strength_borne came' under' z_present_due z_kept z_gambler_trial_came z_gambler_trial_under z_gambler_trial_due z_guesser_load z_guesser_over z_guesser_borne (up rc 9 c') (up ru 9 u') (up rdu 9 du') ic iu idu (up rday 9 dy') (up rcr 9 cr') iday icr) := hD
    refine lv_aload_n hx hb dL_law_386 rfl (lv_at hl 1 rfl) ?_
    refine lv_aload_n hx hb dL_law_387 rfl (lv_at hl 3 rfl) ?_
    refine lv_iload_n hx hb dL_law_388 rfl (lv_at hl 0 rfl) ?_
    refine lv_iconst (v := 1) hx hb dL_law_389 (by decide) ?_
    refine lv_iadd hx hb dL_law_390 ?_
    refine va_sld hx hb hX hbl hbA hS hv1 dL_law_391 ?_
    rw [← ep1]
    refine lv_aload_n hx hb dL_law_392 rfl (lv_at hl 3 rfl) ?_
    refine lv_iload_n hx hb dL_law_393 rfl (lv_at hl 0 rfl) ?_
    refine lv_iconst (v := 2) hx hb dL_law_394 (by decide) ?_
    refine lv_iadd hx hb dL_law_395 ?_
    refine va_sld hx hb hX hbl hbA hS hv2 dL_law_396 ?_
    rw [← ep2]
    refine kX9_breaks hx hb hml hown hts hKW q1100 hP hD hS [0, 2, 5, 10] rfl (by decide) e9 hl.1 (Nat.le_of_ble_eq_true rfl) ⟨Nat.le_of_ble_eq_true rfl, Nat.le_of_ble_eq_true rfl⟩ ⟨Nat.le_of_ble_eq_true rfl, Nat.le_of_ble_eq_true rfl⟩ dL_law_397 (fun H locs hP hD hS => ?_)
    have hP : va_P D vwCl (WM cI cZ qm um 0 (nI k) y_at y_token y_place y_value y_fault (nI k') (nI sk) z_traced y_text y_told y_draft y_draftNow r' y_w y_v y_kept y_isKept U' y_seenLoad y_seenOver y_byTaken ++ WX cI cZ cQ qx ux (nI k) z_reader_length z_reader_at z_reader_place z_reader_token z_reader_value z_draft_planks z_draft_size z_draft_sworn z_folk_planks z_folk_size z_folk_sworn z_present_day z_present_crossed (nI k') (nI t') z_gambler_trial_day z_gambler_trial_crossed (nI sk) z_guesser_least z_guesser_greatest z_traced z_letters z_draft_bank z_draft_kind z_draft_word z_draft_slow z_draft_told z_folk_bank z_folk_kind z_folk_word z_folk_slow z_folk_told z_strength_borne came' under' z_present_due z_kept z_gambler_trial_came z_gambler_trial_under z_gambler_trial_due z_guesser_load z_guesser_over z_guesser_borne (up rc 9 c') (up ru 9 u') (up rdu 9 du') ic iu idu (up rday 9 dy') (up rcr 9 cr') iday icr) H := hP
    have hD : va_D (fun q => s.heap.size ≤ q) (WM cI cZ qm um 0 (nI k) y_at y_token y_place y_value y_fault (nI k') (nI sk) z_traced y_text y_told y_draft y_draftNow r' y_w y_v y_kept y_isKept U' y_seenLoad y_seenOver y_byTaken ++ WX cI cZ cQ qx ux (nI k) z_reader_length z_reader_at z_reader_place z_reader_token z_reader_value z_draft_planks z_draft_size z_draft_sworn z_folk_planks z_folk_size z_folk_sworn z_present_day z_present_crossed (nI k') (nI t') z_gambler_trial_day z_gambler_trial_crossed (nI sk) z_guesser_least z_guesser_greatest z_traced z_letters z_draft_bank z_draft_kind z_draft_word z_draft_slow z_draft_told z_folk_bank z_folk_kind z_folk_word z_folk_slow z_folk_told z_strength_borne came' under' z_present_due z_kept z_gambler_trial_came z_gambler_trial_under z_gambler_trial_due z_guesser_load z_guesser_over z_guesser_borne (up rc 9 c') (up ru 9 u') (up rdu 9 du') ic iu idu (up rday 9 dy') (up rcr 9 cr') iday icr) := hD
    refine lv_icmp_eq (tgt := 949) hx hb dL_law_400 (by decide) (fun _ => ?_) (fun h => absurd rfl h)
    exact K _ _ (INV_mk ⟨⟨k, hLR, rfl, rfl⟩, ⟨N, P, bk, kd, wd, sl, hT, hF, hB, hST', ⟨k', t', hH', rfl, rfl, rfl⟩, hIR⟩, ⟨sk, hSR, rfl, rfl⟩, rfl⟩ hP hD) hS
