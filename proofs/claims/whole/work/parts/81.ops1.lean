-- the calls of the law
set_option maxHeartbeats 4000000 in
set_option maxRecDepth 100000 in
theorem op_type {p : Program} {l : Launch} {e : Env} {s : State} {m : MethodId} {below : List Frame} {meth : Method} {c : Code} {b L : Nat} {xs : Nat → Int32} {D : va_G} {cI cZ cQ : ClassId} {adK adV : Nat → Nat} {qx qm : Nat} {ux um : Nat → Nat → Nat} (C0 : lw_At p s m meth c b L xs) (hKW : KW D (TY cI cZ cQ) s) (hSK : SK adK adV (fun q => s.heap.size ≤ q) s s.heap) {i : Nat} (hi : i + 4 ≤ L) (hL : L ≤ 2048) {H : Heap} {locs : List Loc} (hI : INV D (fun q => s.heap.size ≤ q) cI cZ cQ qx ux qm um H) (hS : va_S (fun q => s.heap.size ≤ q) s.heap H locs) {ls : Array Slot} (hl : lv_has ls 4 [(3, .int (nI i)), (2, .ref qm), (1, .ref qx), (0, .ref b)]) (K : ∀ (H1 : Heap) (locs1 : List Loc), INV D (fun q => s.heap.size ≤ q) cI cZ cQ qx ux qm um H1 → va_S (fun q => s.heap.size ≤ q) s.heap H1 locs1 → W p l e room_1 s m #[Value.ref b] below meth c H1 locs1 100 4000 (lw_Z below #[Value.ref b] s) (F0 m 949 ls [])) : W p l e room_1 s m #[Value.ref b] below meth c H locs 100 4000 (lw_Z below #[Value.ref b] s) (F0 m 168 ls []) := by
  obtain ⟨z_typed, z_reader_length, z_reader_at, z_reader_place, z_reader_token, z_reader_value, z_draft_planks, z_draft_size, z_draft_sworn, z_folk_planks, z_folk_size, z_folk_sworn, z_present_day, z_present_crossed, z_history_known, z_history_top, z_gambler_trial_day, z_gambler_trial_crossed, z_guesser_seen, z_guesser_least, z_guesser_greatest, z_traced, z_letters, z_draft_bank, z_draft_kind, z_draft_word, z_draft_slow, z_draft_told, z_folk_bank, z_folk_kind, z_folk_word, z_folk_slow, z_folk_told, z_strength_borne, z_present_came, z_present_under, z_present_due, z_kept, z_gambler_trial_came, z_gambler_trial_under, z_gambler_trial_due, z_guesser_load, z_guesser_over, z_guesser_borne, rc, ru, rdu, ic, iu, idu, rday, rcr, iday, icr, y_thrown, y_typed, y_at, y_token, y_place, y_value, y_fault, y_undoMany, y_seenMany, y_trace, y_text, y_told, y_draft, y_draftNow, y_s, y_w, y_v, y_kept, y_isKept, y_undos, y_seenLoad, y_seenOver, y_byTaken, hREL, hP, hD⟩ := hI
  obtain ⟨⟨k, hLR, rfl, rfl⟩, ⟨N, P, bk, kd, wd, sl, hT, hF, hB, hST, ⟨hk, ht, hH, rfl, rfl, rfl⟩, hIR⟩, ⟨sk, hSR, rfl, rfl⟩, rfl⟩ := hREL
  obtain ⟨hx, hb, hr, hml, hown0, hts0, hX, hbl, hlocks, hgv⟩ := id C0
  have hown : s.vm.findClass RL = some m.cls := hown0
  have hts := tb_law hts0
  have hbA : ¬ (fun q : Nat => s.heap.size ≤ q) b := Nat.not_le.mpr hbl
  have hv1 : vp_in (nI i + 1) L := by rw [show nI i + 1 = nI (i + 1) from nI_add i 1]; exact vp_in_nI (by omega) (by omega)
  obtain ⟨p1, ep1⟩ : ∃ z, z = xs (nI i + 1).toNatClampNeg := ⟨_, rfl⟩
  obtain ⟨v, k', L', T', hLR', e8, e9⟩ := q_type (fu := 1000) (th := y_thrown) hLR p1
  refine lv_aload_n hx hb dL_law_168 rfl (lv_at hl 2 rfl) ?_
  refine lv_aload_n hx hb dL_law_169 rfl (lv_at hl 3 rfl) ?_
  refine lv_iload_n hx hb dL_law_170 rfl (lv_at hl 0 rfl) ?_
  refine lv_iconst (v := 1) hx hb dL_law_171 (by decide) ?_
  refine lv_iadd hx hb dL_law_172 ?_
  refine va_sld hx hb hX hbl hbA hS hv1 dL_law_173 ?_
  rw [← ep1]
  refine kX8_type hx hb hml hown hts hKW q330 hP hD hS [14, 96] rfl (by decide) e8 hl.1 (Nat.le_of_ble_eq_true rfl) ⟨Nat.le_of_ble_eq_true rfl, Nat.le_of_ble_eq_true rfl⟩ ⟨Nat.le_of_ble_eq_true rfl, Nat.le_of_ble_eq_true rfl⟩ dL_law_174 (fun H locs hP hD hS => ?_)
  have hP : va_P D vwCl (WM cI cZ qm um y_thrown (nI k) y_at y_token y_place y_value y_fault (nI hk) (nI sk) z_traced y_text y_told y_draft y_draftNow y_s y_w y_v y_kept y_isKept y_undos y_seenLoad y_seenOver y_byTaken ++ WX cI cZ cQ qx ux (nI k') z_reader_length z_reader_at z_reader_place z_reader_token z_reader_value z_draft_planks z_draft_size z_draft_sworn z_folk_planks z_folk_size z_folk_sworn z_present_day z_present_crossed (nI hk) (nI ht) z_gambler_trial_day z_gambler_trial_crossed (nI sk) z_guesser_least z_guesser_greatest z_traced L' z_draft_bank z_draft_kind z_draft_word z_draft_slow z_draft_told z_folk_bank z_folk_kind z_folk_word z_folk_slow z_folk_told z_strength_borne z_present_came z_present_under z_present_due z_kept z_gambler_trial_came z_gambler_trial_under z_gambler_trial_due z_guesser_load z_guesser_over z_guesser_borne rc ru rdu ic iu idu rday rcr iday icr) H := hP
  have hD : va_D (fun q => s.heap.size ≤ q) (WM cI cZ qm um y_thrown (nI k) y_at y_token y_place y_value y_fault (nI hk) (nI sk) z_traced y_text y_told y_draft y_draftNow y_s y_w y_v y_kept y_isKept y_undos y_seenLoad y_seenOver y_byTaken ++ WX cI cZ cQ qx ux (nI k') z_reader_length z_reader_at z_reader_place z_reader_token z_reader_value z_draft_planks z_draft_size z_draft_sworn z_folk_planks z_folk_size z_folk_sworn z_present_day z_present_crossed (nI hk) (nI ht) z_gambler_trial_day z_gambler_trial_crossed (nI sk) z_guesser_least z_guesser_greatest z_traced L' z_draft_bank z_draft_kind z_draft_word z_draft_slow z_draft_told z_folk_bank z_folk_kind z_folk_word z_folk_slow z_folk_told z_strength_borne z_present_came z_present_under z_present_due z_kept z_gambler_trial_came z_gambler_trial_under z_gambler_trial_due z_guesser_load z_guesser_over z_guesser_borne rc ru rdu ic iu idu rday rcr iday icr) := hD
  refine lv_aload_n hx hb dL_law_177 rfl (lv_at hl 1 rfl) ?_
  refine lv_aload_n hx hb dL_law_178 rfl (lv_at hl 3 rfl) ?_
  refine lv_iload_n hx hb dL_law_179 rfl (lv_at hl 0 rfl) ?_
  refine lv_iconst (v := 1) hx hb dL_law_180 (by decide) ?_
  refine lv_iadd hx hb dL_law_181 ?_
  refine va_sld hx hb hX hbl hbA hS hv1 dL_law_182 ?_
  rw [← ep1]
  refine kX9_type hx hb hml hown hts hKW q975 hP hD hS [0, 1] rfl (by decide) e9 hl.1 (Nat.le_of_ble_eq_true rfl) ⟨Nat.le_of_ble_eq_true rfl, Nat.le_of_ble_eq_true rfl⟩ ⟨Nat.le_of_ble_eq_true rfl, Nat.le_of_ble_eq_true rfl⟩ dL_law_183 (fun H locs hP hD hS => ?_)
  have hP : va_P D vwCl (WM cI cZ qm um 0 (nI k') y_at y_token y_place y_value y_fault (nI hk) (nI sk) z_traced T' y_told y_draft y_draftNow y_s y_w y_v y_kept y_isKept y_undos y_seenLoad y_seenOver y_byTaken ++ WX cI cZ cQ qx ux (nI k') z_reader_length z_reader_at z_reader_place z_reader_token z_reader_value z_draft_planks z_draft_size z_draft_sworn z_folk_planks z_folk_size z_folk_sworn z_present_day z_present_crossed (nI hk) (nI ht) z_gambler_trial_day z_gambler_trial_crossed (nI sk) z_guesser_least z_guesser_greatest z_traced L' z_draft_bank z_draft_kind z_draft_word z_draft_slow z_draft_told z_folk_bank z_folk_kind z_folk_word z_folk_slow z_folk_told z_strength_borne z_present_came z_present_under z_present_due z_kept z_gambler_trial_came z_gambler_trial_under z_gambler_trial_due z_guesser_load z_guesser_over z_guesser_borne rc ru rdu ic iu idu rday rcr iday icr) H := hP
  have hD : va_D (fun q => s.heap.size ≤ q) (WM cI cZ qm um 0 (nI k') y_at y_token y_place y_value y_fault (nI hk) (nI sk) z_traced T' y_told y_draft y_draftNow y_s y_w y_v y_kept y_isKept y_undos y_seenLoad y_seenOver y_byTaken ++ WX cI cZ cQ qx ux (nI k') z_reader_length z_reader_at z_reader_place z_reader_token z_reader_value z_draft_planks z_draft_size z_draft_sworn z_folk_planks z_folk_size z_folk_sworn z_present_day z_present_crossed (nI hk) (nI ht) z_gambler_trial_day z_gambler_trial_crossed (nI sk) z_guesser_least z_guesser_greatest z_traced L' z_draft_bank z_draft_kind z_draft_word z_draft_slow z_draft_told z_folk_bank z_folk_kind z_folk_word z_folk_slow z_folk_told z_strength_borne z_present_came z_present_under z_present_due z_kept z_gambler_trial_came z_gambler_trial_under z_gambler_trial_due z_guesser_load z_guesser_over z_guesser_borne rc ru rdu ic iu idu rday rcr iday icr) := hD
  refine lv_icmp_eq (tgt := 949) hx hb dL_law_186 (by decide) (fun _ => ?_) (fun h => absurd rfl h)
  exact K _ _ ⟨(nI k'), z_reader_length, z_reader_at, z_reader_place, z_reader_token, z_reader_value, z_draft_planks, z_draft_size, z_draft_sworn, z_folk_planks, z_folk_size, z_folk_sworn, z_present_day, z_present_crossed, (nI hk), (nI ht), z_gambler_trial_day, z_gambler_trial_crossed, (nI sk), z_guesser_least, z_guesser_greatest, z_traced, L', z_draft_bank, z_draft_kind, z_draft_word, z_draft_slow, z_draft_told, z_folk_bank, z_folk_kind, z_folk_word, z_folk_slow, z_folk_told, z_strength_borne, z_present_came, z_present_under, z_present_due, z_kept, z_gambler_trial_came, z_gambler_trial_under, z_gambler_trial_due, z_guesser_load, z_guesser_over, z_guesser_borne, rc, ru, rdu, ic, iu, idu, rday, rcr, iday, icr, 0, (nI k'), y_at, y_token, y_place, y_value, y_fault, (nI hk), (nI sk), z_traced, T', y_told, y_draft, y_draftNow, y_s, y_w, y_v, y_kept, y_isKept, y_undos, y_seenLoad, y_seenOver, y_byTaken, ⟨⟨k', hLR', rfl, rfl⟩, ⟨N, P, bk, kd, wd, sl, hT, hF, hB, hST, ⟨hk, ht, hH, rfl, rfl, rfl⟩, hIR⟩, ⟨sk, hSR, rfl, rfl⟩, rfl⟩, hP, hD⟩ hS

set_option maxHeartbeats 4000000 in
set_option maxRecDepth 100000 in
theorem op_clear {p : Program} {l : Launch} {e : Env} {s : State} {m : MethodId} {below : List Frame} {meth : Method} {c : Code} {b L : Nat} {xs : Nat → Int32} {D : va_G} {cI cZ cQ : ClassId} {adK adV : Nat → Nat} {qx qm : Nat} {ux um : Nat → Nat → Nat} (C0 : lw_At p s m meth c b L xs) (hKW : KW D (TY cI cZ cQ) s) (hSK : SK adK adV (fun q => s.heap.size ≤ q) s s.heap) {i : Nat} (hi : i + 4 ≤ L) (hL : L ≤ 2048) {H : Heap} {locs : List Loc} (hI : INV D (fun q => s.heap.size ≤ q) cI cZ cQ qx ux qm um H) (hS : va_S (fun q => s.heap.size ≤ q) s.heap H locs) {ls : Array Slot} (hl : lv_has ls 4 [(3, .int (nI i)), (2, .ref qm), (1, .ref qx), (0, .ref b)]) (K : ∀ (H1 : Heap) (locs1 : List Loc), INV D (fun q => s.heap.size ≤ q) cI cZ cQ qx ux qm um H1 → va_S (fun q => s.heap.size ≤ q) s.heap H1 locs1 → W p l e room_1 s m #[Value.ref b] below meth c H1 locs1 100 4000 (lw_Z below #[Value.ref b] s) (F0 m 949 ls [])) : W p l e room_1 s m #[Value.ref b] below meth c H locs 100 4000 (lw_Z below #[Value.ref b] s) (F0 m 191 ls []) := by
  obtain ⟨z_typed, z_reader_length, z_reader_at, z_reader_place, z_reader_token, z_reader_value, z_draft_planks, z_draft_size, z_draft_sworn, z_folk_planks, z_folk_size, z_folk_sworn, z_present_day, z_present_crossed, z_history_known, z_history_top, z_gambler_trial_day, z_gambler_trial_crossed, z_guesser_seen, z_guesser_least, z_guesser_greatest, z_traced, z_letters, z_draft_bank, z_draft_kind, z_draft_word, z_draft_slow, z_draft_told, z_folk_bank, z_folk_kind, z_folk_word, z_folk_slow, z_folk_told, z_strength_borne, z_present_came, z_present_under, z_present_due, z_kept, z_gambler_trial_came, z_gambler_trial_under, z_gambler_trial_due, z_guesser_load, z_guesser_over, z_guesser_borne, rc, ru, rdu, ic, iu, idu, rday, rcr, iday, icr, y_thrown, y_typed, y_at, y_token, y_place, y_value, y_fault, y_undoMany, y_seenMany, y_trace, y_text, y_told, y_draft, y_draftNow, y_s, y_w, y_v, y_kept, y_isKept, y_undos, y_seenLoad, y_seenOver, y_byTaken, hREL, hP, hD⟩ := hI
  obtain ⟨⟨k, hLR, rfl, rfl⟩, ⟨N, P, bk, kd, wd, sl, hT, hF, hB, hST, ⟨hk, ht, hH, rfl, rfl, rfl⟩, hIR⟩, ⟨sk, hSR, rfl, rfl⟩, rfl⟩ := hREL
  obtain ⟨hx, hb, hr, hml, hown0, hts0, hX, hbl, hlocks, hgv⟩ := id C0
  have hown : s.vm.findClass RL = some m.cls := hown0
  have hts := tb_law hts0
  have hbA : ¬ (fun q : Nat => s.heap.size ≤ q) b := Nat.not_le.mpr hbl
  have e8 : fX8_clear 1000 (nI k) = some (nI k, 0) := rfl
  have e9 : fX9_clear 1000 (nI k) y_thrown = some (nI k, 0, 0) := rfl
  refine lv_aload_n hx hb dL_law_191 rfl (lv_at hl 2 rfl) ?_
  refine kX8_clear hx hb hml hown hts hKW q337 hP hD hS [14] rfl (by decide) e8 hl.1 (Nat.le_of_ble_eq_true rfl) ⟨Nat.le_of_ble_eq_true rfl, Nat.le_of_ble_eq_true rfl⟩ ⟨Nat.le_of_ble_eq_true rfl, Nat.le_of_ble_eq_true rfl⟩ dL_law_192 (fun H locs hP hD hS => ?_)
  have hP : va_P D vwCl (WM cI cZ qm um y_thrown (nI k) y_at y_token y_place y_value y_fault (nI hk) (nI sk) z_traced y_text y_told y_draft y_draftNow y_s y_w y_v y_kept y_isKept y_undos y_seenLoad y_seenOver y_byTaken ++ WX cI cZ cQ qx ux 0 z_reader_length z_reader_at z_reader_place z_reader_token z_reader_value z_draft_planks z_draft_size z_draft_sworn z_folk_planks z_folk_size z_folk_sworn z_present_day z_present_crossed (nI hk) (nI ht) z_gambler_trial_day z_gambler_trial_crossed (nI sk) z_guesser_least z_guesser_greatest z_traced z_letters z_draft_bank z_draft_kind z_draft_word z_draft_slow z_draft_told z_folk_bank z_folk_kind z_folk_word z_folk_slow z_folk_told z_strength_borne z_present_came z_present_under z_present_due z_kept z_gambler_trial_came z_gambler_trial_under z_gambler_trial_due z_guesser_load z_guesser_over z_guesser_borne rc ru rdu ic iu idu rday rcr iday icr) H := hP
  have hD : va_D (fun q => s.heap.size ≤ q) (WM cI cZ qm um y_thrown (nI k) y_at y_token y_place y_value y_fault (nI hk) (nI sk) z_traced y_text y_told y_draft y_draftNow y_s y_w y_v y_kept y_isKept y_undos y_seenLoad y_seenOver y_byTaken ++ WX cI cZ cQ qx ux 0 z_reader_length z_reader_at z_reader_place z_reader_token z_reader_value z_draft_planks z_draft_size z_draft_sworn z_folk_planks z_folk_size z_folk_sworn z_present_day z_present_crossed (nI hk) (nI ht) z_gambler_trial_day z_gambler_trial_crossed (nI sk) z_guesser_least z_guesser_greatest z_traced z_letters z_draft_bank z_draft_kind z_draft_word z_draft_slow z_draft_told z_folk_bank z_folk_kind z_folk_word z_folk_slow z_folk_told z_strength_borne z_present_came z_present_under z_present_due z_kept z_gambler_trial_came z_gambler_trial_under z_gambler_trial_due z_guesser_load z_guesser_over z_guesser_borne rc ru rdu ic iu idu rday rcr iday icr) := hD
  refine lv_aload_n hx hb dL_law_195 rfl (lv_at hl 1 rfl) ?_
  refine kX9_clear hx hb hml hown hts hKW q982 hP hD hS [0] rfl (by decide) e9 hl.1 (Nat.le_of_ble_eq_true rfl) ⟨Nat.le_of_ble_eq_true rfl, Nat.le_of_ble_eq_true rfl⟩ ⟨Nat.le_of_ble_eq_true rfl, Nat.le_of_ble_eq_true rfl⟩ dL_law_196 (fun H locs hP hD hS => ?_)
  have hP : va_P D vwCl (WM cI cZ qm um 0 0 y_at y_token y_place y_value y_fault (nI hk) (nI sk) z_traced y_text y_told y_draft y_draftNow y_s y_w y_v y_kept y_isKept y_undos y_seenLoad y_seenOver y_byTaken ++ WX cI cZ cQ qx ux 0 z_reader_length z_reader_at z_reader_place z_reader_token z_reader_value z_draft_planks z_draft_size z_draft_sworn z_folk_planks z_folk_size z_folk_sworn z_present_day z_present_crossed (nI hk) (nI ht) z_gambler_trial_day z_gambler_trial_crossed (nI sk) z_guesser_least z_guesser_greatest z_traced z_letters z_draft_bank z_draft_kind z_draft_word z_draft_slow z_draft_told z_folk_bank z_folk_kind z_folk_word z_folk_slow z_folk_told z_strength_borne z_present_came z_present_under z_present_due z_kept z_gambler_trial_came z_gambler_trial_under z_gambler_trial_due z_guesser_load z_guesser_over z_guesser_borne rc ru rdu ic iu idu rday rcr iday icr) H := hP
  have hD : va_D (fun q => s.heap.size ≤ q) (WM cI cZ qm um 0 0 y_at y_token y_place y_value y_fault (nI hk) (nI sk) z_traced y_text y_told y_draft y_draftNow y_s y_w y_v y_kept y_isKept y_undos y_seenLoad y_seenOver y_byTaken ++ WX cI cZ cQ qx ux 0 z_reader_length z_reader_at z_reader_place z_reader_token z_reader_value z_draft_planks z_draft_size z_draft_sworn z_folk_planks z_folk_size z_folk_sworn z_present_day z_present_crossed (nI hk) (nI ht) z_gambler_trial_day z_gambler_trial_crossed (nI sk) z_guesser_least z_guesser_greatest z_traced z_letters z_draft_bank z_draft_kind z_draft_word z_draft_slow z_draft_told z_folk_bank z_folk_kind z_folk_word z_folk_slow z_folk_told z_strength_borne z_present_came z_present_under z_present_due z_kept z_gambler_trial_came z_gambler_trial_under z_gambler_trial_due z_guesser_load z_guesser_over z_guesser_borne rc ru rdu ic iu idu rday rcr iday icr) := hD
  refine lv_icmp_eq (tgt := 949) hx hb dL_law_199 (by decide) (fun _ => ?_) (fun h => absurd rfl h)
  exact K _ _ ⟨0, z_reader_length, z_reader_at, z_reader_place, z_reader_token, z_reader_value, z_draft_planks, z_draft_size, z_draft_sworn, z_folk_planks, z_folk_size, z_folk_sworn, z_present_day, z_present_crossed, (nI hk), (nI ht), z_gambler_trial_day, z_gambler_trial_crossed, (nI sk), z_guesser_least, z_guesser_greatest, z_traced, z_letters, z_draft_bank, z_draft_kind, z_draft_word, z_draft_slow, z_draft_told, z_folk_bank, z_folk_kind, z_folk_word, z_folk_slow, z_folk_told, z_strength_borne, z_present_came, z_present_under, z_present_due, z_kept, z_gambler_trial_came, z_gambler_trial_under, z_gambler_trial_due, z_guesser_load, z_guesser_over, z_guesser_borne, rc, ru, rdu, ic, iu, idu, rday, rcr, iday, icr, 0, 0, y_at, y_token, y_place, y_value, y_fault, (nI hk), (nI sk), z_traced, y_text, y_told, y_draft, y_draftNow, y_s, y_w, y_v, y_kept, y_isKept, y_undos, y_seenLoad, y_seenOver, y_byTaken, ⟨⟨0, ⟨by omega, fun j hj => by omega⟩, rfl, rfl⟩, ⟨N, P, bk, kd, wd, sl, hT, hF, hB, hST, ⟨hk, ht, hH, rfl, rfl, rfl⟩, hIR⟩, ⟨sk, hSR, rfl, rfl⟩, rfl⟩, hP, hD⟩ hS

set_option maxHeartbeats 4000000 in
set_option maxRecDepth 100000 in
theorem op_person {p : Program} {l : Launch} {e : Env} {s : State} {m : MethodId} {below : List Frame} {meth : Method} {c : Code} {b L : Nat} {xs : Nat → Int32} {D : va_G} {cI cZ cQ : ClassId} {adK adV : Nat → Nat} {qx qm : Nat} {ux um : Nat → Nat → Nat} (C0 : lw_At p s m meth c b L xs) (hKW : KW D (TY cI cZ cQ) s) (hSK : SK adK adV (fun q => s.heap.size ≤ q) s s.heap) {i : Nat} (hi : i + 4 ≤ L) (hL : L ≤ 2048) {H : Heap} {locs : List Loc} (hI : INV D (fun q => s.heap.size ≤ q) cI cZ cQ qx ux qm um H) (hS : va_S (fun q => s.heap.size ≤ q) s.heap H locs) {ls : Array Slot} (hl : lv_has ls 4 [(3, .int (nI i)), (2, .ref qm), (1, .ref qx), (0, .ref b)]) (K : ∀ (H1 : Heap) (locs1 : List Loc), INV D (fun q => s.heap.size ≤ q) cI cZ cQ qx ux qm um H1 → va_S (fun q => s.heap.size ≤ q) s.heap H1 locs1 → W p l e room_1 s m #[Value.ref b] below meth c H1 locs1 100 4000 (lw_Z below #[Value.ref b] s) (F0 m 949 ls [])) : W p l e room_1 s m #[Value.ref b] below meth c H locs 100 4000 (lw_Z below #[Value.ref b] s) (F0 m 217 ls []) := by
  obtain ⟨z_typed, z_reader_length, z_reader_at, z_reader_place, z_reader_token, z_reader_value, z_draft_planks, z_draft_size, z_draft_sworn, z_folk_planks, z_folk_size, z_folk_sworn, z_present_day, z_present_crossed, z_history_known, z_history_top, z_gambler_trial_day, z_gambler_trial_crossed, z_guesser_seen, z_guesser_least, z_guesser_greatest, z_traced, z_letters, z_draft_bank, z_draft_kind, z_draft_word, z_draft_slow, z_draft_told, z_folk_bank, z_folk_kind, z_folk_word, z_folk_slow, z_folk_told, z_strength_borne, z_present_came, z_present_under, z_present_due, z_kept, z_gambler_trial_came, z_gambler_trial_under, z_gambler_trial_due, z_guesser_load, z_guesser_over, z_guesser_borne, rc, ru, rdu, ic, iu, idu, rday, rcr, iday, icr, y_thrown, y_typed, y_at, y_token, y_place, y_value, y_fault, y_undoMany, y_seenMany, y_trace, y_text, y_told, y_draft, y_draftNow, y_s, y_w, y_v, y_kept, y_isKept, y_undos, y_seenLoad, y_seenOver, y_byTaken, hREL, hP, hD⟩ := hI
  obtain ⟨⟨k, hLR, rfl, rfl⟩, ⟨N, P, bk, kd, wd, sl, hT, hF, hB, hST, ⟨hk, ht, hH, rfl, rfl, rfl⟩, hIR⟩, ⟨sk, hSR, rfl, rfl⟩, rfl⟩ := hREL
  obtain ⟨hx, hb, hr, hml, hown0, hts0, hX, hbl, hlocks, hgv⟩ := id C0
  have hown : s.vm.findClass RL = some m.cls := hown0
  have hts := tb_law hts0
  have hbA : ¬ (fun q : Nat => s.heap.size ≤ q) b := Nat.not_le.mpr hbl
  have hv1 : vp_in (nI i + 1) L := by rw [show nI i + 1 = nI (i + 1) from nI_add i 1]; exact vp_in_nI (by omega) (by omega)
  obtain ⟨p1, ep1⟩ : ∃ z, z = xs (nI i + 1).toNatClampNeg := ⟨_, rfl⟩
  have hv2 : vp_in (nI i + 2) L := by rw [show nI i + 2 = nI (i + 2) from nI_add i 2]; exact vp_in_nI (by omega) (by omega)
  obtain ⟨p2, ep2⟩ : ∃ z, z = xs (nI i + 2).toNatClampNeg := ⟨_, rfl⟩
  obtain ⟨d, x, hd, hx0, rfl, rfl, hR⟩ := id hST
  obtain ⟨v, w', e8, e9⟩ := q_person (fu := 1000) (w := y_w) (th := y_thrown) (by omega) hT hF hB hR (by omega) p1 p2
  refine lv_aload_n hx hb dL_law_217 rfl (lv_at hl 2 rfl) ?_
  refine lv_aload_n hx hb dL_law_218 rfl (lv_at hl 3 rfl) ?_
  refine lv_iload_n hx hb dL_law_219 rfl (lv_at hl 0 rfl) ?_
  refine lv_iconst (v := 1) hx hb dL_law_220 (by decide) ?_
  refine lv_iadd hx hb dL_law_221 ?_
  refine va_sld hx hb hX hbl hbA hS hv1 dL_law_222 ?_
  rw [← ep1]
  refine lv_aload_n hx hb dL_law_223 rfl (lv_at hl 3 rfl) ?_
  refine lv_iload_n hx hb dL_law_224 rfl (lv_at hl 0 rfl) ?_
  refine lv_iconst (v := 2) hx hb dL_law_225 (by decide) ?_
  refine lv_iadd hx hb dL_law_226 ?_
  refine va_sld hx hb hX hbl hbA hS hv2 dL_law_227 ?_
  rw [← ep2]
  refine kX8_person hx hb hml hown hts hKW q521 (hP.sub [14, 84, 81, 77, 78, 82, 79, 88, 87, 86, 85] rfl) e8 hl.1 (Nat.le_of_ble_eq_true rfl) ⟨Nat.le_of_ble_eq_true rfl, Nat.le_of_ble_eq_true rfl⟩ ⟨Nat.le_of_ble_eq_true rfl, Nat.le_of_ble_eq_true rfl⟩ dL_law_228 ?_
  refine lv_aload_n hx hb dL_law_231 rfl (lv_at hl 1 rfl) ?_
  refine lv_aload_n hx hb dL_law_232 rfl (lv_at hl 3 rfl) ?_
  refine lv_iload_n hx hb dL_law_233 rfl (lv_at hl 0 rfl) ?_
  refine lv_iconst (v := 1) hx hb dL_law_234 (by decide) ?_
  refine lv_iadd hx hb dL_law_235 ?_
  refine va_sld hx hb hX hbl hbA hS hv1 dL_law_236 ?_
  rw [← ep1]
  refine lv_aload_n hx hb dL_law_237 rfl (lv_at hl 3 rfl) ?_
  refine lv_iload_n hx hb dL_law_238 rfl (lv_at hl 0 rfl) ?_
  refine lv_iconst (v := 2) hx hb dL_law_239 (by decide) ?_
  refine lv_iadd hx hb dL_law_240 ?_
  refine va_sld hx hb hX hbl hbA hS hv2 dL_law_241 ?_
  rw [← ep2]
  refine kX9_person hx hb hml hown hts hKW q1021 hP hD hS [0, 2, 5, 6] rfl (by decide) e9 hl.1 (Nat.le_of_ble_eq_true rfl) ⟨Nat.le_of_ble_eq_true rfl, Nat.le_of_ble_eq_true rfl⟩ ⟨Nat.le_of_ble_eq_true rfl, Nat.le_of_ble_eq_true rfl⟩ dL_law_242 (fun H locs hP hD hS => ?_)
  have hP : va_P D vwCl (WM cI cZ qm um 0 (nI k) y_at y_token y_place y_value y_fault (nI hk) (nI sk) z_traced y_text y_told y_draft y_draftNow y_s w' y_v y_kept y_isKept y_undos y_seenLoad y_seenOver y_byTaken ++ WX cI cZ cQ qx ux (nI k) z_reader_length z_reader_at z_reader_place z_reader_token z_reader_value z_draft_planks z_draft_size z_draft_sworn z_folk_planks z_folk_size z_folk_sworn (nI d) (nI x) (nI hk) (nI ht) z_gambler_trial_day z_gambler_trial_crossed (nI sk) z_guesser_least z_guesser_greatest z_traced z_letters z_draft_bank z_draft_kind z_draft_word z_draft_slow z_draft_told z_folk_bank z_folk_kind z_folk_word z_folk_slow z_folk_told z_strength_borne z_present_came z_present_under z_present_due z_kept z_gambler_trial_came z_gambler_trial_under z_gambler_trial_due z_guesser_load z_guesser_over z_guesser_borne rc ru rdu ic iu idu rday rcr iday icr) H := hP
  have hD : va_D (fun q => s.heap.size ≤ q) (WM cI cZ qm um 0 (nI k) y_at y_token y_place y_value y_fault (nI hk) (nI sk) z_traced y_text y_told y_draft y_draftNow y_s w' y_v y_kept y_isKept y_undos y_seenLoad y_seenOver y_byTaken ++ WX cI cZ cQ qx ux (nI k) z_reader_length z_reader_at z_reader_place z_reader_token z_reader_value z_draft_planks z_draft_size z_draft_sworn z_folk_planks z_folk_size z_folk_sworn (nI d) (nI x) (nI hk) (nI ht) z_gambler_trial_day z_gambler_trial_crossed (nI sk) z_guesser_least z_guesser_greatest z_traced z_letters z_draft_bank z_draft_kind z_draft_word z_draft_slow z_draft_told z_folk_bank z_folk_kind z_folk_word z_folk_slow z_folk_told z_strength_borne z_present_came z_present_under z_present_due z_kept z_gambler_trial_came z_gambler_trial_under z_gambler_trial_due z_guesser_load z_guesser_over z_guesser_borne rc ru rdu ic iu idu rday rcr iday icr) := hD
  refine lv_icmp_eq (tgt := 949) hx hb dL_law_245 (by decide) (fun _ => ?_) (fun h => absurd rfl h)
  exact K _ _ ⟨(nI k), z_reader_length, z_reader_at, z_reader_place, z_reader_token, z_reader_value, z_draft_planks, z_draft_size, z_draft_sworn, z_folk_planks, z_folk_size, z_folk_sworn, (nI d), (nI x), (nI hk), (nI ht), z_gambler_trial_day, z_gambler_trial_crossed, (nI sk), z_guesser_least, z_guesser_greatest, z_traced, z_letters, z_draft_bank, z_draft_kind, z_draft_word, z_draft_slow, z_draft_told, z_folk_bank, z_folk_kind, z_folk_word, z_folk_slow, z_folk_told, z_strength_borne, z_present_came, z_present_under, z_present_due, z_kept, z_gambler_trial_came, z_gambler_trial_under, z_gambler_trial_due, z_guesser_load, z_guesser_over, z_guesser_borne, rc, ru, rdu, ic, iu, idu, rday, rcr, iday, icr, 0, (nI k), y_at, y_token, y_place, y_value, y_fault, (nI hk), (nI sk), z_traced, y_text, y_told, y_draft, y_draftNow, y_s, w', y_v, y_kept, y_isKept, y_undos, y_seenLoad, y_seenOver, y_byTaken, ⟨⟨k, hLR, rfl, rfl⟩, ⟨N, P, bk, kd, wd, sl, hT, hF, hB, hST, ⟨hk, ht, hH, rfl, rfl, rfl⟩, hIR⟩, ⟨sk, hSR, rfl, rfl⟩, rfl⟩, hP, hD⟩ hS

set_option maxHeartbeats 4000000 in
set_option maxRecDepth 100000 in
theorem op_plank {p : Program} {l : Launch} {e : Env} {s : State} {m : MethodId} {below : List Frame} {meth : Method} {c : Code} {b L : Nat} {xs : Nat → Int32} {D : va_G} {cI cZ cQ : ClassId} {adK adV : Nat → Nat} {qx qm : Nat} {ux um : Nat → Nat → Nat} (C0 : lw_At p s m meth c b L xs) (hKW : KW D (TY cI cZ cQ) s) (hSK : SK adK adV (fun q => s.heap.size ≤ q) s s.heap) {i : Nat} (hi : i + 4 ≤ L) (hL : L ≤ 2048) {H : Heap} {locs : List Loc} (hI : INV D (fun q => s.heap.size ≤ q) cI cZ cQ qx ux qm um H) (hS : va_S (fun q => s.heap.size ≤ q) s.heap H locs) {ls : Array Slot} (hl : lv_has ls 4 [(3, .int (nI i)), (2, .ref qm), (1, .ref qx), (0, .ref b)]) (K : ∀ (H1 : Heap) (locs1 : List Loc), INV D (fun q => s.heap.size ≤ q) cI cZ cQ qx ux qm um H1 → va_S (fun q => s.heap.size ≤ q) s.heap H1 locs1 → W p l e room_1 s m #[Value.ref b] below meth c H1 locs1 100 4000 (lw_Z below #[Value.ref b] s) (F0 m 949 ls [])) : W p l e room_1 s m #[Value.ref b] below meth c H locs 100 4000 (lw_Z below #[Value.ref b] s) (F0 m 250 ls []) := by
  obtain ⟨z_typed, z_reader_length, z_reader_at, z_reader_place, z_reader_token, z_reader_value, z_draft_planks, z_draft_size, z_draft_sworn, z_folk_planks, z_folk_size, z_folk_sworn, z_present_day, z_present_crossed, z_history_known, z_history_top, z_gambler_trial_day, z_gambler_trial_crossed, z_guesser_seen, z_guesser_least, z_guesser_greatest, z_traced, z_letters, z_draft_bank, z_draft_kind, z_draft_word, z_draft_slow, z_draft_told, z_folk_bank, z_folk_kind, z_folk_word, z_folk_slow, z_folk_told, z_strength_borne, z_present_came, z_present_under, z_present_due, z_kept, z_gambler_trial_came, z_gambler_trial_under, z_gambler_trial_due, z_guesser_load, z_guesser_over, z_guesser_borne, rc, ru, rdu, ic, iu, idu, rday, rcr, iday, icr, y_thrown, y_typed, y_at, y_token, y_place, y_value, y_fault, y_undoMany, y_seenMany, y_trace, y_text, y_told, y_draft, y_draftNow, y_s, y_w, y_v, y_kept, y_isKept, y_undos, y_seenLoad, y_seenOver, y_byTaken, hREL, hP, hD⟩ := hI
  obtain ⟨⟨k, hLR, rfl, rfl⟩, ⟨N, P, bk, kd, wd, sl, hT, hF, hB, hST, ⟨hk, ht, hH, rfl, rfl, rfl⟩, hIR⟩, ⟨sk, hSR, rfl, rfl⟩, rfl⟩ := hREL
  obtain ⟨hx, hb, hr, hml, hown0, hts0, hX, hbl, hlocks, hgv⟩ := id C0
  have hown : s.vm.findClass RL = some m.cls := hown0
  have hts := tb_law hts0
  have hbA : ¬ (fun q : Nat => s.heap.size ≤ q) b := Nat.not_le.mpr hbl
  have hv1 : vp_in (nI i + 1) L := by rw [show nI i + 1 = nI (i + 1) from nI_add i 1]; exact vp_in_nI (by omega) (by omega)
  obtain ⟨p1, ep1⟩ : ∃ z, z = xs (nI i + 1).toNatClampNeg := ⟨_, rfl⟩
  have hv2 : vp_in (nI i + 2) L := by rw [show nI i + 2 = nI (i + 2) from nI_add i 2]; exact vp_in_nI (by omega) (by omega)
  obtain ⟨p2, ep2⟩ : ∃ z, z = xs (nI i + 2).toNatClampNeg := ⟨_, rfl⟩
  obtain ⟨d, x, hd, hx0, rfl, rfl, hR⟩ := id hST
  obtain ⟨v, e8, e9⟩ := q_plank (fu := 1000) (th := y_thrown) (by omega) hT hF hB hR p1 p2
  refine lv_aload_n hx hb dL_law_250 rfl (lv_at hl 2 rfl) ?_
  refine lv_aload_n hx hb dL_law_251 rfl (lv_at hl 3 rfl) ?_
  refine lv_iload_n hx hb dL_law_252 rfl (lv_at hl 0 rfl) ?_
  refine lv_iconst (v := 1) hx hb dL_law_253 (by decide) ?_
  refine lv_iadd hx hb dL_law_254 ?_
  refine va_sld hx hb hX hbl hbA hS hv1 dL_law_255 ?_
  rw [← ep1]
  refine lv_aload_n hx hb dL_law_256 rfl (lv_at hl 3 rfl) ?_
  refine lv_iload_n hx hb dL_law_257 rfl (lv_at hl 0 rfl) ?_
  refine lv_iconst (v := 2) hx hb dL_law_258 (by decide) ?_
  refine lv_iadd hx hb dL_law_259 ?_
  refine va_sld hx hb hX hbl hbA hS hv2 dL_law_260 ?_
  rw [← ep2]
  refine kX8_plank hx hb hml hown hts hKW q547 (hP.sub [14, 84, 77, 78, 81, 85, 86, 87, 82] rfl) e8 hl.1 (Nat.le_of_ble_eq_true rfl) ⟨Nat.le_of_ble_eq_true rfl, Nat.le_of_ble_eq_true rfl⟩ ⟨Nat.le_of_ble_eq_true rfl, Nat.le_of_ble_eq_true rfl⟩ dL_law_261 ?_
  refine lv_aload_n hx hb dL_law_264 rfl (lv_at hl 1 rfl) ?_
  refine lv_aload_n hx hb dL_law_265 rfl (lv_at hl 3 rfl) ?_
  refine lv_iload_n hx hb dL_law_266 rfl (lv_at hl 0 rfl) ?_
  refine lv_iconst (v := 1) hx hb dL_law_267 (by decide) ?_
  refine lv_iadd hx hb dL_law_268 ?_
  refine va_sld hx hb hX hbl hbA hS hv1 dL_law_269 ?_
  rw [← ep1]
  refine lv_aload_n hx hb dL_law_270 rfl (lv_at hl 3 rfl) ?_
  refine lv_iload_n hx hb dL_law_271 rfl (lv_at hl 0 rfl) ?_
  refine lv_iconst (v := 2) hx hb dL_law_272 (by decide) ?_
  refine lv_iadd hx hb dL_law_273 ?_
  refine va_sld hx hb hX hbl hbA hS hv2 dL_law_274 ?_
  rw [← ep2]
  refine kX9_plank hx hb hml hown hts hKW q1068 hP hD hS [0, 2, 5] rfl (by decide) e9 hl.1 (Nat.le_of_ble_eq_true rfl) ⟨Nat.le_of_ble_eq_true rfl, Nat.le_of_ble_eq_true rfl⟩ ⟨Nat.le_of_ble_eq_true rfl, Nat.le_of_ble_eq_true rfl⟩ dL_law_275 (fun H locs hP hD hS => ?_)
  have hP : va_P D vwCl (WM cI cZ qm um 0 (nI k) y_at y_token y_place y_value y_fault (nI hk) (nI sk) z_traced y_text y_told y_draft y_draftNow y_s y_w y_v y_kept y_isKept y_undos y_seenLoad y_seenOver y_byTaken ++ WX cI cZ cQ qx ux (nI k) z_reader_length z_reader_at z_reader_place z_reader_token z_reader_value z_draft_planks z_draft_size z_draft_sworn z_folk_planks z_folk_size z_folk_sworn (nI d) (nI x) (nI hk) (nI ht) z_gambler_trial_day z_gambler_trial_crossed (nI sk) z_guesser_least z_guesser_greatest z_traced z_letters z_draft_bank z_draft_kind z_draft_word z_draft_slow z_draft_told z_folk_bank z_folk_kind z_folk_word z_folk_slow z_folk_told z_strength_borne z_present_came z_present_under z_present_due z_kept z_gambler_trial_came z_gambler_trial_under z_gambler_trial_due z_guesser_load z_guesser_over z_guesser_borne rc ru rdu ic iu idu rday rcr iday icr) H := hP
  have hD : va_D (fun q => s.heap.size ≤ q) (WM cI cZ qm um 0 (nI k) y_at y_token y_place y_value y_fault (nI hk) (nI sk) z_traced y_text y_told y_draft y_draftNow y_s y_w y_v y_kept y_isKept y_undos y_seenLoad y_seenOver y_byTaken ++ WX cI cZ cQ qx ux (nI k) z_reader_length z_reader_at z_reader_place z_reader_token z_reader_value z_draft_planks z_draft_size z_draft_sworn z_folk_planks z_folk_size z_folk_sworn (nI d) (nI x) (nI hk) (nI ht) z_gambler_trial_day z_gambler_trial_crossed (nI sk) z_guesser_least z_guesser_greatest z_traced z_letters z_draft_bank z_draft_kind z_draft_word z_draft_slow z_draft_told z_folk_bank z_folk_kind z_folk_word z_folk_slow z_folk_told z_strength_borne z_present_came z_present_under z_present_due z_kept z_gambler_trial_came z_gambler_trial_under z_gambler_trial_due z_guesser_load z_guesser_over z_guesser_borne rc ru rdu ic iu idu rday rcr iday icr) := hD
  refine lv_icmp_eq (tgt := 949) hx hb dL_law_278 (by decide) (fun _ => ?_) (fun h => absurd rfl h)
  exact K _ _ ⟨(nI k), z_reader_length, z_reader_at, z_reader_place, z_reader_token, z_reader_value, z_draft_planks, z_draft_size, z_draft_sworn, z_folk_planks, z_folk_size, z_folk_sworn, (nI d), (nI x), (nI hk), (nI ht), z_gambler_trial_day, z_gambler_trial_crossed, (nI sk), z_guesser_least, z_guesser_greatest, z_traced, z_letters, z_draft_bank, z_draft_kind, z_draft_word, z_draft_slow, z_draft_told, z_folk_bank, z_folk_kind, z_folk_word, z_folk_slow, z_folk_told, z_strength_borne, z_present_came, z_present_under, z_present_due, z_kept, z_gambler_trial_came, z_gambler_trial_under, z_gambler_trial_due, z_guesser_load, z_guesser_over, z_guesser_borne, rc, ru, rdu, ic, iu, idu, rday, rcr, iday, icr, 0, (nI k), y_at, y_token, y_place, y_value, y_fault, (nI hk), (nI sk), z_traced, y_text, y_told, y_draft, y_draftNow, y_s, y_w, y_v, y_kept, y_isKept, y_undos, y_seenLoad, y_seenOver, y_byTaken, ⟨⟨k, hLR, rfl, rfl⟩, ⟨N, P, bk, kd, wd, sl, hT, hF, hB, hST, ⟨hk, ht, hH, rfl, rfl, rfl⟩, hIR⟩, ⟨sk, hSR, rfl, rfl⟩, rfl⟩, hP, hD⟩ hS

set_option maxHeartbeats 4000000 in
set_option maxRecDepth 100000 in
theorem op_hold {p : Program} {l : Launch} {e : Env} {s : State} {m : MethodId} {below : List Frame} {meth : Method} {c : Code} {b L : Nat} {xs : Nat → Int32} {D : va_G} {cI cZ cQ : ClassId} {adK adV : Nat → Nat} {qx qm : Nat} {ux um : Nat → Nat → Nat} (C0 : lw_At p s m meth c b L xs) (hKW : KW D (TY cI cZ cQ) s) (hSK : SK adK adV (fun q => s.heap.size ≤ q) s s.heap) {i : Nat} (hi : i + 4 ≤ L) (hL : L ≤ 2048) {H : Heap} {locs : List Loc} (hI : INV D (fun q => s.heap.size ≤ q) cI cZ cQ qx ux qm um H) (hS : va_S (fun q => s.heap.size ≤ q) s.heap H locs) {ls : Array Slot} (hl : lv_has ls 4 [(3, .int (nI i)), (2, .ref qm), (1, .ref qx), (0, .ref b)]) (K : ∀ (H1 : Heap) (locs1 : List Loc), INV D (fun q => s.heap.size ≤ q) cI cZ cQ qx ux qm um H1 → va_S (fun q => s.heap.size ≤ q) s.heap H1 locs1 → W p l e room_1 s m #[Value.ref b] below meth c H1 locs1 100 4000 (lw_Z below #[Value.ref b] s) (F0 m 949 ls [])) : W p l e room_1 s m #[Value.ref b] below meth c H locs 100 4000 (lw_Z below #[Value.ref b] s) (F0 m 283 ls []) := by
  obtain ⟨z_typed, z_reader_length, z_reader_at, z_reader_place, z_reader_token, z_reader_value, z_draft_planks, z_draft_size, z_draft_sworn, z_folk_planks, z_folk_size, z_folk_sworn, z_present_day, z_present_crossed, z_history_known, z_history_top, z_gambler_trial_day, z_gambler_trial_crossed, z_guesser_seen, z_guesser_least, z_guesser_greatest, z_traced, z_letters, z_draft_bank, z_draft_kind, z_draft_word, z_draft_slow, z_draft_told, z_folk_bank, z_folk_kind, z_folk_word, z_folk_slow, z_folk_told, z_strength_borne, z_present_came, z_present_under, z_present_due, z_kept, z_gambler_trial_came, z_gambler_trial_under, z_gambler_trial_due, z_guesser_load, z_guesser_over, z_guesser_borne, rc, ru, rdu, ic, iu, idu, rday, rcr, iday, icr, y_thrown, y_typed, y_at, y_token, y_place, y_value, y_fault, y_undoMany, y_seenMany, y_trace, y_text, y_told, y_draft, y_draftNow, y_s, y_w, y_v, y_kept, y_isKept, y_undos, y_seenLoad, y_seenOver, y_byTaken, hREL, hP, hD⟩ := hI
  obtain ⟨⟨k, hLR, rfl, rfl⟩, ⟨N, P, bk, kd, wd, sl, hT, hF, hB, hST, ⟨hk, ht, hH, rfl, rfl, rfl⟩, hIR⟩, ⟨sk, hSR, rfl, rfl⟩, rfl⟩ := hREL
  obtain ⟨hx, hb, hr, hml, hown0, hts0, hX, hbl, hlocks, hgv⟩ := id C0
  have hown : s.vm.findClass RL = some m.cls := hown0
  have hts := tb_law hts0
  have hbA : ¬ (fun q : Nat => s.heap.size ≤ q) b := Nat.not_le.mpr hbl
  have hv1 : vp_in (nI i + 1) L := by rw [show nI i + 1 = nI (i + 1) from nI_add i 1]; exact vp_in_nI (by omega) (by omega)
  obtain ⟨p1, ep1⟩ : ∃ z, z = xs (nI i + 1).toNatClampNeg := ⟨_, rfl⟩
  have hv2 : vp_in (nI i + 2) L := by rw [show nI i + 2 = nI (i + 2) from nI_add i 2]; exact vp_in_nI (by omega) (by omega)
  obtain ⟨p2, ep2⟩ : ∃ z, z = xs (nI i + 2).toNatClampNeg := ⟨_, rfl⟩
  obtain ⟨d, x, hd, hx0, rfl, rfl, hR⟩ := id hST
  obtain ⟨v, e8, e9⟩ := q_hold (fu := 1000) (th := y_thrown) (by omega) hT hF hR p1 p2
  refine lv_aload_n hx hb dL_law_283 rfl (lv_at hl 2 rfl) ?_
  refine lv_aload_n hx hb dL_law_284 rfl (lv_at hl 3 rfl) ?_
  refine lv_iload_n hx hb dL_law_285 rfl (lv_at hl 0 rfl) ?_
  refine lv_iconst (v := 1) hx hb dL_law_286 (by decide) ?_
  refine lv_iadd hx hb dL_law_287 ?_
  refine va_sld hx hb hX hbl hbA hS hv1 dL_law_288 ?_
  rw [← ep1]
  refine lv_aload_n hx hb dL_law_289 rfl (lv_at hl 3 rfl) ?_
  refine lv_iload_n hx hb dL_law_290 rfl (lv_at hl 0 rfl) ?_
  refine lv_iconst (v := 2) hx hb dL_law_291 (by decide) ?_
  refine lv_iadd hx hb dL_law_292 ?_
  refine va_sld hx hb hX hbl hbA hS hv2 dL_law_293 ?_
  rw [← ep2]
  refine kX8_hold hx hb hml hown hts hKW q560 (hP.sub [14, 84, 87, 77, 78, 86] rfl) e8 hl.1 (Nat.le_of_ble_eq_true rfl) ⟨Nat.le_of_ble_eq_true rfl, Nat.le_of_ble_eq_true rfl⟩ ⟨Nat.le_of_ble_eq_true rfl, Nat.le_of_ble_eq_true rfl⟩ dL_law_294 ?_
  refine lv_aload_n hx hb dL_law_297 rfl (lv_at hl 1 rfl) ?_
  refine lv_aload_n hx hb dL_law_298 rfl (lv_at hl 3 rfl) ?_
  refine lv_iload_n hx hb dL_law_299 rfl (lv_at hl 0 rfl) ?_
  refine lv_iconst (v := 1) hx hb dL_law_300 (by decide) ?_
  refine lv_iadd hx hb dL_law_301 ?_
  refine va_sld hx hb hX hbl hbA hS hv1 dL_law_302 ?_
  rw [← ep1]
  refine lv_aload_n hx hb dL_law_303 rfl (lv_at hl 3 rfl) ?_
  refine lv_iload_n hx hb dL_law_304 rfl (lv_at hl 0 rfl) ?_
  refine lv_iconst (v := 2) hx hb dL_law_305 (by decide) ?_
  refine lv_iadd hx hb dL_law_306 ?_
  refine va_sld hx hb hX hbl hbA hS hv2 dL_law_307 ?_
  rw [← ep2]
  refine kX9_hold hx hb hml hown hts hKW q1076 hP hD hS [0, 2, 5] rfl (by decide) e9 hl.1 (Nat.le_of_ble_eq_true rfl) ⟨Nat.le_of_ble_eq_true rfl, Nat.le_of_ble_eq_true rfl⟩ ⟨Nat.le_of_ble_eq_true rfl, Nat.le_of_ble_eq_true rfl⟩ dL_law_308 (fun H locs hP hD hS => ?_)
  have hP : va_P D vwCl (WM cI cZ qm um 0 (nI k) y_at y_token y_place y_value y_fault (nI hk) (nI sk) z_traced y_text y_told y_draft y_draftNow y_s y_w y_v y_kept y_isKept y_undos y_seenLoad y_seenOver y_byTaken ++ WX cI cZ cQ qx ux (nI k) z_reader_length z_reader_at z_reader_place z_reader_token z_reader_value z_draft_planks z_draft_size z_draft_sworn z_folk_planks z_folk_size z_folk_sworn (nI d) (nI x) (nI hk) (nI ht) z_gambler_trial_day z_gambler_trial_crossed (nI sk) z_guesser_least z_guesser_greatest z_traced z_letters z_draft_bank z_draft_kind z_draft_word z_draft_slow z_draft_told z_folk_bank z_folk_kind z_folk_word z_folk_slow z_folk_told z_strength_borne z_present_came z_present_under z_present_due z_kept z_gambler_trial_came z_gambler_trial_under z_gambler_trial_due z_guesser_load z_guesser_over z_guesser_borne rc ru rdu ic iu idu rday rcr iday icr) H := hP
  have hD : va_D (fun q => s.heap.size ≤ q) (WM cI cZ qm um 0 (nI k) y_at y_token y_place y_value y_fault (nI hk) (nI sk) z_traced y_text y_told y_draft y_draftNow y_s y_w y_v y_kept y_isKept y_undos y_seenLoad y_seenOver y_byTaken ++ WX cI cZ cQ qx ux (nI k) z_reader_length z_reader_at z_reader_place z_reader_token z_reader_value z_draft_planks z_draft_size z_draft_sworn z_folk_planks z_folk_size z_folk_sworn (nI d) (nI x) (nI hk) (nI ht) z_gambler_trial_day z_gambler_trial_crossed (nI sk) z_guesser_least z_guesser_greatest z_traced z_letters z_draft_bank z_draft_kind z_draft_word z_draft_slow z_draft_told z_folk_bank z_folk_kind z_folk_word z_folk_slow z_folk_told z_strength_borne z_present_came z_present_under z_present_due z_kept z_gambler_trial_came z_gambler_trial_under z_gambler_trial_due z_guesser_load z_guesser_over z_guesser_borne rc ru rdu ic iu idu rday rcr iday icr) := hD
  refine lv_icmp_eq (tgt := 949) hx hb dL_law_311 (by decide) (fun _ => ?_) (fun h => absurd rfl h)
  exact K _ _ ⟨(nI k), z_reader_length, z_reader_at, z_reader_place, z_reader_token, z_reader_value, z_draft_planks, z_draft_size, z_draft_sworn, z_folk_planks, z_folk_size, z_folk_sworn, (nI d), (nI x), (nI hk), (nI ht), z_gambler_trial_day, z_gambler_trial_crossed, (nI sk), z_guesser_least, z_guesser_greatest, z_traced, z_letters, z_draft_bank, z_draft_kind, z_draft_word, z_draft_slow, z_draft_told, z_folk_bank, z_folk_kind, z_folk_word, z_folk_slow, z_folk_told, z_strength_borne, z_present_came, z_present_under, z_present_due, z_kept, z_gambler_trial_came, z_gambler_trial_under, z_gambler_trial_due, z_guesser_load, z_guesser_over, z_guesser_borne, rc, ru, rdu, ic, iu, idu, rday, rcr, iday, icr, 0, (nI k), y_at, y_token, y_place, y_value, y_fault, (nI hk), (nI sk), z_traced, y_text, y_told, y_draft, y_draftNow, y_s, y_w, y_v, y_kept, y_isKept, y_undos, y_seenLoad, y_seenOver, y_byTaken, ⟨⟨k, hLR, rfl, rfl⟩, ⟨N, P, bk, kd, wd, sl, hT, hF, hB, hST, ⟨hk, ht, hH, rfl, rfl, rfl⟩, hIR⟩, ⟨sk, hSR, rfl, rfl⟩, rfl⟩, hP, hD⟩ hS

set_option maxHeartbeats 4000000 in
set_option maxRecDepth 100000 in
theorem op_now {p : Program} {l : Launch} {e : Env} {s : State} {m : MethodId} {below : List Frame} {meth : Method} {c : Code} {b L : Nat} {xs : Nat → Int32} {D : va_G} {cI cZ cQ : ClassId} {adK adV : Nat → Nat} {qx qm : Nat} {ux um : Nat → Nat → Nat} (C0 : lw_At p s m meth c b L xs) (hKW : KW D (TY cI cZ cQ) s) (hSK : SK adK adV (fun q => s.heap.size ≤ q) s s.heap) {i : Nat} (hi : i + 4 ≤ L) (hL : L ≤ 2048) {H : Heap} {locs : List Loc} (hI : INV D (fun q => s.heap.size ≤ q) cI cZ cQ qx ux qm um H) (hS : va_S (fun q => s.heap.size ≤ q) s.heap H locs) {ls : Array Slot} (hl : lv_has ls 4 [(3, .int (nI i)), (2, .ref qm), (1, .ref qx), (0, .ref b)]) (K : ∀ (H1 : Heap) (locs1 : List Loc), INV D (fun q => s.heap.size ≤ q) cI cZ cQ qx ux qm um H1 → va_S (fun q => s.heap.size ≤ q) s.heap H1 locs1 → W p l e room_1 s m #[Value.ref b] below meth c H1 locs1 100 4000 (lw_Z below #[Value.ref b] s) (F0 m 949 ls [])) : W p l e room_1 s m #[Value.ref b] below meth c H locs 100 4000 (lw_Z below #[Value.ref b] s) (F0 m 316 ls []) := by
  obtain ⟨z_typed, z_reader_length, z_reader_at, z_reader_place, z_reader_token, z_reader_value, z_draft_planks, z_draft_size, z_draft_sworn, z_folk_planks, z_folk_size, z_folk_sworn, z_present_day, z_present_crossed, z_history_known, z_history_top, z_gambler_trial_day, z_gambler_trial_crossed, z_guesser_seen, z_guesser_least, z_guesser_greatest, z_traced, z_letters, z_draft_bank, z_draft_kind, z_draft_word, z_draft_slow, z_draft_told, z_folk_bank, z_folk_kind, z_folk_word, z_folk_slow, z_folk_told, z_strength_borne, z_present_came, z_present_under, z_present_due, z_kept, z_gambler_trial_came, z_gambler_trial_under, z_gambler_trial_due, z_guesser_load, z_guesser_over, z_guesser_borne, rc, ru, rdu, ic, iu, idu, rday, rcr, iday, icr, y_thrown, y_typed, y_at, y_token, y_place, y_value, y_fault, y_undoMany, y_seenMany, y_trace, y_text, y_told, y_draft, y_draftNow, y_s, y_w, y_v, y_kept, y_isKept, y_undos, y_seenLoad, y_seenOver, y_byTaken, hREL, hP, hD⟩ := hI
  obtain ⟨⟨k, hLR, rfl, rfl⟩, ⟨N, P, bk, kd, wd, sl, hT, hF, hB, hST, ⟨hk, ht, hH, rfl, rfl, rfl⟩, hIR⟩, ⟨sk, hSR, rfl, rfl⟩, rfl⟩ := hREL
  obtain ⟨hx, hb, hr, hml, hown0, hts0, hX, hbl, hlocks, hgv⟩ := id C0
  have hown : s.vm.findClass RL = some m.cls := hown0
  have hts := tb_law hts0
  have hbA : ¬ (fun q : Nat => s.heap.size ≤ q) b := Nat.not_le.mpr hbl
  have hv1 : vp_in (nI i + 1) L := by rw [show nI i + 1 = nI (i + 1) from nI_add i 1]; exact vp_in_nI (by omega) (by omega)
  obtain ⟨p1, ep1⟩ : ∃ z, z = xs (nI i + 1).toNatClampNeg := ⟨_, rfl⟩
  obtain ⟨d, x, hd, hx0, rfl, rfl, hR⟩ := id hST
  obtain ⟨v, e8, e9⟩ := q_now (fu := 1000) (th := y_thrown) (known := nI hk) (um := nI hk) (by omega) hT hF hB hR rfl rfl rfl p1
  refine lv_aload_n hx hb dL_law_316 rfl (lv_at hl 2 rfl) ?_
  refine lv_aload_n hx hb dL_law_317 rfl (lv_at hl 3 rfl) ?_
  refine lv_iload_n hx hb dL_law_318 rfl (lv_at hl 0 rfl) ?_
  refine lv_iconst (v := 1) hx hb dL_law_319 (by decide) ?_
  refine lv_iadd hx hb dL_law_320 ?_
  refine va_sld hx hb hX hbl hbA hS hv1 dL_law_321 ?_
  rw [← ep1]
  refine kX8_now hx hb hml hown hts hKW q565 (hP.sub [14, 35, 77, 79, 81, 84, 78, 82] rfl) e8 hl.1 (Nat.le_of_ble_eq_true rfl) ⟨Nat.le_of_ble_eq_true rfl, Nat.le_of_ble_eq_true rfl⟩ ⟨Nat.le_of_ble_eq_true rfl, Nat.le_of_ble_eq_true rfl⟩ dL_law_322 ?_
  refine lv_aload_n hx hb dL_law_325 rfl (lv_at hl 1 rfl) ?_
  refine lv_aload_n hx hb dL_law_326 rfl (lv_at hl 3 rfl) ?_
  refine lv_iload_n hx hb dL_law_327 rfl (lv_at hl 0 rfl) ?_
  refine lv_iconst (v := 1) hx hb dL_law_328 (by decide) ?_
  refine lv_iadd hx hb dL_law_329 ?_
  refine va_sld hx hb hX hbl hbA hS hv1 dL_law_330 ?_
  rw [← ep1]
  refine kX9_now hx hb hml hown hts hKW q1080 hP hD hS [0, 5, 2] rfl (by decide) e9 hl.1 (Nat.le_of_ble_eq_true rfl) ⟨Nat.le_of_ble_eq_true rfl, Nat.le_of_ble_eq_true rfl⟩ ⟨Nat.le_of_ble_eq_true rfl, Nat.le_of_ble_eq_true rfl⟩ dL_law_331 (fun H locs hP hD hS => ?_)
  have hP : va_P D vwCl (WM cI cZ qm um 0 (nI k) y_at y_token y_place y_value y_fault (nI hk) (nI sk) z_traced y_text y_told y_draft y_draftNow y_s y_w y_v y_kept y_isKept y_undos y_seenLoad y_seenOver y_byTaken ++ WX cI cZ cQ qx ux (nI k) z_reader_length z_reader_at z_reader_place z_reader_token z_reader_value z_draft_planks z_draft_size z_draft_sworn z_folk_planks z_folk_size z_folk_sworn (nI d) (nI x) (nI hk) (nI ht) z_gambler_trial_day z_gambler_trial_crossed (nI sk) z_guesser_least z_guesser_greatest z_traced z_letters z_draft_bank z_draft_kind z_draft_word z_draft_slow z_draft_told z_folk_bank z_folk_kind z_folk_word z_folk_slow z_folk_told z_strength_borne z_present_came z_present_under z_present_due z_kept z_gambler_trial_came z_gambler_trial_under z_gambler_trial_due z_guesser_load z_guesser_over z_guesser_borne rc ru rdu ic iu idu rday rcr iday icr) H := hP
  have hD : va_D (fun q => s.heap.size ≤ q) (WM cI cZ qm um 0 (nI k) y_at y_token y_place y_value y_fault (nI hk) (nI sk) z_traced y_text y_told y_draft y_draftNow y_s y_w y_v y_kept y_isKept y_undos y_seenLoad y_seenOver y_byTaken ++ WX cI cZ cQ qx ux (nI k) z_reader_length z_reader_at z_reader_place z_reader_token z_reader_value z_draft_planks z_draft_size z_draft_sworn z_folk_planks z_folk_size z_folk_sworn (nI d) (nI x) (nI hk) (nI ht) z_gambler_trial_day z_gambler_trial_crossed (nI sk) z_guesser_least z_guesser_greatest z_traced z_letters z_draft_bank z_draft_kind z_draft_word z_draft_slow z_draft_told z_folk_bank z_folk_kind z_folk_word z_folk_slow z_folk_told z_strength_borne z_present_came z_present_under z_present_due z_kept z_gambler_trial_came z_gambler_trial_under z_gambler_trial_due z_guesser_load z_guesser_over z_guesser_borne rc ru rdu ic iu idu rday rcr iday icr) := hD
  refine lv_icmp_eq (tgt := 949) hx hb dL_law_334 (by decide) (fun _ => ?_) (fun h => absurd rfl h)
  exact K _ _ ⟨(nI k), z_reader_length, z_reader_at, z_reader_place, z_reader_token, z_reader_value, z_draft_planks, z_draft_size, z_draft_sworn, z_folk_planks, z_folk_size, z_folk_sworn, (nI d), (nI x), (nI hk), (nI ht), z_gambler_trial_day, z_gambler_trial_crossed, (nI sk), z_guesser_least, z_guesser_greatest, z_traced, z_letters, z_draft_bank, z_draft_kind, z_draft_word, z_draft_slow, z_draft_told, z_folk_bank, z_folk_kind, z_folk_word, z_folk_slow, z_folk_told, z_strength_borne, z_present_came, z_present_under, z_present_due, z_kept, z_gambler_trial_came, z_gambler_trial_under, z_gambler_trial_due, z_guesser_load, z_guesser_over, z_guesser_borne, rc, ru, rdu, ic, iu, idu, rday, rcr, iday, icr, 0, (nI k), y_at, y_token, y_place, y_value, y_fault, (nI hk), (nI sk), z_traced, y_text, y_told, y_draft, y_draftNow, y_s, y_w, y_v, y_kept, y_isKept, y_undos, y_seenLoad, y_seenOver, y_byTaken, ⟨⟨k, hLR, rfl, rfl⟩, ⟨N, P, bk, kd, wd, sl, hT, hF, hB, hST, ⟨hk, ht, hH, rfl, rfl, rfl⟩, hIR⟩, ⟨sk, hSR, rfl, rfl⟩, rfl⟩, hP, hD⟩ hS
