set_option maxHeartbeats 16000000 in
set_option maxRecDepth 100000 in
theorem hall_rest {p : Program} {l : Launch} {e : Env} {s : State} {m : MethodId} {below : List Frame} {meth : Method} {c : Code} {Q : State → Prop} {D : va_G} {cY : Nat → ClassId} {A : Nat → Prop} {sc L : Nat} {xs : Nat → Int32} {at0 : Nat} (hx : p.tables.exec = Jvm.exec) (hb : c.code = cL_hall) (hml : c.maxLocals = 11) (hts : ∀ w ∈ wsL_hall, w.before ([.ref sc, .int (nI at0)] : List Value).toArray s = true) (hown : s.vm.findClass RL = some m.cls) (hVA : vKA D cY s) (hA : ∀ q, s.heap.size ≤ q → A q) (hX : va_X sc L xs s s.heap) (hbl : sc < s.heap.size) (hbA : ¬ A sc) (hL26 : L ≤ 260) (hat : at0 ≤ 171)
    (hend : ∀ (H : Heap) (locs : List Loc) (ls : Array Slot), va_S A s.heap H locs → W p l e ({ frames := 10, cells := 127, slots := 3820, locals := 400 }) s m ([.ref sc, .int (nI at0)] : List Value).toArray below meth c H locs 127 3820 Q (F0 m 483 ls [.int (bI true)]))
    (b : Nat → Nat) (rr : Nat → Nat → Nat) (cc0 ll0 pp0 : Nat) (fG : Nat → Nat → Int32) (fW : Nat → Nat → Int32) (fR : Nat → Nat → Int64) (fH : Nat → Nat → Int64) (fA : Nat → Nat → Int64) (fS : Nat → Nat → Int64) (fRs : Nat → Int64) (fOt : Nat → Int32) (fMi : Nat → Int64) (fEn : Nat → Int32) (fEb : Nat → Int32) (fPy : Nat → Int32) (fB : Nat → Nat → Int64) (fCc : Nat → Int32) {H : Heap} {locs : List Loc} (hP : va_P D vwCl ([hO b, cO b (nI 1) (nI 1), oQ (cY 2) (b 2) (rr 0) 6, gI (cY 0) (rr 0) 12 fG 6, oQ (cY 2) (b 3) (rr 1) 6, gI (cY 0) (rr 1) 6 fW 6, lO b, oQ (cY 3) (b 5) (rr 2) 13, gJ (cY 1) (rr 2) 36 fR 13, oQ (cY 3) (b 6) (rr 3) 13, gJ (cY 1) (rr 3) 6 fH 13, kO b, oQ (cY 3) (b 8) (rr 4) 13, gJ (cY 1) (rr 4) 36 fA 13, oQ (cY 3) (b 9) (rr 5) 13, gJ (cY 1) (rr 5) 64 fS 13, sO b, tO b, [(b 12, .inl (cY 1, 6, .inr (.inl fRs)))], [(b 13, .inl (cY 0, 6, .inl fOt))], [(b 14, .inl (cY 1, 32, .inr (.inl fMi)))], dO b, [(b 16, .inl (cY 0, 6, .inl fEn))], [(b 17, .inl (cY 0, 6, .inl fEb))], gO b, [(b 19, .inl (cY 0, 6, .inl fPy))], oQ (cY 3) (b 20) (rr 6) 13, gJ (cY 1) (rr 6) 6 fB 13, uO b, [(b 22, .inl (cY 0, 6, .inl fCc))], [(cc0, .inl (cY 0, 2, .inl (fun _ => nI 0)))], [(ll0, .inl (cY 0, 60, .inl (fun _ => nI 0)))], [(pp0, .inl (cY 0, 12, .inl (fun _ => nI 0)))]] : List va_W).flatten H) (hD : va_D A ([hO b, cO b (nI 1) (nI 1), oQ (cY 2) (b 2) (rr 0) 6, gI (cY 0) (rr 0) 12 fG 6, oQ (cY 2) (b 3) (rr 1) 6, gI (cY 0) (rr 1) 6 fW 6, lO b, oQ (cY 3) (b 5) (rr 2) 13, gJ (cY 1) (rr 2) 36 fR 13, oQ (cY 3) (b 6) (rr 3) 13, gJ (cY 1) (rr 3) 6 fH 13, kO b, oQ (cY 3) (b 8) (rr 4) 13, gJ (cY 1) (rr 4) 36 fA 13, oQ (cY 3) (b 9) (rr 5) 13, gJ (cY 1) (rr 5) 64 fS 13, sO b, tO b, [(b 12, .inl (cY 1, 6, .inr (.inl fRs)))], [(b 13, .inl (cY 0, 6, .inl fOt))], [(b 14, .inl (cY 1, 32, .inr (.inl fMi)))], dO b, [(b 16, .inl (cY 0, 6, .inl fEn))], [(b 17, .inl (cY 0, 6, .inl fEb))], gO b, [(b 19, .inl (cY 0, 6, .inl fPy))], oQ (cY 3) (b 20) (rr 6) 13, gJ (cY 1) (rr 6) 6 fB 13, uO b, [(b 22, .inl (cY 0, 6, .inl fCc))], [(cc0, .inl (cY 0, 2, .inl (fun _ => nI 0)))], [(ll0, .inl (cY 0, 60, .inl (fun _ => nI 0)))], [(pp0, .inl (cY 0, 12, .inl (fun _ => nI 0)))]] : List va_W).flatten) (hS : va_S A s.heap H locs) {ls : Array Slot} (hl : lv_has ls 11 [(2, .ref (b 0)), (3, .ref cc0), (4, .ref ll0), (5, .ref pp0), (0, .ref sc), (1, .int (nI at0))]) : W p l e ({ frames := 10, cells := 127, slots := 3820, locals := 400 }) s m ([.ref sc, .int (nI at0)] : List Value).toArray below meth c H locs 103 2282 Q (F0 m 24 ls []) := by
  have hVK : vK D cY s := hVA.1
  have hK : va_K D vwCl (tyz cY) s := hVA.1.1
  refine lv_aload_n hx hb dL_hall_24 rfl (lv_at hl 1 rfl) ?_
  refine lv_iconst (v := nI 0) hx hb dL_hall_25 (by decide) ?_
  refine lv_iconst (v := nI 1) hx hb dL_hall_26 (by decide) ?_
  refine lv_aload_n hx hb dL_hall_27 rfl (lv_at hl 4 rfl) ?_
  refine lv_iload_n hx hb dL_hall_28 rfl (lv_at hl 5 rfl) ?_
  refine lv_bipush (v := nI 6) hx hb dL_hall_29 (by decide) ?_
  refine ca_i (CL := []) (va_runS (As := [.ref sc, .int (nI at0), .int (nI 6)]) (rest := [.int (nI 1), .int (nI 0), .ref cc0]) ⟨hx, hb, hml, hown, hts⟩ (c_L_draw l D cY H.size sc L xs at0 6 hL26 (by omega) (by omega) (by omega)) (va_cwS 3 hts gL_hall_L_draw rfl rfl rfl (by decide +kernel) ⟨Nat.le_of_ble_eq_true rfl, Nat.le_of_ble_eq_true rfl⟩) (b_preSc hVA hX hbl hbA hS) rfl rfl hl.1 rfl (lv_room (Nat.le_of_ble_eq_true rfl)) dL_hall_31 ⟨(show _ ≤ 127 by omega), (show _ ≤ 3820 by omega)⟩) hP hD hS hA [] rfl rfl (fun _ => rfl) (fun r31 d31 H locs hq hP hD hS => ?_)
  obtain ⟨rfl, hd31⟩ := hq
  have hP : va_P D vwCl ([hO b, cO b (nI 1) (nI 1), oQ (cY 2) (b 2) (rr 0) 6, gI (cY 0) (rr 0) 12 fG 6, oQ (cY 2) (b 3) (rr 1) 6, gI (cY 0) (rr 1) 6 fW 6, lO b, oQ (cY 3) (b 5) (rr 2) 13, gJ (cY 1) (rr 2) 36 fR 13, oQ (cY 3) (b 6) (rr 3) 13, gJ (cY 1) (rr 3) 6 fH 13, kO b, oQ (cY 3) (b 8) (rr 4) 13, gJ (cY 1) (rr 4) 36 fA 13, oQ (cY 3) (b 9) (rr 5) 13, gJ (cY 1) (rr 5) 64 fS 13, sO b, tO b, [(b 12, .inl (cY 1, 6, .inr (.inl fRs)))], [(b 13, .inl (cY 0, 6, .inl fOt))], [(b 14, .inl (cY 1, 32, .inr (.inl fMi)))], dO b, [(b 16, .inl (cY 0, 6, .inl fEn))], [(b 17, .inl (cY 0, 6, .inl fEb))], gO b, [(b 19, .inl (cY 0, 6, .inl fPy))], oQ (cY 3) (b 20) (rr 6) 13, gJ (cY 1) (rr 6) 6 fB 13, uO b, [(b 22, .inl (cY 0, 6, .inl fCc))], [(cc0, .inl (cY 0, 2, .inl (fun _ => nI 0)))], [(ll0, .inl (cY 0, 60, .inl (fun _ => nI 0)))], [(pp0, .inl (cY 0, 12, .inl (fun _ => nI 0)))]] : List va_W).flatten H := hP
  have hD : va_D A ([hO b, cO b (nI 1) (nI 1), oQ (cY 2) (b 2) (rr 0) 6, gI (cY 0) (rr 0) 12 fG 6, oQ (cY 2) (b 3) (rr 1) 6, gI (cY 0) (rr 1) 6 fW 6, lO b, oQ (cY 3) (b 5) (rr 2) 13, gJ (cY 1) (rr 2) 36 fR 13, oQ (cY 3) (b 6) (rr 3) 13, gJ (cY 1) (rr 3) 6 fH 13, kO b, oQ (cY 3) (b 8) (rr 4) 13, gJ (cY 1) (rr 4) 36 fA 13, oQ (cY 3) (b 9) (rr 5) 13, gJ (cY 1) (rr 5) 64 fS 13, sO b, tO b, [(b 12, .inl (cY 1, 6, .inr (.inl fRs)))], [(b 13, .inl (cY 0, 6, .inl fOt))], [(b 14, .inl (cY 1, 32, .inr (.inl fMi)))], dO b, [(b 16, .inl (cY 0, 6, .inl fEn))], [(b 17, .inl (cY 0, 6, .inl fEb))], gO b, [(b 19, .inl (cY 0, 6, .inl fPy))], oQ (cY 3) (b 20) (rr 6) 13, gJ (cY 1) (rr 6) 6 fB 13, uO b, [(b 22, .inl (cY 0, 6, .inl fCc))], [(cc0, .inl (cY 0, 2, .inl (fun _ => nI 0)))], [(ll0, .inl (cY 0, 60, .inl (fun _ => nI 0)))], [(pp0, .inl (cY 0, 12, .inl (fun _ => nI 0)))]] : List va_W).flatten := hD
  refine lv_iadd hx hb dL_hall_34 ?_
  refine eqi (x' := nI (1 + d31)) (nI_add _ _) ?_
  refine b_iast hx hb hK hP hD hS 30 0 rfl rfl (by omega) (by decide) dL_hall_35 (fun H locs hP hD hS => ?_)
  have hP : va_P D vwCl ([hO b, cO b (nI 1) (nI 1), oQ (cY 2) (b 2) (rr 0) 6, gI (cY 0) (rr 0) 12 fG 6, oQ (cY 2) (b 3) (rr 1) 6, gI (cY 0) (rr 1) 6 fW 6, lO b, oQ (cY 3) (b 5) (rr 2) 13, gJ (cY 1) (rr 2) 36 fR 13, oQ (cY 3) (b 6) (rr 3) 13, gJ (cY 1) (rr 3) 6 fH 13, kO b, oQ (cY 3) (b 8) (rr 4) 13, gJ (cY 1) (rr 4) 36 fA 13, oQ (cY 3) (b 9) (rr 5) 13, gJ (cY 1) (rr 5) 64 fS 13, sO b, tO b, [(b 12, .inl (cY 1, 6, .inr (.inl fRs)))], [(b 13, .inl (cY 0, 6, .inl fOt))], [(b 14, .inl (cY 1, 32, .inr (.inl fMi)))], dO b, [(b 16, .inl (cY 0, 6, .inl fEn))], [(b 17, .inl (cY 0, 6, .inl fEb))], gO b, [(b 19, .inl (cY 0, 6, .inl fPy))], oQ (cY 3) (b 20) (rr 6) 13, gJ (cY 1) (rr 6) 6 fB 13, uO b, [(b 22, .inl (cY 0, 6, .inl fCc))], [(cc0, .inl (cY 0, 2, .inl (upd (fun _ => nI 0) 0 (nI (1 + d31)))))], [(ll0, .inl (cY 0, 60, .inl (fun _ => nI 0)))], [(pp0, .inl (cY 0, 12, .inl (fun _ => nI 0)))]] : List va_W).flatten H := hP
  have hD : va_D A ([hO b, cO b (nI 1) (nI 1), oQ (cY 2) (b 2) (rr 0) 6, gI (cY 0) (rr 0) 12 fG 6, oQ (cY 2) (b 3) (rr 1) 6, gI (cY 0) (rr 1) 6 fW 6, lO b, oQ (cY 3) (b 5) (rr 2) 13, gJ (cY 1) (rr 2) 36 fR 13, oQ (cY 3) (b 6) (rr 3) 13, gJ (cY 1) (rr 3) 6 fH 13, kO b, oQ (cY 3) (b 8) (rr 4) 13, gJ (cY 1) (rr 4) 36 fA 13, oQ (cY 3) (b 9) (rr 5) 13, gJ (cY 1) (rr 5) 64 fS 13, sO b, tO b, [(b 12, .inl (cY 1, 6, .inr (.inl fRs)))], [(b 13, .inl (cY 0, 6, .inl fOt))], [(b 14, .inl (cY 1, 32, .inr (.inl fMi)))], dO b, [(b 16, .inl (cY 0, 6, .inl fEn))], [(b 17, .inl (cY 0, 6, .inl fEb))], gO b, [(b 19, .inl (cY 0, 6, .inl fPy))], oQ (cY 3) (b 20) (rr 6) 13, gJ (cY 1) (rr 6) 6 fB 13, uO b, [(b 22, .inl (cY 0, 6, .inl fCc))], [(cc0, .inl (cY 0, 2, .inl (upd (fun _ => nI 0) 0 (nI (1 + d31)))))], [(ll0, .inl (cY 0, 60, .inl (fun _ => nI 0)))], [(pp0, .inl (cY 0, 12, .inl (fun _ => nI 0)))]] : List va_W).flatten := hD
  refine lv_aload_n hx hb dL_hall_36 rfl (lv_at hl 1 rfl) ?_
  refine lv_iconst (v := nI 1) hx hb dL_hall_37 (by decide) ?_
  refine lv_iconst (v := nI 1) hx hb dL_hall_38 (by decide) ?_
  refine lv_aload_n hx hb dL_hall_39 rfl (lv_at hl 4 rfl) ?_
  refine lv_iload_n hx hb dL_hall_40 rfl (lv_at hl 5 rfl) ?_
  refine lv_iconst (v := nI 1) hx hb dL_hall_41 (by decide) ?_
  refine lv_iadd hx hb dL_hall_42 ?_
  refine eqi (x' := nI (at0 + 1)) (nI_add _ _) ?_
  refine lv_iconst (v := nI 5) hx hb dL_hall_43 (by decide) ?_
  refine ca_i (CL := []) (va_runS (As := [.ref sc, .int (nI (at0 + 1)), .int (nI 5)]) (rest := [.int (nI 1), .int (nI 1), .ref cc0]) ⟨hx, hb, hml, hown, hts⟩ (c_L_draw l D cY H.size sc L xs (at0 + 1) 5 hL26 (by omega) (by omega) (by omega)) (va_cwS 3 hts gL_hall_L_draw rfl rfl rfl (by decide +kernel) ⟨Nat.le_of_ble_eq_true rfl, Nat.le_of_ble_eq_true rfl⟩) (b_preSc hVA hX hbl hbA hS) rfl rfl hl.1 rfl (lv_room (Nat.le_of_ble_eq_true rfl)) dL_hall_44 ⟨(show _ ≤ 127 by omega), (show _ ≤ 3820 by omega)⟩) hP hD hS hA [] rfl rfl (fun _ => rfl) (fun r44 d44 H locs hq hP hD hS => ?_)
  obtain ⟨rfl, hd44⟩ := hq
  have hP : va_P D vwCl ([hO b, cO b (nI 1) (nI 1), oQ (cY 2) (b 2) (rr 0) 6, gI (cY 0) (rr 0) 12 fG 6, oQ (cY 2) (b 3) (rr 1) 6, gI (cY 0) (rr 1) 6 fW 6, lO b, oQ (cY 3) (b 5) (rr 2) 13, gJ (cY 1) (rr 2) 36 fR 13, oQ (cY 3) (b 6) (rr 3) 13, gJ (cY 1) (rr 3) 6 fH 13, kO b, oQ (cY 3) (b 8) (rr 4) 13, gJ (cY 1) (rr 4) 36 fA 13, oQ (cY 3) (b 9) (rr 5) 13, gJ (cY 1) (rr 5) 64 fS 13, sO b, tO b, [(b 12, .inl (cY 1, 6, .inr (.inl fRs)))], [(b 13, .inl (cY 0, 6, .inl fOt))], [(b 14, .inl (cY 1, 32, .inr (.inl fMi)))], dO b, [(b 16, .inl (cY 0, 6, .inl fEn))], [(b 17, .inl (cY 0, 6, .inl fEb))], gO b, [(b 19, .inl (cY 0, 6, .inl fPy))], oQ (cY 3) (b 20) (rr 6) 13, gJ (cY 1) (rr 6) 6 fB 13, uO b, [(b 22, .inl (cY 0, 6, .inl fCc))], [(cc0, .inl (cY 0, 2, .inl (upd (fun _ => nI 0) 0 (nI (1 + d31)))))], [(ll0, .inl (cY 0, 60, .inl (fun _ => nI 0)))], [(pp0, .inl (cY 0, 12, .inl (fun _ => nI 0)))]] : List va_W).flatten H := hP
  have hD : va_D A ([hO b, cO b (nI 1) (nI 1), oQ (cY 2) (b 2) (rr 0) 6, gI (cY 0) (rr 0) 12 fG 6, oQ (cY 2) (b 3) (rr 1) 6, gI (cY 0) (rr 1) 6 fW 6, lO b, oQ (cY 3) (b 5) (rr 2) 13, gJ (cY 1) (rr 2) 36 fR 13, oQ (cY 3) (b 6) (rr 3) 13, gJ (cY 1) (rr 3) 6 fH 13, kO b, oQ (cY 3) (b 8) (rr 4) 13, gJ (cY 1) (rr 4) 36 fA 13, oQ (cY 3) (b 9) (rr 5) 13, gJ (cY 1) (rr 5) 64 fS 13, sO b, tO b, [(b 12, .inl (cY 1, 6, .inr (.inl fRs)))], [(b 13, .inl (cY 0, 6, .inl fOt))], [(b 14, .inl (cY 1, 32, .inr (.inl fMi)))], dO b, [(b 16, .inl (cY 0, 6, .inl fEn))], [(b 17, .inl (cY 0, 6, .inl fEb))], gO b, [(b 19, .inl (cY 0, 6, .inl fPy))], oQ (cY 3) (b 20) (rr 6) 13, gJ (cY 1) (rr 6) 6 fB 13, uO b, [(b 22, .inl (cY 0, 6, .inl fCc))], [(cc0, .inl (cY 0, 2, .inl (upd (fun _ => nI 0) 0 (nI (1 + d31)))))], [(ll0, .inl (cY 0, 60, .inl (fun _ => nI 0)))], [(pp0, .inl (cY 0, 12, .inl (fun _ => nI 0)))]] : List va_W).flatten := hD
  refine lv_iadd hx hb dL_hall_47 ?_
  refine eqi (x' := nI (1 + d44)) (nI_add _ _) ?_
  refine lv_aload_n hx hb dL_hall_48 rfl (lv_at hl 4 rfl) ?_
  refine lv_iload_n hx hb dL_hall_49 rfl (lv_at hl 5 rfl) ?_
  refine lv_iconst (v := nI 2) hx hb dL_hall_50 (by decide) ?_
  refine lv_iadd hx hb dL_hall_51 ?_
  refine eqi (x' := nI (at0 + 2)) (nI_add _ _) ?_
  refine lv_bipush (v := nI 6) hx hb dL_hall_52 (by decide) ?_
  refine ca_i (CL := []) (va_runS (As := [.ref sc, .int (nI (at0 + 2)), .int (nI 6)]) (rest := [.int (nI (1 + d44)), .int (nI 1), .ref cc0]) ⟨hx, hb, hml, hown, hts⟩ (c_L_draw l D cY H.size sc L xs (at0 + 2) 6 hL26 (by omega) (by omega) (by omega)) (va_cwS 3 hts gL_hall_L_draw rfl rfl rfl (by decide +kernel) ⟨Nat.le_of_ble_eq_true rfl, Nat.le_of_ble_eq_true rfl⟩) (b_preSc hVA hX hbl hbA hS) rfl rfl hl.1 rfl (lv_room (Nat.le_of_ble_eq_true rfl)) dL_hall_54 ⟨(show _ ≤ 127 by omega), (show _ ≤ 3820 by omega)⟩) hP hD hS hA [] rfl rfl (fun _ => rfl) (fun r54 d54 H locs hq hP hD hS => ?_)
  obtain ⟨rfl, hd54⟩ := hq
  have hP : va_P D vwCl ([hO b, cO b (nI 1) (nI 1), oQ (cY 2) (b 2) (rr 0) 6, gI (cY 0) (rr 0) 12 fG 6, oQ (cY 2) (b 3) (rr 1) 6, gI (cY 0) (rr 1) 6 fW 6, lO b, oQ (cY 3) (b 5) (rr 2) 13, gJ (cY 1) (rr 2) 36 fR 13, oQ (cY 3) (b 6) (rr 3) 13, gJ (cY 1) (rr 3) 6 fH 13, kO b, oQ (cY 3) (b 8) (rr 4) 13, gJ (cY 1) (rr 4) 36 fA 13, oQ (cY 3) (b 9) (rr 5) 13, gJ (cY 1) (rr 5) 64 fS 13, sO b, tO b, [(b 12, .inl (cY 1, 6, .inr (.inl fRs)))], [(b 13, .inl (cY 0, 6, .inl fOt))], [(b 14, .inl (cY 1, 32, .inr (.inl fMi)))], dO b, [(b 16, .inl (cY 0, 6, .inl fEn))], [(b 17, .inl (cY 0, 6, .inl fEb))], gO b, [(b 19, .inl (cY 0, 6, .inl fPy))], oQ (cY 3) (b 20) (rr 6) 13, gJ (cY 1) (rr 6) 6 fB 13, uO b, [(b 22, .inl (cY 0, 6, .inl fCc))], [(cc0, .inl (cY 0, 2, .inl (upd (fun _ => nI 0) 0 (nI (1 + d31)))))], [(ll0, .inl (cY 0, 60, .inl (fun _ => nI 0)))], [(pp0, .inl (cY 0, 12, .inl (fun _ => nI 0)))]] : List va_W).flatten H := hP
  have hD : va_D A ([hO b, cO b (nI 1) (nI 1), oQ (cY 2) (b 2) (rr 0) 6, gI (cY 0) (rr 0) 12 fG 6, oQ (cY 2) (b 3) (rr 1) 6, gI (cY 0) (rr 1) 6 fW 6, lO b, oQ (cY 3) (b 5) (rr 2) 13, gJ (cY 1) (rr 2) 36 fR 13, oQ (cY 3) (b 6) (rr 3) 13, gJ (cY 1) (rr 3) 6 fH 13, kO b, oQ (cY 3) (b 8) (rr 4) 13, gJ (cY 1) (rr 4) 36 fA 13, oQ (cY 3) (b 9) (rr 5) 13, gJ (cY 1) (rr 5) 64 fS 13, sO b, tO b, [(b 12, .inl (cY 1, 6, .inr (.inl fRs)))], [(b 13, .inl (cY 0, 6, .inl fOt))], [(b 14, .inl (cY 1, 32, .inr (.inl fMi)))], dO b, [(b 16, .inl (cY 0, 6, .inl fEn))], [(b 17, .inl (cY 0, 6, .inl fEb))], gO b, [(b 19, .inl (cY 0, 6, .inl fPy))], oQ (cY 3) (b 20) (rr 6) 13, gJ (cY 1) (rr 6) 6 fB 13, uO b, [(b 22, .inl (cY 0, 6, .inl fCc))], [(cc0, .inl (cY 0, 2, .inl (upd (fun _ => nI 0) 0 (nI (1 + d31)))))], [(ll0, .inl (cY 0, 60, .inl (fun _ => nI 0)))], [(pp0, .inl (cY 0, 12, .inl (fun _ => nI 0)))]] : List va_W).flatten := hD
  refine lv_iadd hx hb dL_hall_57 ?_
  refine eqi (x' := nI (1 + d44 + d54)) (nI_add _ _) ?_
  refine b_iast hx hb hK hP hD hS 30 0 rfl rfl (by omega) (by decide) dL_hall_58 (fun H locs hP hD hS => ?_)
  have hP : va_P D vwCl ([hO b, cO b (nI 1) (nI 1), oQ (cY 2) (b 2) (rr 0) 6, gI (cY 0) (rr 0) 12 fG 6, oQ (cY 2) (b 3) (rr 1) 6, gI (cY 0) (rr 1) 6 fW 6, lO b, oQ (cY 3) (b 5) (rr 2) 13, gJ (cY 1) (rr 2) 36 fR 13, oQ (cY 3) (b 6) (rr 3) 13, gJ (cY 1) (rr 3) 6 fH 13, kO b, oQ (cY 3) (b 8) (rr 4) 13, gJ (cY 1) (rr 4) 36 fA 13, oQ (cY 3) (b 9) (rr 5) 13, gJ (cY 1) (rr 5) 64 fS 13, sO b, tO b, [(b 12, .inl (cY 1, 6, .inr (.inl fRs)))], [(b 13, .inl (cY 0, 6, .inl fOt))], [(b 14, .inl (cY 1, 32, .inr (.inl fMi)))], dO b, [(b 16, .inl (cY 0, 6, .inl fEn))], [(b 17, .inl (cY 0, 6, .inl fEb))], gO b, [(b 19, .inl (cY 0, 6, .inl fPy))], oQ (cY 3) (b 20) (rr 6) 13, gJ (cY 1) (rr 6) 6 fB 13, uO b, [(b 22, .inl (cY 0, 6, .inl fCc))], [(cc0, .inl (cY 0, 2, .inl (upd (upd (fun _ => nI 0) 0 (nI (1 + d31))) 1 (nI (1 + d44 + d54)))))], [(ll0, .inl (cY 0, 60, .inl (fun _ => nI 0)))], [(pp0, .inl (cY 0, 12, .inl (fun _ => nI 0)))]] : List va_W).flatten H := hP
  have hD : va_D A ([hO b, cO b (nI 1) (nI 1), oQ (cY 2) (b 2) (rr 0) 6, gI (cY 0) (rr 0) 12 fG 6, oQ (cY 2) (b 3) (rr 1) 6, gI (cY 0) (rr 1) 6 fW 6, lO b, oQ (cY 3) (b 5) (rr 2) 13, gJ (cY 1) (rr 2) 36 fR 13, oQ (cY 3) (b 6) (rr 3) 13, gJ (cY 1) (rr 3) 6 fH 13, kO b, oQ (cY 3) (b 8) (rr 4) 13, gJ (cY 1) (rr 4) 36 fA 13, oQ (cY 3) (b 9) (rr 5) 13, gJ (cY 1) (rr 5) 64 fS 13, sO b, tO b, [(b 12, .inl (cY 1, 6, .inr (.inl fRs)))], [(b 13, .inl (cY 0, 6, .inl fOt))], [(b 14, .inl (cY 1, 32, .inr (.inl fMi)))], dO b, [(b 16, .inl (cY 0, 6, .inl fEn))], [(b 17, .inl (cY 0, 6, .inl fEb))], gO b, [(b 19, .inl (cY 0, 6, .inl fPy))], oQ (cY 3) (b 20) (rr 6) 13, gJ (cY 1) (rr 6) 6 fB 13, uO b, [(b 22, .inl (cY 0, 6, .inl fCc))], [(cc0, .inl (cY 0, 2, .inl (upd (upd (fun _ => nI 0) 0 (nI (1 + d31))) 1 (nI (1 + d44 + d54)))))], [(ll0, .inl (cY 0, 60, .inl (fun _ => nI 0)))], [(pp0, .inl (cY 0, 12, .inl (fun _ => nI 0)))]] : List va_W).flatten := hD
  obtain ⟨n, en⟩ : ∃ q, q = 1 + d31 := ⟨_, rfl⟩
  obtain ⟨k, ek⟩ : ∃ q, q = 1 + d44 + d54 := ⟨_, rfl⟩
  obtain ⟨fc, efc⟩ : ∃ f, f = upd (upd (fun _ => nI 0) 0 (nI (1 + d31))) 1 (nI (1 + d44 + d54)) := ⟨_, rfl⟩
  have hcn : fc 0 = nI n := by rw [efc, en]; rfl
  have hck : fc 1 = nI k := by rw [efc, ek]; rfl
  have hn1 : 1 ≤ n := by omega
  have hn6 : n ≤ 6 := by omega
  have hk1 : 1 ≤ k := by omega
  have hk10 : k ≤ 10 := by omega
  have hk12 : k ≤ 12 := by omega
  have ew : (upd (upd (fun _ => nI 0) 0 (nI (1 + d31))) 1 (nI (1 + d44 + d54))) = fc := efc.symm
  rw [ew] at hP hD
  have hP : va_P D vwCl ([hO b, cO b (nI 1) (nI 1), oQ (cY 2) (b 2) (rr 0) 6, gI (cY 0) (rr 0) 12 fG 6, oQ (cY 2) (b 3) (rr 1) 6, gI (cY 0) (rr 1) 6 fW 6, lO b, oQ (cY 3) (b 5) (rr 2) 13, gJ (cY 1) (rr 2) 36 fR 13, oQ (cY 3) (b 6) (rr 3) 13, gJ (cY 1) (rr 3) 6 fH 13, kO b, oQ (cY 3) (b 8) (rr 4) 13, gJ (cY 1) (rr 4) 36 fA 13, oQ (cY 3) (b 9) (rr 5) 13, gJ (cY 1) (rr 5) 64 fS 13, sO b, tO b, [(b 12, .inl (cY 1, 6, .inr (.inl fRs)))], [(b 13, .inl (cY 0, 6, .inl fOt))], [(b 14, .inl (cY 1, 32, .inr (.inl fMi)))], dO b, [(b 16, .inl (cY 0, 6, .inl fEn))], [(b 17, .inl (cY 0, 6, .inl fEb))], gO b, [(b 19, .inl (cY 0, 6, .inl fPy))], oQ (cY 3) (b 20) (rr 6) 13, gJ (cY 1) (rr 6) 6 fB 13, uO b, [(b 22, .inl (cY 0, 6, .inl fCc))], [(cc0, .inl (cY 0, 2, .inl fc))], [(ll0, .inl (cY 0, 60, .inl (fun _ => nI 0)))], [(pp0, .inl (cY 0, 12, .inl (fun _ => nI 0)))]] : List va_W).flatten H := hP
  have hD : va_D A ([hO b, cO b (nI 1) (nI 1), oQ (cY 2) (b 2) (rr 0) 6, gI (cY 0) (rr 0) 12 fG 6, oQ (cY 2) (b 3) (rr 1) 6, gI (cY 0) (rr 1) 6 fW 6, lO b, oQ (cY 3) (b 5) (rr 2) 13, gJ (cY 1) (rr 2) 36 fR 13, oQ (cY 3) (b 6) (rr 3) 13, gJ (cY 1) (rr 3) 6 fH 13, kO b, oQ (cY 3) (b 8) (rr 4) 13, gJ (cY 1) (rr 4) 36 fA 13, oQ (cY 3) (b 9) (rr 5) 13, gJ (cY 1) (rr 5) 64 fS 13, sO b, tO b, [(b 12, .inl (cY 1, 6, .inr (.inl fRs)))], [(b 13, .inl (cY 0, 6, .inl fOt))], [(b 14, .inl (cY 1, 32, .inr (.inl fMi)))], dO b, [(b 16, .inl (cY 0, 6, .inl fEn))], [(b 17, .inl (cY 0, 6, .inl fEb))], gO b, [(b 19, .inl (cY 0, 6, .inl fPy))], oQ (cY 3) (b 20) (rr 6) 13, gJ (cY 1) (rr 6) 6 fB 13, uO b, [(b 22, .inl (cY 0, 6, .inl fCc))], [(cc0, .inl (cY 0, 2, .inl fc))], [(ll0, .inl (cY 0, 60, .inl (fun _ => nI 0)))], [(pp0, .inl (cY 0, 12, .inl (fun _ => nI 0)))]] : List va_W).flatten := hD
  refine lv_iconst (v := nI 1) hx hb dL_hall_59 (by decide) ?_
  refine lv_istore (lv' := [(6, .int (nI 1)), (2, .ref (b 0)), (3, .ref cc0), (4, .ref ll0), (5, .ref pp0), (0, .ref sc), (1, .int (nI at0))]) hx hb dL_hall_60 hl (by decide) rfl (fun ls hl => ?_)
  refine lv_aload_n hx hb dL_hall_62 rfl (lv_at hl 1 rfl) ?_
  refine lv_aload_n hx hb dL_hall_63 rfl (lv_at hl 2 rfl) ?_
  refine lv_iconst (v := nI 0) hx hb dL_hall_64 (by decide) ?_
  refine b_iald hx hb hK hP 30 0 rfl rfl (by omega) (by decide) dL_hall_65 ?_
  refine eqi (x' := nI n) (hcn) ?_
  refine lv_aload_n hx hb dL_hall_66 rfl (lv_at hl 2 rfl) ?_
  refine lv_iconst (v := nI 1) hx hb dL_hall_67 (by decide) ?_
  refine b_iald hx hb hK hP 30 0 rfl rfl (by omega) (by decide) dL_hall_68 ?_
  refine eqi (x' := nI k) (hck) ?_
  refine ca_v (CL := [hO b, cO b (nI 1) (nI 1), oQ (cY 2) (b 2) (rr 0) 6, gI (cY 0) (rr 0) 12 fG 6, oQ (cY 2) (b 3) (rr 1) 6, gI (cY 0) (rr 1) 6 fW 6, gO b, [(b 19, .inl (cY 0, 6, .inl fPy))], uO b, [(b 22, .inl (cY 0, 6, .inl fCc))]]) (va_runV (As := [.int (nI n), .int (nI k)]) (rest := []) ⟨hx, hb, hml, hown, hts⟩ (c_X8_begin_ok l D cY H.size b rr (nI 1) (nI 1) fG fW fPy fCc n k (by omega) (by omega) (by omega) (by omega)) (cwV 2 hts gL_hall_X8_begin rfl rfl rfl (by decide +kernel) ⟨Nat.le_of_ble_eq_true rfl, Nat.le_of_ble_eq_true rfl⟩) (b_preV hVK hP hD [0, 1, 2, 3, 4, 5, 24, 25, 28, 29] rfl rfl 0 rfl rfl) rfl rfl hl.1 rfl (lv_room (Nat.le_of_ble_eq_true rfl)) dL_hall_69 ⟨(show _ ≤ 127 by omega), (show _ ≤ 3820 by omega)⟩) hP hD hS hA [0, 1, 2, 3, 4, 5, 24, 25, 28, 29] rfl rfl (fun _ => rfl) (fun uu H locs hq hP hD hS => ?_)
  obtain ⟨fG1_1, fW1_2, fPy1_3, fCc1_4⟩ := uu
  try dsimp only at hq
  have q69 := hq
  have hP : va_P D vwCl ([hO b, cO b (nI n) (nI k), oQ (cY 2) (b 2) (rr 0) 6, gI (cY 0) (rr 0) 12 fG1_1 6, oQ (cY 2) (b 3) (rr 1) 6, gI (cY 0) (rr 1) 6 fW1_2 6, lO b, oQ (cY 3) (b 5) (rr 2) 13, gJ (cY 1) (rr 2) 36 fR 13, oQ (cY 3) (b 6) (rr 3) 13, gJ (cY 1) (rr 3) 6 fH 13, kO b, oQ (cY 3) (b 8) (rr 4) 13, gJ (cY 1) (rr 4) 36 fA 13, oQ (cY 3) (b 9) (rr 5) 13, gJ (cY 1) (rr 5) 64 fS 13, sO b, tO b, [(b 12, .inl (cY 1, 6, .inr (.inl fRs)))], [(b 13, .inl (cY 0, 6, .inl fOt))], [(b 14, .inl (cY 1, 32, .inr (.inl fMi)))], dO b, [(b 16, .inl (cY 0, 6, .inl fEn))], [(b 17, .inl (cY 0, 6, .inl fEb))], gO b, [(b 19, .inl (cY 0, 6, .inl fPy1_3))], oQ (cY 3) (b 20) (rr 6) 13, gJ (cY 1) (rr 6) 6 fB 13, uO b, [(b 22, .inl (cY 0, 6, .inl fCc1_4))], [(cc0, .inl (cY 0, 2, .inl fc))], [(ll0, .inl (cY 0, 60, .inl (fun _ => nI 0)))], [(pp0, .inl (cY 0, 12, .inl (fun _ => nI 0)))]] : List va_W).flatten H := hP
  have hD : va_D A ([hO b, cO b (nI n) (nI k), oQ (cY 2) (b 2) (rr 0) 6, gI (cY 0) (rr 0) 12 fG1_1 6, oQ (cY 2) (b 3) (rr 1) 6, gI (cY 0) (rr 1) 6 fW1_2 6, lO b, oQ (cY 3) (b 5) (rr 2) 13, gJ (cY 1) (rr 2) 36 fR 13, oQ (cY 3) (b 6) (rr 3) 13, gJ (cY 1) (rr 3) 6 fH 13, kO b, oQ (cY 3) (b 8) (rr 4) 13, gJ (cY 1) (rr 4) 36 fA 13, oQ (cY 3) (b 9) (rr 5) 13, gJ (cY 1) (rr 5) 64 fS 13, sO b, tO b, [(b 12, .inl (cY 1, 6, .inr (.inl fRs)))], [(b 13, .inl (cY 0, 6, .inl fOt))], [(b 14, .inl (cY 1, 32, .inr (.inl fMi)))], dO b, [(b 16, .inl (cY 0, 6, .inl fEn))], [(b 17, .inl (cY 0, 6, .inl fEb))], gO b, [(b 19, .inl (cY 0, 6, .inl fPy1_3))], oQ (cY 3) (b 20) (rr 6) 13, gJ (cY 1) (rr 6) 6 fB 13, uO b, [(b 22, .inl (cY 0, 6, .inl fCc1_4))], [(cc0, .inl (cY 0, 2, .inl fc))], [(ll0, .inl (cY 0, 60, .inl (fun _ => nI 0)))], [(pp0, .inl (cY 0, 12, .inl (fun _ => nI 0)))]] : List va_W).flatten := hD
  have hLC0 : LC n k (fun i _ => i) (fun _ => 0) fG1_1 fW1_2 fPy1_3 fCc1_4 (fun _ => nI 0) := LC_begin hn1 hn6 hk1 hk10 q69.1.1 q69.1.2 q69.2.1 q69.2.2 (fun _ _ => rfl)
  refine lv_iconst (v := nI 0) hx hb dL_hall_72 (by decide) ?_
  refine lv_istore (lv' := [(7, .int (nI 0)), (6, .int (nI 1)), (2, .ref (b 0)), (3, .ref cc0), (4, .ref ll0), (5, .ref pp0), (0, .ref sc), (1, .int (nI at0))]) hx hb dL_hall_73 hl (by decide) rfl (fun ls hl => ?_)
  have L75 : ∀ u : Nat, u ≤ n → ∀ (g0 : Nat → Nat → Nat) (vG0 : Nat → Nat → Int32) (vW0 : Nat → Nat → Int32) (vl0 : Nat → Int32), (LC n k g0 (fun _ => 0) vG0 vW0 fPy1_3 fCc1_4 (fun _ => nI 0)) → (LSt n k g0 vl0 u 0) → ∀ (H : Heap) (locs : List Loc), va_P D vwCl ([hO b, cO b (nI n) (nI k), oQ (cY 2) (b 2) (rr 0) 6, gI (cY 0) (rr 0) 12 vG0 6, oQ (cY 2) (b 3) (rr 1) 6, gI (cY 0) (rr 1) 6 vW0 6, lO b, oQ (cY 3) (b 5) (rr 2) 13, gJ (cY 1) (rr 2) 36 fR 13, oQ (cY 3) (b 6) (rr 3) 13, gJ (cY 1) (rr 3) 6 fH 13, kO b, oQ (cY 3) (b 8) (rr 4) 13, gJ (cY 1) (rr 4) 36 fA 13, oQ (cY 3) (b 9) (rr 5) 13, gJ (cY 1) (rr 5) 64 fS 13, sO b, tO b, [(b 12, .inl (cY 1, 6, .inr (.inl fRs)))], [(b 13, .inl (cY 0, 6, .inl fOt))], [(b 14, .inl (cY 1, 32, .inr (.inl fMi)))], dO b, [(b 16, .inl (cY 0, 6, .inl fEn))], [(b 17, .inl (cY 0, 6, .inl fEb))], gO b, [(b 19, .inl (cY 0, 6, .inl fPy1_3))], oQ (cY 3) (b 20) (rr 6) 13, gJ (cY 1) (rr 6) 6 fB 13, uO b, [(b 22, .inl (cY 0, 6, .inl fCc1_4))], [(cc0, .inl (cY 0, 2, .inl fc))], [(ll0, .inl (cY 0, 60, .inl vl0))], [(pp0, .inl (cY 0, 12, .inl (fun _ => nI 0)))]] : List va_W).flatten H → va_D A ([hO b, cO b (nI n) (nI k), oQ (cY 2) (b 2) (rr 0) 6, gI (cY 0) (rr 0) 12 vG0 6, oQ (cY 2) (b 3) (rr 1) 6, gI (cY 0) (rr 1) 6 vW0 6, lO b, oQ (cY 3) (b 5) (rr 2) 13, gJ (cY 1) (rr 2) 36 fR 13, oQ (cY 3) (b 6) (rr 3) 13, gJ (cY 1) (rr 3) 6 fH 13, kO b, oQ (cY 3) (b 8) (rr 4) 13, gJ (cY 1) (rr 4) 36 fA 13, oQ (cY 3) (b 9) (rr 5) 13, gJ (cY 1) (rr 5) 64 fS 13, sO b, tO b, [(b 12, .inl (cY 1, 6, .inr (.inl fRs)))], [(b 13, .inl (cY 0, 6, .inl fOt))], [(b 14, .inl (cY 1, 32, .inr (.inl fMi)))], dO b, [(b 16, .inl (cY 0, 6, .inl fEn))], [(b 17, .inl (cY 0, 6, .inl fEb))], gO b, [(b 19, .inl (cY 0, 6, .inl fPy1_3))], oQ (cY 3) (b 20) (rr 6) 13, gJ (cY 1) (rr 6) 6 fB 13, uO b, [(b 22, .inl (cY 0, 6, .inl fCc1_4))], [(cc0, .inl (cY 0, 2, .inl fc))], [(ll0, .inl (cY 0, 60, .inl vl0))], [(pp0, .inl (cY 0, 12, .inl (fun _ => nI 0)))]] : List va_W).flatten → va_S A s.heap H locs → ∀ (ls : Array Slot), lv_has ls 11 [(0, .ref sc), (1, .int (nI at0)), (2, .ref (b 0)), (3, .ref cc0), (4, .ref ll0), (5, .ref pp0), (6, .int (nI 1)), (7, .int (nI u))] → W p l e ({ frames := 10, cells := 127, slots := 3820, locals := 400 }) s m ([.ref sc, .int (nI at0)] : List Value).toArray below meth c H locs 103 2282 Q (F0 m 75 ls []) := by
    refine lpW n ?_
    intro u bdu ih75 g0 vG0 vW0 vl0 hLCa hLS H locs hP hD hS ls hl
    refine lv_iload hx hb dL_hall_75 (lv_at hl 7 rfl) ?_
    refine lv_aload_n hx hb dL_hall_77 rfl (lv_at hl 3 rfl) ?_
    refine lv_iconst (v := nI 0) hx hb dL_hall_78 (by decide) ?_
    refine b_iald hx hb hK hP 30 0 rfl rfl (by omega) (by decide) dL_hall_79 ?_
    refine eqi (x' := nI n) (hcn) ?_
    refine n_icmp_ge (tgt := 187) hx hb dL_hall_80 (by decide) (by omega) (by omega) (fun h80 => ?_) (fun h80 => ?_)
    · -- t
      refine lv_iconst (v := nI 0) hx hb dL_hall_187 (by decide) ?_
      refine lv_istore (lv' := [(7, .int (nI 0)), (0, .ref sc), (1, .int (nI at0)), (2, .ref (b 0)), (3, .ref cc0), (4, .ref ll0), (5, .ref pp0), (6, .int (nI 1))]) hx hb dL_hall_188 hl (by decide) rfl (fun ls hl => ?_)
      have L190 : ∀ jj : Nat, jj ≤ 24 → ∀ (vG : Nat → Nat → Int32) (vW : Nat → Nat → Int32) (vR : Nat → Nat → Int64) (vH : Nat → Nat → Int64) (vA : Nat → Nat → Int64) (vS : Nat → Nat → Int64) (vRs : Nat → Int64) (vOt : Nat → Int32) (vMi : Nat → Int64) (vEn : Nat → Int32) (vEb : Nat → Int32) (vPy : Nat → Int32) (vB : Nat → Nat → Int64) (vCc : Nat → Int32) (vl : Nat → Int32) (vp : Nat → Int32), (LPq n k vG vW vPy vCc vl vp) → ∀ (H : Heap) (locs : List Loc), va_P D vwCl ([hO b, cO b (nI n) (nI k), oQ (cY 2) (b 2) (rr 0) 6, gI (cY 0) (rr 0) 12 vG 6, oQ (cY 2) (b 3) (rr 1) 6, gI (cY 0) (rr 1) 6 vW 6, lO b, oQ (cY 3) (b 5) (rr 2) 13, gJ (cY 1) (rr 2) 36 vR 13, oQ (cY 3) (b 6) (rr 3) 13, gJ (cY 1) (rr 3) 6 vH 13, kO b, oQ (cY 3) (b 8) (rr 4) 13, gJ (cY 1) (rr 4) 36 vA 13, oQ (cY 3) (b 9) (rr 5) 13, gJ (cY 1) (rr 5) 64 vS 13, sO b, tO b, [(b 12, .inl (cY 1, 6, .inr (.inl vRs)))], [(b 13, .inl (cY 0, 6, .inl vOt))], [(b 14, .inl (cY 1, 32, .inr (.inl vMi)))], dO b, [(b 16, .inl (cY 0, 6, .inl vEn))], [(b 17, .inl (cY 0, 6, .inl vEb))], gO b, [(b 19, .inl (cY 0, 6, .inl vPy))], oQ (cY 3) (b 20) (rr 6) 13, gJ (cY 1) (rr 6) 6 vB 13, uO b, [(b 22, .inl (cY 0, 6, .inl vCc))], [(cc0, .inl (cY 0, 2, .inl fc))], [(ll0, .inl (cY 0, 60, .inl vl))], [(pp0, .inl (cY 0, 12, .inl vp))]] : List va_W).flatten H → va_D A ([hO b, cO b (nI n) (nI k), oQ (cY 2) (b 2) (rr 0) 6, gI (cY 0) (rr 0) 12 vG 6, oQ (cY 2) (b 3) (rr 1) 6, gI (cY 0) (rr 1) 6 vW 6, lO b, oQ (cY 3) (b 5) (rr 2) 13, gJ (cY 1) (rr 2) 36 vR 13, oQ (cY 3) (b 6) (rr 3) 13, gJ (cY 1) (rr 3) 6 vH 13, kO b, oQ (cY 3) (b 8) (rr 4) 13, gJ (cY 1) (rr 4) 36 vA 13, oQ (cY 3) (b 9) (rr 5) 13, gJ (cY 1) (rr 5) 64 vS 13, sO b, tO b, [(b 12, .inl (cY 1, 6, .inr (.inl vRs)))], [(b 13, .inl (cY 0, 6, .inl vOt))], [(b 14, .inl (cY 1, 32, .inr (.inl vMi)))], dO b, [(b 16, .inl (cY 0, 6, .inl vEn))], [(b 17, .inl (cY 0, 6, .inl vEb))], gO b, [(b 19, .inl (cY 0, 6, .inl vPy))], oQ (cY 3) (b 20) (rr 6) 13, gJ (cY 1) (rr 6) 6 vB 13, uO b, [(b 22, .inl (cY 0, 6, .inl vCc))], [(cc0, .inl (cY 0, 2, .inl fc))], [(ll0, .inl (cY 0, 60, .inl vl))], [(pp0, .inl (cY 0, 12, .inl vp))]] : List va_W).flatten → va_S A s.heap H locs → ∀ (ls : Array Slot), lv_has ls 11 [(0, .ref sc), (1, .int (nI at0)), (2, .ref (b 0)), (3, .ref cc0), (4, .ref ll0), (5, .ref pp0), (6, .int (nI 1)), (7, .int (nI jj))] → W p l e ({ frames := 10, cells := 127, slots := 3820, locals := 400 }) s m ([.ref sc, .int (nI at0)] : List Value).toArray below meth c H locs (103 + jj) (2282 + 64 * jj) Q (F0 m 190 ls []) := by
        refine lpW 24 ?_
        intro jj bdjj ih190 vG vW vR vH vA vS vRs vOt vMi vEn vEb vPy vB vCc vl vp hLP H locs hP hD hS ls hl
        obtain ⟨g, col, hLH⟩ := hLP
        obtain ⟨hLC, hL⟩ := id hLH
        obtain ⟨_, hG, hgn, hW, hPy, hCq⟩ := id hLC
        refine lv_iload hx hb dL_hall_190 (lv_at hl 7 rfl) ?_
        refine lv_bipush (v := nI 24) hx hb dL_hall_192 (by decide) ?_
        refine n_icmp_ge (tgt := 481) hx hb dL_hall_194 (by decide) (by omega) (by omega) (fun h194 => ?_) (fun h194 => ?_)
        · -- t
          refine lv_iload hx hb dL_hall_481 (lv_at hl 6 rfl) ?_
          refine eqi (x' := bI true) rfl ?_
          refine W.widen (k := 127) (n := 3820) (by omega) (by omega) ?_
          exact hend _ _ _ hS
        · -- f
          refine lv_iload hx hb dL_hall_197 (lv_at hl 6 rfl) ?_
          refine n_if_eq (tgt := 481) hx hb dL_hall_199 (by decide) (by omega) (fun h199 => ?_) (fun h199 => ?_)
          · -- t
            exact absurd h199 (by decide)
          · -- f
            refine lv_aload_n hx hb dL_hall_202 rfl (lv_at hl 0 rfl) ?_
            refine lv_iload_n hx hb dL_hall_203 rfl (lv_at hl 1 rfl) ?_
            refine lv_bipush (v := nI 9) hx hb dL_hall_204 (by decide) ?_
            refine lv_iadd hx hb dL_hall_206 ?_
            refine eqi (x' := nI (at0 + 9)) (nI_add _ _) ?_
            refine lv_iconst (v := nI 2) hx hb dL_hall_207 (by decide) ?_
            refine lv_iload hx hb dL_hall_208 (lv_at hl 7 rfl) ?_
            refine lv_imul hx hb dL_hall_210 ?_
            refine eqi (x' := nI (2 * jj)) (pk_mul _ _) ?_
            refine lv_iadd hx hb dL_hall_211 ?_
            refine eqi (x' := nI (at0 + 9 + 2 * jj)) (nI_add _ _) ?_
            refine lv_ldc (v := 1073741824) hx hb hown (hts (.constant RL 118 1073741824) (by decide +kernel)) dL_hall_212 ?_
            refine eqi (x' := nI 1073741824) (by decide) ?_
            refine ca_i (CL := []) (va_runS (As := [.ref sc, .int (nI (at0 + 9 + 2 * jj)), .int (nI 1073741824)]) (rest := []) ⟨hx, hb, hml, hown, hts⟩ (c_L_draw l D cY H.size sc L xs (at0 + 9 + 2 * jj) 1073741824 hL26 (by omega) (by omega) (by omega)) (va_cwS 3 hts gL_hall_L_draw rfl rfl rfl (by decide +kernel) ⟨Nat.le_of_ble_eq_true rfl, Nat.le_of_ble_eq_true rfl⟩) (b_preSc hVA hX hbl hbA hS) rfl rfl hl.1 rfl (lv_room (Nat.le_of_ble_eq_true rfl)) dL_hall_214 ⟨(show _ ≤ 127 by omega), (show _ ≤ 3820 by omega)⟩) hP hD hS hA [] rfl rfl (fun _ => rfl) (fun r214 d214 H locs hq hP hD hS => ?_)
            obtain ⟨rfl, hd214⟩ := hq
            have hP : va_P D vwCl ([hO b, cO b (nI n) (nI k), oQ (cY 2) (b 2) (rr 0) 6, gI (cY 0) (rr 0) 12 vG 6, oQ (cY 2) (b 3) (rr 1) 6, gI (cY 0) (rr 1) 6 vW 6, lO b, oQ (cY 3) (b 5) (rr 2) 13, gJ (cY 1) (rr 2) 36 vR 13, oQ (cY 3) (b 6) (rr 3) 13, gJ (cY 1) (rr 3) 6 vH 13, kO b, oQ (cY 3) (b 8) (rr 4) 13, gJ (cY 1) (rr 4) 36 vA 13, oQ (cY 3) (b 9) (rr 5) 13, gJ (cY 1) (rr 5) 64 vS 13, sO b, tO b, [(b 12, .inl (cY 1, 6, .inr (.inl vRs)))], [(b 13, .inl (cY 0, 6, .inl vOt))], [(b 14, .inl (cY 1, 32, .inr (.inl vMi)))], dO b, [(b 16, .inl (cY 0, 6, .inl vEn))], [(b 17, .inl (cY 0, 6, .inl vEb))], gO b, [(b 19, .inl (cY 0, 6, .inl vPy))], oQ (cY 3) (b 20) (rr 6) 13, gJ (cY 1) (rr 6) 6 vB 13, uO b, [(b 22, .inl (cY 0, 6, .inl vCc))], [(cc0, .inl (cY 0, 2, .inl fc))], [(ll0, .inl (cY 0, 60, .inl vl))], [(pp0, .inl (cY 0, 12, .inl vp))]] : List va_W).flatten H := hP
            have hD : va_D A ([hO b, cO b (nI n) (nI k), oQ (cY 2) (b 2) (rr 0) 6, gI (cY 0) (rr 0) 12 vG 6, oQ (cY 2) (b 3) (rr 1) 6, gI (cY 0) (rr 1) 6 vW 6, lO b, oQ (cY 3) (b 5) (rr 2) 13, gJ (cY 1) (rr 2) 36 vR 13, oQ (cY 3) (b 6) (rr 3) 13, gJ (cY 1) (rr 3) 6 vH 13, kO b, oQ (cY 3) (b 8) (rr 4) 13, gJ (cY 1) (rr 4) 36 vA 13, oQ (cY 3) (b 9) (rr 5) 13, gJ (cY 1) (rr 5) 64 vS 13, sO b, tO b, [(b 12, .inl (cY 1, 6, .inr (.inl vRs)))], [(b 13, .inl (cY 0, 6, .inl vOt))], [(b 14, .inl (cY 1, 32, .inr (.inl vMi)))], dO b, [(b 16, .inl (cY 0, 6, .inl vEn))], [(b 17, .inl (cY 0, 6, .inl vEb))], gO b, [(b 19, .inl (cY 0, 6, .inl vPy))], oQ (cY 3) (b 20) (rr 6) 13, gJ (cY 1) (rr 6) 6 vB 13, uO b, [(b 22, .inl (cY 0, 6, .inl vCc))], [(cc0, .inl (cY 0, 2, .inl fc))], [(ll0, .inl (cY 0, 60, .inl vl))], [(pp0, .inl (cY 0, 12, .inl vp))]] : List va_W).flatten := hD
            refine lv_istore (lv' := [(8, .int (nI d214)), (0, .ref sc), (1, .int (nI at0)), (2, .ref (b 0)), (3, .ref cc0), (4, .ref ll0), (5, .ref pp0), (6, .int (nI 1)), (7, .int (nI jj))]) hx hb dL_hall_217 hl (by decide) rfl (fun ls hl => ?_)
            refine lv_aload_n hx hb dL_hall_219 rfl (lv_at hl 1 rfl) ?_
            refine lv_iload_n hx hb dL_hall_220 rfl (lv_at hl 2 rfl) ?_
            refine lv_bipush (v := nI 10) hx hb dL_hall_221 (by decide) ?_
            refine lv_iadd hx hb dL_hall_223 ?_
            refine eqi (x' := nI (at0 + 10)) (nI_add _ _) ?_
            refine lv_iconst (v := nI 2) hx hb dL_hall_224 (by decide) ?_
            refine lv_iload hx hb dL_hall_225 (lv_at hl 8 rfl) ?_
            refine lv_imul hx hb dL_hall_227 ?_
            refine eqi (x' := nI (2 * jj)) (pk_mul _ _) ?_
            refine lv_iadd hx hb dL_hall_228 ?_
            refine eqi (x' := nI (at0 + 10 + 2 * jj)) (nI_add _ _) ?_
            refine lv_ldc (v := 1073741824) hx hb hown (hts (.constant RL 118 1073741824) (by decide +kernel)) dL_hall_229 ?_
            refine eqi (x' := nI 1073741824) (by decide) ?_
            refine ca_i (CL := []) (va_runS (As := [.ref sc, .int (nI (at0 + 10 + 2 * jj)), .int (nI 1073741824)]) (rest := []) ⟨hx, hb, hml, hown, hts⟩ (c_L_draw l D cY H.size sc L xs (at0 + 10 + 2 * jj) 1073741824 hL26 (by omega) (by omega) (by omega)) (va_cwS 3 hts gL_hall_L_draw rfl rfl rfl (by decide +kernel) ⟨Nat.le_of_ble_eq_true rfl, Nat.le_of_ble_eq_true rfl⟩) (b_preSc hVA hX hbl hbA hS) rfl rfl hl.1 rfl (lv_room (Nat.le_of_ble_eq_true rfl)) dL_hall_231 ⟨(show _ ≤ 127 by omega), (show _ ≤ 3820 by omega)⟩) hP hD hS hA [] rfl rfl (fun _ => rfl) (fun r231 d231 H locs hq hP hD hS => ?_)
            obtain ⟨rfl, hd231⟩ := hq
            have hP : va_P D vwCl ([hO b, cO b (nI n) (nI k), oQ (cY 2) (b 2) (rr 0) 6, gI (cY 0) (rr 0) 12 vG 6, oQ (cY 2) (b 3) (rr 1) 6, gI (cY 0) (rr 1) 6 vW 6, lO b, oQ (cY 3) (b 5) (rr 2) 13, gJ (cY 1) (rr 2) 36 vR 13, oQ (cY 3) (b 6) (rr 3) 13, gJ (cY 1) (rr 3) 6 vH 13, kO b, oQ (cY 3) (b 8) (rr 4) 13, gJ (cY 1) (rr 4) 36 vA 13, oQ (cY 3) (b 9) (rr 5) 13, gJ (cY 1) (rr 5) 64 vS 13, sO b, tO b, [(b 12, .inl (cY 1, 6, .inr (.inl vRs)))], [(b 13, .inl (cY 0, 6, .inl vOt))], [(b 14, .inl (cY 1, 32, .inr (.inl vMi)))], dO b, [(b 16, .inl (cY 0, 6, .inl vEn))], [(b 17, .inl (cY 0, 6, .inl vEb))], gO b, [(b 19, .inl (cY 0, 6, .inl vPy))], oQ (cY 3) (b 20) (rr 6) 13, gJ (cY 1) (rr 6) 6 vB 13, uO b, [(b 22, .inl (cY 0, 6, .inl vCc))], [(cc0, .inl (cY 0, 2, .inl fc))], [(ll0, .inl (cY 0, 60, .inl vl))], [(pp0, .inl (cY 0, 12, .inl vp))]] : List va_W).flatten H := hP
            have hD : va_D A ([hO b, cO b (nI n) (nI k), oQ (cY 2) (b 2) (rr 0) 6, gI (cY 0) (rr 0) 12 vG 6, oQ (cY 2) (b 3) (rr 1) 6, gI (cY 0) (rr 1) 6 vW 6, lO b, oQ (cY 3) (b 5) (rr 2) 13, gJ (cY 1) (rr 2) 36 vR 13, oQ (cY 3) (b 6) (rr 3) 13, gJ (cY 1) (rr 3) 6 vH 13, kO b, oQ (cY 3) (b 8) (rr 4) 13, gJ (cY 1) (rr 4) 36 vA 13, oQ (cY 3) (b 9) (rr 5) 13, gJ (cY 1) (rr 5) 64 vS 13, sO b, tO b, [(b 12, .inl (cY 1, 6, .inr (.inl vRs)))], [(b 13, .inl (cY 0, 6, .inl vOt))], [(b 14, .inl (cY 1, 32, .inr (.inl vMi)))], dO b, [(b 16, .inl (cY 0, 6, .inl vEn))], [(b 17, .inl (cY 0, 6, .inl vEb))], gO b, [(b 19, .inl (cY 0, 6, .inl vPy))], oQ (cY 3) (b 20) (rr 6) 13, gJ (cY 1) (rr 6) 6 vB 13, uO b, [(b 22, .inl (cY 0, 6, .inl vCc))], [(cc0, .inl (cY 0, 2, .inl fc))], [(ll0, .inl (cY 0, 60, .inl vl))], [(pp0, .inl (cY 0, 12, .inl vp))]] : List va_W).flatten := hD
            refine lv_istore (lv' := [(9, .int (nI d231)), (8, .int (nI d214)), (0, .ref sc), (1, .int (nI at0)), (2, .ref (b 0)), (3, .ref cc0), (4, .ref ll0), (5, .ref pp0), (6, .int (nI 1)), (7, .int (nI jj))]) hx hb dL_hall_234 hl (by decide) rfl (fun ls hl => ?_)
            refine lv_iload hx hb dL_hall_236 (lv_at hl 9 rfl) ?_
            refine lv_iconst (v := nI 4) hx hb dL_hall_238 (by decide) ?_
            refine lv_irem hx hb dL_hall_239 (nI_ne0 (by omega) (by omega)) ?_
            refine eqi (x' := nI (jj % 4)) (pk_rem (by omega) (by omega) (by omega)) ?_
            obtain ⟨w4, ew4⟩ : ∃ q, q = jj % 4 := ⟨_, rfl⟩
            refine eqi (x' := nI w4) (congrArg nI ew4.symm) ?_
            refine lv_istore (lv' := [(10, .int (nI w4)), (9, .int (nI d231)), (8, .int (nI d214)), (0, .ref sc), (1, .int (nI at0)), (2, .ref (b 0)), (3, .ref cc0), (4, .ref ll0), (5, .ref pp0), (6, .int (nI 1)), (7, .int (nI jj))]) hx hb dL_hall_240 hl (by decide) rfl (fun ls hl => ?_)
            refine lv_iload hx hb dL_hall_242 (lv_at hl 0 rfl) ?_
            refine n_if_ne (tgt := 303) hx hb dL_hall_244 (by decide) (by omega) (fun h244 => ?_) (fun h244 => ?_)
            · -- t
              refine lv_iload hx hb dL_hall_303 (lv_at hl 0 rfl) ?_
              refine lv_iconst (v := nI 1) hx hb dL_hall_305 (by decide) ?_
              refine n_icmp_ne (tgt := 352) hx hb dL_hall_306 (by decide) (by omega) (by omega) (fun h306 => ?_) (fun h306 => ?_)
              · -- t
                refine lv_iload hx hb dL_hall_352 (lv_at hl 0 rfl) ?_
                refine lv_iconst (v := nI 2) hx hb dL_hall_354 (by decide) ?_
                refine n_icmp_ne (tgt := 450) hx hb dL_hall_355 (by decide) (by omega) (by omega) (fun h355 => ?_) (fun h355 => ?_)
                · -- t
                  refine lv_aload_n hx hb dL_hall_450 rfl (lv_at hl 5 rfl) ?_
                  refine lv_aload_n hx hb dL_hall_451 rfl (lv_at hl 6 rfl) ?_
                  refine ca_i (CL := [hO b, cO b (nI n) (nI k), tO b, oQ (cY 2) (b 3) (rr 1) 6, gI (cY 0) (rr 1) 6 vW 6, [(b 12, .inl (cY 1, 6, .inr (.inl vRs)))], [(b 13, .inl (cY 0, 6, .inl vOt))], [(b 14, .inl (cY 1, 32, .inr (.inl vMi)))], sO b, [(cc0, .inl (cY 0, 2, .inl fc))]]) (va_runS (As := [.ref (b 0), .ref cc0]) (rest := []) ⟨hx, hb, hml, hown, hts⟩ (c_L_areRests_all l D cY H.size b rr n k vW vRs vOt vMi g cc0 fc (by omega) (by omega) (by omega) (by omega) hcn hck hgn hW) (va_cwS 2 hts gL_hall_L_areRests rfl rfl rfl (by decide +kernel) ⟨Nat.le_of_ble_eq_true rfl, Nat.le_of_ble_eq_true rfl⟩) (b_preS hVK hP hD [0, 1, 17, 4, 5, 18, 19, 20, 16, 30] rfl rfl) rfl rfl hl.1 rfl (lv_room (Nat.le_of_ble_eq_true rfl)) dL_hall_452 ⟨(show _ ≤ 127 by omega), (show _ ≤ 3820 by omega)⟩) hP hD hS hA [0, 1, 17, 4, 5, 18, 19, 20, 16, 30] rfl rfl (fun _ => rfl) (fun r452 uu H locs hq hP hD hS => ?_)
                  obtain ⟨fRs1_5, fOt1_6, fMi1_7⟩ := uu
                  try dsimp only at hq
                  subst hq
                  have hP : va_P D vwCl ([hO b, cO b (nI n) (nI k), oQ (cY 2) (b 2) (rr 0) 6, gI (cY 0) (rr 0) 12 vG 6, oQ (cY 2) (b 3) (rr 1) 6, gI (cY 0) (rr 1) 6 vW 6, lO b, oQ (cY 3) (b 5) (rr 2) 13, gJ (cY 1) (rr 2) 36 vR 13, oQ (cY 3) (b 6) (rr 3) 13, gJ (cY 1) (rr 3) 6 vH 13, kO b, oQ (cY 3) (b 8) (rr 4) 13, gJ (cY 1) (rr 4) 36 vA 13, oQ (cY 3) (b 9) (rr 5) 13, gJ (cY 1) (rr 5) 64 vS 13, sO b, tO b, [(b 12, .inl (cY 1, 6, .inr (.inl fRs1_5)))], [(b 13, .inl (cY 0, 6, .inl fOt1_6))], [(b 14, .inl (cY 1, 32, .inr (.inl fMi1_7)))], dO b, [(b 16, .inl (cY 0, 6, .inl vEn))], [(b 17, .inl (cY 0, 6, .inl vEb))], gO b, [(b 19, .inl (cY 0, 6, .inl vPy))], oQ (cY 3) (b 20) (rr 6) 13, gJ (cY 1) (rr 6) 6 vB 13, uO b, [(b 22, .inl (cY 0, 6, .inl vCc))], [(cc0, .inl (cY 0, 2, .inl fc))], [(ll0, .inl (cY 0, 60, .inl vl))], [(pp0, .inl (cY 0, 12, .inl vp))]] : List va_W).flatten H := hP
                  have hD : va_D A ([hO b, cO b (nI n) (nI k), oQ (cY 2) (b 2) (rr 0) 6, gI (cY 0) (rr 0) 12 vG 6, oQ (cY 2) (b 3) (rr 1) 6, gI (cY 0) (rr 1) 6 vW 6, lO b, oQ (cY 3) (b 5) (rr 2) 13, gJ (cY 1) (rr 2) 36 vR 13, oQ (cY 3) (b 6) (rr 3) 13, gJ (cY 1) (rr 3) 6 vH 13, kO b, oQ (cY 3) (b 8) (rr 4) 13, gJ (cY 1) (rr 4) 36 vA 13, oQ (cY 3) (b 9) (rr 5) 13, gJ (cY 1) (rr 5) 64 vS 13, sO b, tO b, [(b 12, .inl (cY 1, 6, .inr (.inl fRs1_5)))], [(b 13, .inl (cY 0, 6, .inl fOt1_6))], [(b 14, .inl (cY 1, 32, .inr (.inl fMi1_7)))], dO b, [(b 16, .inl (cY 0, 6, .inl vEn))], [(b 17, .inl (cY 0, 6, .inl vEb))], gO b, [(b 19, .inl (cY 0, 6, .inl vPy))], oQ (cY 3) (b 20) (rr 6) 13, gJ (cY 1) (rr 6) 6 vB 13, uO b, [(b 22, .inl (cY 0, 6, .inl vCc))], [(cc0, .inl (cY 0, 2, .inl fc))], [(ll0, .inl (cY 0, 60, .inl vl))], [(pp0, .inl (cY 0, 12, .inl vp))]] : List va_W).flatten := hD
                  refine b_if_eq (tgt := 472) hx hb dL_hall_455 (by decide) (fun h455 => ?_) (fun h455 => ?_)
                  · -- t
                    exact absurd h455 (by decide)
                  · -- f
                    refine lv_aload_n hx hb dL_hall_458 rfl (lv_at hl 5 rfl) ?_
                    refine lv_aload_n hx hb dL_hall_459 rfl (lv_at hl 6 rfl) ?_
                    refine lv_aload hx hb dL_hall_460 (lv_at hl 8 rfl) ?_
                    refine ca_i (CL := [hO b, cO b (nI n) (nI k), tO b, oQ (cY 2) (b 3) (rr 1) 6, gI (cY 0) (rr 1) 6 vW 6, [(b 12, .inl (cY 1, 6, .inr (.inl fRs1_5)))], [(b 13, .inl (cY 0, 6, .inl fOt1_6))], [(b 14, .inl (cY 1, 32, .inr (.inl fMi1_7)))], uO b, [(b 22, .inl (cY 0, 6, .inl vCc))], [(cc0, .inl (cY 0, 2, .inl fc))], [(pp0, .inl (cY 0, 12, .inl vp))]]) (va_runS (As := [.ref (b 0), .ref cc0, .ref pp0]) (rest := []) ⟨hx, hb, hml, hown, hts⟩ (c_L_areLumps l D cY H.size b rr n k vW fRs1_5 fOt1_6 fMi1_7 vCc g cc0 fc pp0 vp col (by omega) (by omega) (by omega) (by omega) hcn hck hgn hW hCq) (va_cwS 3 hts gL_hall_L_areLumps rfl rfl rfl (by decide +kernel) ⟨Nat.le_of_ble_eq_true rfl, Nat.le_of_ble_eq_true rfl⟩) (b_preS hVK hP hD [0, 1, 17, 4, 5, 18, 19, 20, 28, 29, 30, 32] rfl rfl) rfl rfl hl.1 rfl (lv_room (Nat.le_of_ble_eq_true rfl)) dL_hall_462 ⟨(show _ ≤ 127 by omega), (show _ ≤ 3820 by omega)⟩) hP hD hS hA [0, 1, 17, 4, 5, 18, 19, 20, 28, 29, 30, 32] rfl rfl (fun _ => rfl) (fun r462 uu H locs hq hP hD hS => ?_)
                    obtain ⟨fRs1_8, fOt1_9, fMi1_10⟩ := uu
                    try dsimp only at hq
                    subst hq
                    have hP : va_P D vwCl ([hO b, cO b (nI n) (nI k), oQ (cY 2) (b 2) (rr 0) 6, gI (cY 0) (rr 0) 12 vG 6, oQ (cY 2) (b 3) (rr 1) 6, gI (cY 0) (rr 1) 6 vW 6, lO b, oQ (cY 3) (b 5) (rr 2) 13, gJ (cY 1) (rr 2) 36 vR 13, oQ (cY 3) (b 6) (rr 3) 13, gJ (cY 1) (rr 3) 6 vH 13, kO b, oQ (cY 3) (b 8) (rr 4) 13, gJ (cY 1) (rr 4) 36 vA 13, oQ (cY 3) (b 9) (rr 5) 13, gJ (cY 1) (rr 5) 64 vS 13, sO b, tO b, [(b 12, .inl (cY 1, 6, .inr (.inl fRs1_8)))], [(b 13, .inl (cY 0, 6, .inl fOt1_9))], [(b 14, .inl (cY 1, 32, .inr (.inl fMi1_10)))], dO b, [(b 16, .inl (cY 0, 6, .inl vEn))], [(b 17, .inl (cY 0, 6, .inl vEb))], gO b, [(b 19, .inl (cY 0, 6, .inl vPy))], oQ (cY 3) (b 20) (rr 6) 13, gJ (cY 1) (rr 6) 6 vB 13, uO b, [(b 22, .inl (cY 0, 6, .inl vCc))], [(cc0, .inl (cY 0, 2, .inl fc))], [(ll0, .inl (cY 0, 60, .inl vl))], [(pp0, .inl (cY 0, 12, .inl vp))]] : List va_W).flatten H := hP
                    have hD : va_D A ([hO b, cO b (nI n) (nI k), oQ (cY 2) (b 2) (rr 0) 6, gI (cY 0) (rr 0) 12 vG 6, oQ (cY 2) (b 3) (rr 1) 6, gI (cY 0) (rr 1) 6 vW 6, lO b, oQ (cY 3) (b 5) (rr 2) 13, gJ (cY 1) (rr 2) 36 vR 13, oQ (cY 3) (b 6) (rr 3) 13, gJ (cY 1) (rr 3) 6 vH 13, kO b, oQ (cY 3) (b 8) (rr 4) 13, gJ (cY 1) (rr 4) 36 vA 13, oQ (cY 3) (b 9) (rr 5) 13, gJ (cY 1) (rr 5) 64 vS 13, sO b, tO b, [(b 12, .inl (cY 1, 6, .inr (.inl fRs1_8)))], [(b 13, .inl (cY 0, 6, .inl fOt1_9))], [(b 14, .inl (cY 1, 32, .inr (.inl fMi1_10)))], dO b, [(b 16, .inl (cY 0, 6, .inl vEn))], [(b 17, .inl (cY 0, 6, .inl vEb))], gO b, [(b 19, .inl (cY 0, 6, .inl vPy))], oQ (cY 3) (b 20) (rr 6) 13, gJ (cY 1) (rr 6) 6 vB 13, uO b, [(b 22, .inl (cY 0, 6, .inl vCc))], [(cc0, .inl (cY 0, 2, .inl fc))], [(ll0, .inl (cY 0, 60, .inl vl))], [(pp0, .inl (cY 0, 12, .inl vp))]] : List va_W).flatten := hD
                    refine b_if_eq (tgt := 472) hx hb dL_hall_465 (by decide) (fun h465 => ?_) (fun h465 => ?_)
                    · -- t
                      exact absurd h465 (by decide)
                    · -- f
                      refine lv_iconst (v := nI 1) hx hb dL_hall_468 (by decide) ?_
                      refine lv_goto (tgt := 473) hx hb dL_hall_469 (by decide) ?_
                      refine lv_istore (lv' := [(6, .int (nI 1)), (10, .int (nI w4)), (9, .int (nI d231)), (8, .int (nI d214)), (0, .ref sc), (1, .int (nI at0)), (2, .ref (b 0)), (3, .ref cc0), (4, .ref ll0), (5, .ref pp0), (7, .int (nI jj))]) hx hb dL_hall_473 hl (by decide) rfl (fun ls hl => ?_)
                      refine lv_iinc (v := nI (jj + 1)) (lv' := [(7, .int (nI (jj + 1))), (6, .int (nI 1)), (10, .int (nI w4)), (9, .int (nI d231)), (8, .int (nI d214)), (0, .ref sc), (1, .int (nI at0)), (2, .ref (b 0)), (3, .ref cc0), (4, .ref ll0), (5, .ref pp0)]) hx hb dL_hall_475 hl (k := 10) rfl (nI_1 jj) (by decide) rfl (fun ls hl => ?_)
                      refine lv_goto (tgt := 190) hx hb dL_hall_478 (by decide) ?_
                      refine W.widen (k := 103 + (jj + 1)) (n := 2282 + 64 * (jj + 1)) (by omega) (by omega) ?_
                      exact ih190 (by omega) vG vW vR vH vA vS fRs1_8 fOt1_9 fMi1_10 vEn vEb vPy vB vCc vl vp (⟨g, col, hLH⟩) _ _ hP hD hS _ (lv_sub hl [5, 6, 7, 8, 9, 10, 1, 0] rfl)
                · -- f
                  refine lv_aload_n hx hb dL_hall_358 rfl (lv_at hl 5 rfl) ?_
                  refine lv_iload hx hb dL_hall_359 (lv_at hl 1 rfl) ?_
                  refine lv_ldc (v := 65521) hx hb hown (hts (.constant RL 66 65521) (by decide +kernel)) dL_hall_361 ?_
                  refine eqi (x' := nI 65521) (by decide) ?_
                  refine lv_irem hx hb dL_hall_363 (nI_ne0 (by omega) (by omega)) ?_
                  refine eqi (x' := nI (d231 % 65521)) (pk_rem (by omega) (by omega) (by omega)) ?_
                  refine lv_aload_n hx hb dL_hall_364 rfl (lv_at hl 6 rfl) ?_
                  refine lv_aload hx hb dL_hall_365 (lv_at hl 7 rfl) ?_
                  refine ca_i (CL := [hO b, cO b (nI n) (nI k), dO b, oQ (cY 2) (b 2) (rr 0) 6, gI (cY 0) (rr 0) 12 vG 6, [(b 16, .inl (cY 0, 6, .inl vEn))], [(b 17, .inl (cY 0, 6, .inl vEb))], [(cc0, .inl (cY 0, 2, .inl fc))], [(ll0, .inl (cY 0, 60, .inl vl))]]) (va_runS (As := [.ref (b 0), .int (nI (d231 % 65521)), .ref cc0, .ref ll0]) (rest := []) ⟨hx, hb, hml, hown, hts⟩ (c_L_isDraw l D cY H.size b rr n k vG vEn vEb g cc0 fc ll0 vl (d231 % 65521) (by omega) (by omega) (by omega) (by omega) hcn hck hG hgn (by omega) hL (by omega)) (va_cwS 4 hts gL_hall_L_isDraw rfl rfl rfl (by decide +kernel) ⟨Nat.le_of_ble_eq_true rfl, Nat.le_of_ble_eq_true rfl⟩) (b_preS hVK hP hD [0, 1, 21, 2, 3, 22, 23, 30, 31] rfl rfl) rfl rfl hl.1 rfl (lv_room (Nat.le_of_ble_eq_true rfl)) dL_hall_367 ⟨(show _ ≤ 127 by omega), (show _ ≤ 3820 by omega)⟩) hP hD hS hA [0, 1, 21, 2, 3, 22, 23, 30, 31] rfl rfl (fun _ => rfl) (fun r367 uu H locs hq hP hD hS => ?_)
                  obtain ⟨fEn1_11, fEb1_12⟩ := uu
                  try dsimp only at hq
                  subst hq
                  have hP : va_P D vwCl ([hO b, cO b (nI n) (nI k), oQ (cY 2) (b 2) (rr 0) 6, gI (cY 0) (rr 0) 12 vG 6, oQ (cY 2) (b 3) (rr 1) 6, gI (cY 0) (rr 1) 6 vW 6, lO b, oQ (cY 3) (b 5) (rr 2) 13, gJ (cY 1) (rr 2) 36 vR 13, oQ (cY 3) (b 6) (rr 3) 13, gJ (cY 1) (rr 3) 6 vH 13, kO b, oQ (cY 3) (b 8) (rr 4) 13, gJ (cY 1) (rr 4) 36 vA 13, oQ (cY 3) (b 9) (rr 5) 13, gJ (cY 1) (rr 5) 64 vS 13, sO b, tO b, [(b 12, .inl (cY 1, 6, .inr (.inl vRs)))], [(b 13, .inl (cY 0, 6, .inl vOt))], [(b 14, .inl (cY 1, 32, .inr (.inl vMi)))], dO b, [(b 16, .inl (cY 0, 6, .inl fEn1_11))], [(b 17, .inl (cY 0, 6, .inl fEb1_12))], gO b, [(b 19, .inl (cY 0, 6, .inl vPy))], oQ (cY 3) (b 20) (rr 6) 13, gJ (cY 1) (rr 6) 6 vB 13, uO b, [(b 22, .inl (cY 0, 6, .inl vCc))], [(cc0, .inl (cY 0, 2, .inl fc))], [(ll0, .inl (cY 0, 60, .inl vl))], [(pp0, .inl (cY 0, 12, .inl vp))]] : List va_W).flatten H := hP
                  have hD : va_D A ([hO b, cO b (nI n) (nI k), oQ (cY 2) (b 2) (rr 0) 6, gI (cY 0) (rr 0) 12 vG 6, oQ (cY 2) (b 3) (rr 1) 6, gI (cY 0) (rr 1) 6 vW 6, lO b, oQ (cY 3) (b 5) (rr 2) 13, gJ (cY 1) (rr 2) 36 vR 13, oQ (cY 3) (b 6) (rr 3) 13, gJ (cY 1) (rr 3) 6 vH 13, kO b, oQ (cY 3) (b 8) (rr 4) 13, gJ (cY 1) (rr 4) 36 vA 13, oQ (cY 3) (b 9) (rr 5) 13, gJ (cY 1) (rr 5) 64 vS 13, sO b, tO b, [(b 12, .inl (cY 1, 6, .inr (.inl vRs)))], [(b 13, .inl (cY 0, 6, .inl vOt))], [(b 14, .inl (cY 1, 32, .inr (.inl vMi)))], dO b, [(b 16, .inl (cY 0, 6, .inl fEn1_11))], [(b 17, .inl (cY 0, 6, .inl fEb1_12))], gO b, [(b 19, .inl (cY 0, 6, .inl vPy))], oQ (cY 3) (b 20) (rr 6) 13, gJ (cY 1) (rr 6) 6 vB 13, uO b, [(b 22, .inl (cY 0, 6, .inl vCc))], [(cc0, .inl (cY 0, 2, .inl fc))], [(ll0, .inl (cY 0, 60, .inl vl))], [(pp0, .inl (cY 0, 12, .inl vp))]] : List va_W).flatten := hD
                  refine b_if_eq (tgt := 444) hx hb dL_hall_370 (by decide) (fun h370 => ?_) (fun h370 => ?_)
                  · -- t
                    exact absurd h370 (by decide)
                  · -- f
                    refine lv_aload_n hx hb dL_hall_373 rfl (lv_at hl 5 rfl) ?_
                    refine lv_iload hx hb dL_hall_374 (lv_at hl 2 rfl) ?_
                    refine lv_aload_n hx hb dL_hall_376 rfl (lv_at hl 6 rfl) ?_
                    refine lv_iconst (v := nI 0) hx hb dL_hall_377 (by decide) ?_
                    refine b_iald hx hb hK hP 30 0 rfl rfl (by omega) (by decide) dL_hall_378 ?_
                    refine eqi (x' := nI n) (hcn) ?_
                    refine lv_irem hx hb dL_hall_379 (nI_ne0 (by omega) (by omega)) ?_
                    refine eqi (x' := nI (d214 % n)) (pk_rem (by omega) (by omega) (by omega)) ?_
                    obtain ⟨f1, ef1⟩ : ∃ q, q = d214 % n := ⟨_, rfl⟩
                    have hf1 : f1 < n := by rw [ef1]; exact Nat.mod_lt _ (by omega)
                    refine eqi (x' := nI f1) (congrArg nI ef1.symm) ?_
                    refine lv_iload hx hb dL_hall_380 (lv_at hl 1 rfl) ?_
                    refine lv_ldc (v := 65521) hx hb hown (hts (.constant RL 66 65521) (by decide +kernel)) dL_hall_382 ?_
                    refine eqi (x' := nI 65521) (by decide) ?_
                    refine lv_irem hx hb dL_hall_384 (nI_ne0 (by omega) (by omega)) ?_
                    refine eqi (x' := nI (d231 % 65521)) (pk_rem (by omega) (by omega) (by omega)) ?_
                    refine lv_iload hx hb dL_hall_385 (lv_at hl 2 rfl) ?_
                    refine lv_bipush (v := nI 6) hx hb dL_hall_387 (by decide) ?_
                    refine lv_idiv hx hb dL_hall_389 (nI_ne0 (by omega) (by omega)) ?_
                    refine eqi (x' := nI (d214 / 6)) (pk_div (by omega) (by omega) (by omega)) ?_
                    refine lv_bipush (v := nI 40) hx hb dL_hall_390 (by decide) ?_
                    refine lv_irem hx hb dL_hall_392 (nI_ne0 (by omega) (by omega)) ?_
                    refine eqi (x' := nI ((d214 / 6) % 40)) (pk_rem (by omega) (by omega) (by omega)) ?_
                    refine ca_i (CL := [hO b, cO b (nI n) (nI k), dO b, oQ (cY 2) (b 2) (rr 0) 6, gI (cY 0) (rr 0) 12 vG 6]) (va_runV (As := [.int (nI f1), .int (nI (d231 % 65521)), .int (nI ((d214 / 6) % 40))]) (rest := []) ⟨hx, hb, hml, hown, hts⟩ (c_X8_walk_ok l D cY H.size b rr n k vG g f1 (d231 % 65521) ((d214 / 6) % 40) (by omega) (by omega) (by omega) (by omega) hG hgn (by omega) (by omega) (by omega)) (cwV 3 hts gL_hall_X8_walk rfl rfl rfl (by decide +kernel) ⟨Nat.le_of_ble_eq_true rfl, Nat.le_of_ble_eq_true rfl⟩) (b_preV hVK hP hD [0, 1, 21, 2, 3] rfl rfl 0 rfl rfl) rfl rfl hl.1 rfl (lv_room (Nat.le_of_ble_eq_true rfl)) dL_hall_393 ⟨(show _ ≤ 127 by omega), (show _ ≤ 3820 by omega)⟩) hP hD hS hA [0, 1, 21, 2, 3] rfl rfl (fun _ => rfl) (fun r393 uu H locs hq hP hD hS => ?_)
                    subst hq
                    have hP : va_P D vwCl ([hO b, cO b (nI n) (nI k), oQ (cY 2) (b 2) (rr 0) 6, gI (cY 0) (rr 0) 12 vG 6, oQ (cY 2) (b 3) (rr 1) 6, gI (cY 0) (rr 1) 6 vW 6, lO b, oQ (cY 3) (b 5) (rr 2) 13, gJ (cY 1) (rr 2) 36 vR 13, oQ (cY 3) (b 6) (rr 3) 13, gJ (cY 1) (rr 3) 6 vH 13, kO b, oQ (cY 3) (b 8) (rr 4) 13, gJ (cY 1) (rr 4) 36 vA 13, oQ (cY 3) (b 9) (rr 5) 13, gJ (cY 1) (rr 5) 64 vS 13, sO b, tO b, [(b 12, .inl (cY 1, 6, .inr (.inl vRs)))], [(b 13, .inl (cY 0, 6, .inl vOt))], [(b 14, .inl (cY 1, 32, .inr (.inl vMi)))], dO b, [(b 16, .inl (cY 0, 6, .inl fEn1_11))], [(b 17, .inl (cY 0, 6, .inl fEb1_12))], gO b, [(b 19, .inl (cY 0, 6, .inl vPy))], oQ (cY 3) (b 20) (rr 6) 13, gJ (cY 1) (rr 6) 6 vB 13, uO b, [(b 22, .inl (cY 0, 6, .inl vCc))], [(cc0, .inl (cY 0, 2, .inl fc))], [(ll0, .inl (cY 0, 60, .inl vl))], [(pp0, .inl (cY 0, 12, .inl vp))]] : List va_W).flatten H := hP
                    have hD : va_D A ([hO b, cO b (nI n) (nI k), oQ (cY 2) (b 2) (rr 0) 6, gI (cY 0) (rr 0) 12 vG 6, oQ (cY 2) (b 3) (rr 1) 6, gI (cY 0) (rr 1) 6 vW 6, lO b, oQ (cY 3) (b 5) (rr 2) 13, gJ (cY 1) (rr 2) 36 vR 13, oQ (cY 3) (b 6) (rr 3) 13, gJ (cY 1) (rr 3) 6 vH 13, kO b, oQ (cY 3) (b 8) (rr 4) 13, gJ (cY 1) (rr 4) 36 vA 13, oQ (cY 3) (b 9) (rr 5) 13, gJ (cY 1) (rr 5) 64 vS 13, sO b, tO b, [(b 12, .inl (cY 1, 6, .inr (.inl vRs)))], [(b 13, .inl (cY 0, 6, .inl vOt))], [(b 14, .inl (cY 1, 32, .inr (.inl vMi)))], dO b, [(b 16, .inl (cY 0, 6, .inl fEn1_11))], [(b 17, .inl (cY 0, 6, .inl fEb1_12))], gO b, [(b 19, .inl (cY 0, 6, .inl vPy))], oQ (cY 3) (b 20) (rr 6) 13, gJ (cY 1) (rr 6) 6 vB 13, uO b, [(b 22, .inl (cY 0, 6, .inl vCc))], [(cc0, .inl (cY 0, 2, .inl fc))], [(ll0, .inl (cY 0, 60, .inl vl))], [(pp0, .inl (cY 0, 12, .inl vp))]] : List va_W).flatten := hD
                    have hwk : wk g k f1 (d231 % 65521) (d214 / 6 % 40) < n := wk_lt hgn (by omega) (by omega) _
                    refine lv_aload hx hb dL_hall_396 (lv_at hl 7 rfl) ?_
                    refine lv_aload_n hx hb dL_hall_398 rfl (lv_at hl 6 rfl) ?_
                    refine lv_iload hx hb dL_hall_399 (lv_at hl 2 rfl) ?_
                    refine lv_aload_n hx hb dL_hall_401 rfl (lv_at hl 6 rfl) ?_
                    refine lv_iconst (v := nI 0) hx hb dL_hall_402 (by decide) ?_
                    refine b_iald hx hb hK hP 30 0 rfl rfl (by omega) (by decide) dL_hall_403 ?_
                    refine eqi (x' := nI n) (hcn) ?_
                    refine lv_irem hx hb dL_hall_404 (nI_ne0 (by omega) (by omega)) ?_
                    refine eqi (x' := nI (d214 % n)) (pk_rem (by omega) (by omega) (by omega)) ?_
                    refine eqi (x' := nI f1) (congrArg nI ef1.symm) ?_
                    refine lv_iload hx hb dL_hall_405 (lv_at hl 1 rfl) ?_
                    refine lv_ldc (v := 65521) hx hb hown (hts (.constant RL 66 65521) (by decide +kernel)) dL_hall_407 ?_
                    refine eqi (x' := nI 65521) (by decide) ?_
                    refine lv_irem hx hb dL_hall_409 (nI_ne0 (by omega) (by omega)) ?_
                    refine eqi (x' := nI (d231 % 65521)) (pk_rem (by omega) (by omega) (by omega)) ?_
                    refine lv_iload hx hb dL_hall_410 (lv_at hl 2 rfl) ?_
                    refine lv_bipush (v := nI 6) hx hb dL_hall_412 (by decide) ?_
                    refine lv_idiv hx hb dL_hall_414 (nI_ne0 (by omega) (by omega)) ?_
                    refine eqi (x' := nI (d214 / 6)) (pk_div (by omega) (by omega) (by omega)) ?_
                    refine lv_bipush (v := nI 40) hx hb dL_hall_415 (by decide) ?_
                    refine lv_irem hx hb dL_hall_417 (nI_ne0 (by omega) (by omega)) ?_
                    refine eqi (x' := nI ((d214 / 6) % 40)) (pk_rem (by omega) (by omega) (by omega)) ?_
                    refine ca_i (CL := [[(cc0, .inl (cY 0, 2, .inl fc))], [(ll0, .inl (cY 0, 60, .inl vl))]]) (va_runS (As := [.ref ll0, .ref cc0, .int (nI f1), .int (nI (d231 % 65521)), .int (nI ((d214 / 6) % 40))]) (rest := [.int (nI (wk g k f1 (d231 % 65521) ((d214 / 6) % 40)))]) ⟨hx, hb, hml, hown, hts⟩ (c_L_walked l D cY H.size n k g cc0 fc ll0 vl f1 (d231 % 65521) ((d214 / 6) % 40) (by omega) (by omega) (by omega) (by omega) hcn hck hgn (by omega) hL (by omega) (by omega) (by omega)) (va_cwS 5 hts gL_hall_L_walked rfl rfl rfl (by decide +kernel) ⟨Nat.le_of_ble_eq_true rfl, Nat.le_of_ble_eq_true rfl⟩) (b_preS hVK hP hD [30, 31] rfl rfl) rfl rfl hl.1 rfl (lv_room (Nat.le_of_ble_eq_true rfl)) dL_hall_418 ⟨(show _ ≤ 127 by omega), (show _ ≤ 3820 by omega)⟩) hP hD hS hA [30, 31] rfl rfl (fun _ => rfl) (fun r418 uu H locs hq hP hD hS => ?_)
                    subst hq
                    have hP : va_P D vwCl ([hO b, cO b (nI n) (nI k), oQ (cY 2) (b 2) (rr 0) 6, gI (cY 0) (rr 0) 12 vG 6, oQ (cY 2) (b 3) (rr 1) 6, gI (cY 0) (rr 1) 6 vW 6, lO b, oQ (cY 3) (b 5) (rr 2) 13, gJ (cY 1) (rr 2) 36 vR 13, oQ (cY 3) (b 6) (rr 3) 13, gJ (cY 1) (rr 3) 6 vH 13, kO b, oQ (cY 3) (b 8) (rr 4) 13, gJ (cY 1) (rr 4) 36 vA 13, oQ (cY 3) (b 9) (rr 5) 13, gJ (cY 1) (rr 5) 64 vS 13, sO b, tO b, [(b 12, .inl (cY 1, 6, .inr (.inl vRs)))], [(b 13, .inl (cY 0, 6, .inl vOt))], [(b 14, .inl (cY 1, 32, .inr (.inl vMi)))], dO b, [(b 16, .inl (cY 0, 6, .inl fEn1_11))], [(b 17, .inl (cY 0, 6, .inl fEb1_12))], gO b, [(b 19, .inl (cY 0, 6, .inl vPy))], oQ (cY 3) (b 20) (rr 6) 13, gJ (cY 1) (rr 6) 6 vB 13, uO b, [(b 22, .inl (cY 0, 6, .inl vCc))], [(cc0, .inl (cY 0, 2, .inl fc))], [(ll0, .inl (cY 0, 60, .inl vl))], [(pp0, .inl (cY 0, 12, .inl vp))]] : List va_W).flatten H := hP
                    have hD : va_D A ([hO b, cO b (nI n) (nI k), oQ (cY 2) (b 2) (rr 0) 6, gI (cY 0) (rr 0) 12 vG 6, oQ (cY 2) (b 3) (rr 1) 6, gI (cY 0) (rr 1) 6 vW 6, lO b, oQ (cY 3) (b 5) (rr 2) 13, gJ (cY 1) (rr 2) 36 vR 13, oQ (cY 3) (b 6) (rr 3) 13, gJ (cY 1) (rr 3) 6 vH 13, kO b, oQ (cY 3) (b 8) (rr 4) 13, gJ (cY 1) (rr 4) 36 vA 13, oQ (cY 3) (b 9) (rr 5) 13, gJ (cY 1) (rr 5) 64 vS 13, sO b, tO b, [(b 12, .inl (cY 1, 6, .inr (.inl vRs)))], [(b 13, .inl (cY 0, 6, .inl vOt))], [(b 14, .inl (cY 1, 32, .inr (.inl vMi)))], dO b, [(b 16, .inl (cY 0, 6, .inl fEn1_11))], [(b 17, .inl (cY 0, 6, .inl fEb1_12))], gO b, [(b 19, .inl (cY 0, 6, .inl vPy))], oQ (cY 3) (b 20) (rr 6) 13, gJ (cY 1) (rr 6) 6 vB 13, uO b, [(b 22, .inl (cY 0, 6, .inl vCc))], [(cc0, .inl (cY 0, 2, .inl fc))], [(ll0, .inl (cY 0, 60, .inl vl))], [(pp0, .inl (cY 0, 12, .inl vp))]] : List va_W).flatten := hD
                    refine n_icmp_ne (tgt := 444) hx hb dL_hall_421 (by decide) (by omega) (by omega) (fun h421 => ?_) (fun h421 => ?_)
                    · -- t
                      exact absurd rfl h421
                    · -- f
                      refine lv_aload_n hx hb dL_hall_424 rfl (lv_at hl 5 rfl) ?_
                      refine lv_iload hx hb dL_hall_425 (lv_at hl 2 rfl) ?_
                      refine lv_iconst (v := nI 3) hx hb dL_hall_427 (by decide) ?_
                      refine lv_idiv hx hb dL_hall_428 (nI_ne0 (by omega) (by omega)) ?_
                      refine eqi (x' := nI (d214 / 3)) (pk_div (by omega) (by omega) (by omega)) ?_
                      refine lv_aload_n hx hb dL_hall_429 rfl (lv_at hl 6 rfl) ?_
                      refine lv_aload hx hb dL_hall_430 (lv_at hl 7 rfl) ?_
                      refine lv_aload hx hb dL_hall_432 (lv_at hl 8 rfl) ?_
                      refine ca_i (CL := [hO b, cO b (nI n) (nI k), gO b, oQ (cY 2) (b 3) (rr 1) 6, gI (cY 0) (rr 1) 6 vW 6, [(b 19, .inl (cY 0, 6, .inl vPy))], oQ (cY 3) (b 20) (rr 6) 13, gJ (cY 1) (rr 6) 6 vB 13, [(cc0, .inl (cY 0, 2, .inl fc))], [(ll0, .inl (cY 0, 60, .inl vl))], [(pp0, .inl (cY 0, 12, .inl vp))]]) (va_runS (As := [.ref (b 0), .int (nI (d214 / 3)), .ref cc0, .ref ll0, .ref pp0]) (rest := []) ⟨hx, hb, hml, hown, hts⟩ (c_L_areGames l D cY H.size b rr n k vW vPy vB g cc0 fc ll0 vl pp0 vp (d214 / 3) (by omega) (by omega) (by omega) (by omega) hcn hck hgn hW (by omega) hL hPy (by omega)) (va_cwS 5 hts gL_hall_L_areGames rfl rfl rfl (by decide +kernel) ⟨Nat.le_of_ble_eq_true rfl, Nat.le_of_ble_eq_true rfl⟩) (b_preS hVK hP hD [0, 1, 24, 4, 5, 25, 26, 27, 30, 31, 32] rfl rfl) rfl rfl hl.1 rfl (lv_room (Nat.le_of_ble_eq_true rfl)) dL_hall_434 ⟨(show _ ≤ 127 by omega), (show _ ≤ 3820 by omega)⟩) hP hD hS hA [0, 1, 24, 4, 5, 25, 26, 27, 30, 31, 32] rfl rfl (fun _ => rfl) (fun r434 uu H locs hq hP hD hS => ?_)
                      obtain ⟨fB1_13, rfl⟩ : ∃ z, z = uu := ⟨_, rfl⟩
                      try dsimp only at hq
                      subst hq
                      have hP : va_P D vwCl ([hO b, cO b (nI n) (nI k), oQ (cY 2) (b 2) (rr 0) 6, gI (cY 0) (rr 0) 12 vG 6, oQ (cY 2) (b 3) (rr 1) 6, gI (cY 0) (rr 1) 6 vW 6, lO b, oQ (cY 3) (b 5) (rr 2) 13, gJ (cY 1) (rr 2) 36 vR 13, oQ (cY 3) (b 6) (rr 3) 13, gJ (cY 1) (rr 3) 6 vH 13, kO b, oQ (cY 3) (b 8) (rr 4) 13, gJ (cY 1) (rr 4) 36 vA 13, oQ (cY 3) (b 9) (rr 5) 13, gJ (cY 1) (rr 5) 64 vS 13, sO b, tO b, [(b 12, .inl (cY 1, 6, .inr (.inl vRs)))], [(b 13, .inl (cY 0, 6, .inl vOt))], [(b 14, .inl (cY 1, 32, .inr (.inl vMi)))], dO b, [(b 16, .inl (cY 0, 6, .inl fEn1_11))], [(b 17, .inl (cY 0, 6, .inl fEb1_12))], gO b, [(b 19, .inl (cY 0, 6, .inl vPy))], oQ (cY 3) (b 20) (rr 6) 13, gJ (cY 1) (rr 6) 6 fB1_13 13, uO b, [(b 22, .inl (cY 0, 6, .inl vCc))], [(cc0, .inl (cY 0, 2, .inl fc))], [(ll0, .inl (cY 0, 60, .inl vl))], [(pp0, .inl (cY 0, 12, .inl vp))]] : List va_W).flatten H := hP
                      have hD : va_D A ([hO b, cO b (nI n) (nI k), oQ (cY 2) (b 2) (rr 0) 6, gI (cY 0) (rr 0) 12 vG 6, oQ (cY 2) (b 3) (rr 1) 6, gI (cY 0) (rr 1) 6 vW 6, lO b, oQ (cY 3) (b 5) (rr 2) 13, gJ (cY 1) (rr 2) 36 vR 13, oQ (cY 3) (b 6) (rr 3) 13, gJ (cY 1) (rr 3) 6 vH 13, kO b, oQ (cY 3) (b 8) (rr 4) 13, gJ (cY 1) (rr 4) 36 vA 13, oQ (cY 3) (b 9) (rr 5) 13, gJ (cY 1) (rr 5) 64 vS 13, sO b, tO b, [(b 12, .inl (cY 1, 6, .inr (.inl vRs)))], [(b 13, .inl (cY 0, 6, .inl vOt))], [(b 14, .inl (cY 1, 32, .inr (.inl vMi)))], dO b, [(b 16, .inl (cY 0, 6, .inl fEn1_11))], [(b 17, .inl (cY 0, 6, .inl fEb1_12))], gO b, [(b 19, .inl (cY 0, 6, .inl vPy))], oQ (cY 3) (b 20) (rr 6) 13, gJ (cY 1) (rr 6) 6 fB1_13 13, uO b, [(b 22, .inl (cY 0, 6, .inl vCc))], [(cc0, .inl (cY 0, 2, .inl fc))], [(ll0, .inl (cY 0, 60, .inl vl))], [(pp0, .inl (cY 0, 12, .inl vp))]] : List va_W).flatten := hD
                      refine b_if_eq (tgt := 444) hx hb dL_hall_437 (by decide) (fun h437 => ?_) (fun h437 => ?_)
                      · -- t
                        exact absurd h437 (by decide)
                      · -- f
                        refine lv_iconst (v := nI 1) hx hb dL_hall_440 (by decide) ?_
                        refine lv_goto (tgt := 445) hx hb dL_hall_441 (by decide) ?_
                        refine lv_istore (lv' := [(6, .int (nI 1)), (10, .int (nI w4)), (9, .int (nI d231)), (8, .int (nI d214)), (0, .ref sc), (1, .int (nI at0)), (2, .ref (b 0)), (3, .ref cc0), (4, .ref ll0), (5, .ref pp0), (7, .int (nI jj))]) hx hb dL_hall_445 hl (by decide) rfl (fun ls hl => ?_)
                        refine lv_goto (tgt := 475) hx hb dL_hall_447 (by decide) ?_
                        refine lv_iinc (v := nI (jj + 1)) (lv' := [(7, .int (nI (jj + 1))), (6, .int (nI 1)), (10, .int (nI w4)), (9, .int (nI d231)), (8, .int (nI d214)), (0, .ref sc), (1, .int (nI at0)), (2, .ref (b 0)), (3, .ref cc0), (4, .ref ll0), (5, .ref pp0)]) hx hb dL_hall_475 hl (k := 10) rfl (nI_1 jj) (by decide) rfl (fun ls hl => ?_)
                        refine lv_goto (tgt := 190) hx hb dL_hall_478 (by decide) ?_
                        refine W.widen (k := 103 + (jj + 1)) (n := 2282 + 64 * (jj + 1)) (by omega) (by omega) ?_
                        exact ih190 (by omega) vG vW vR vH vA vS vRs vOt vMi fEn1_11 fEb1_12 vPy fB1_13 vCc vl vp (⟨g, col, hLH⟩) _ _ hP hD hS _ (lv_sub hl [5, 6, 7, 8, 9, 10, 1, 0] rfl)
              · -- f
                refine lv_aload_n hx hb dL_hall_309 rfl (lv_at hl 5 rfl) ?_
                refine lv_iload hx hb dL_hall_310 (lv_at hl 2 rfl) ?_
                refine lv_aload_n hx hb dL_hall_312 rfl (lv_at hl 6 rfl) ?_
                refine ca_i (CL := [hO b, cO b (nI n) (nI k), lO b, oQ (cY 2) (b 3) (rr 1) 6, gI (cY 0) (rr 1) 6 vW 6, oQ (cY 3) (b 5) (rr 2) 13, gJ (cY 1) (rr 2) 36 vR 13, kO b, oQ (cY 2) (b 2) (rr 0) 6, gI (cY 0) (rr 0) 12 vG 6, oQ (cY 3) (b 8) (rr 4) 13, gJ (cY 1) (rr 4) 36 vA 13, oQ (cY 3) (b 9) (rr 5) 13, gJ (cY 1) (rr 5) 64 vS 13, oQ (cY 3) (b 6) (rr 3) 13, gJ (cY 1) (rr 3) 6 vH 13, sO b, [(cc0, .inl (cY 0, 2, .inl fc))]]) (va_runS (As := [.ref (b 0), .int (nI d214), .ref cc0]) (rest := []) ⟨hx, hb, hml, hown, hts⟩ (c_L_areFar l D cY H.size b rr n k vW vR vG vA vS vH g cc0 fc d214 (by omega) (by omega) (by omega) (by omega) hcn hck hG hgn hW (by omega)) (va_cwS 3 hts gL_hall_L_areFar rfl rfl rfl (by decide +kernel) ⟨Nat.le_of_ble_eq_true rfl, Nat.le_of_ble_eq_true rfl⟩) (b_preS hVK hP hD [0, 1, 6, 4, 5, 7, 8, 11, 2, 3, 12, 13, 14, 15, 9, 10, 16, 30] rfl rfl) rfl rfl hl.1 rfl (lv_room (Nat.le_of_ble_eq_true rfl)) dL_hall_313 ⟨(show _ ≤ 127 by omega), (show _ ≤ 3820 by omega)⟩) hP hD hS hA [0, 1, 6, 4, 5, 7, 8, 11, 2, 3, 12, 13, 14, 15, 9, 10, 16, 30] rfl rfl (fun _ => rfl) (fun r313 uu H locs hq hP hD hS => ?_)
                obtain ⟨fR1_14, fA1_15, fS1_16, fH1_17⟩ := uu
                try dsimp only at hq
                subst hq
                have hP : va_P D vwCl ([hO b, cO b (nI n) (nI k), oQ (cY 2) (b 2) (rr 0) 6, gI (cY 0) (rr 0) 12 vG 6, oQ (cY 2) (b 3) (rr 1) 6, gI (cY 0) (rr 1) 6 vW 6, lO b, oQ (cY 3) (b 5) (rr 2) 13, gJ (cY 1) (rr 2) 36 fR1_14 13, oQ (cY 3) (b 6) (rr 3) 13, gJ (cY 1) (rr 3) 6 fH1_17 13, kO b, oQ (cY 3) (b 8) (rr 4) 13, gJ (cY 1) (rr 4) 36 fA1_15 13, oQ (cY 3) (b 9) (rr 5) 13, gJ (cY 1) (rr 5) 64 fS1_16 13, sO b, tO b, [(b 12, .inl (cY 1, 6, .inr (.inl vRs)))], [(b 13, .inl (cY 0, 6, .inl vOt))], [(b 14, .inl (cY 1, 32, .inr (.inl vMi)))], dO b, [(b 16, .inl (cY 0, 6, .inl vEn))], [(b 17, .inl (cY 0, 6, .inl vEb))], gO b, [(b 19, .inl (cY 0, 6, .inl vPy))], oQ (cY 3) (b 20) (rr 6) 13, gJ (cY 1) (rr 6) 6 vB 13, uO b, [(b 22, .inl (cY 0, 6, .inl vCc))], [(cc0, .inl (cY 0, 2, .inl fc))], [(ll0, .inl (cY 0, 60, .inl vl))], [(pp0, .inl (cY 0, 12, .inl vp))]] : List va_W).flatten H := hP
                have hD : va_D A ([hO b, cO b (nI n) (nI k), oQ (cY 2) (b 2) (rr 0) 6, gI (cY 0) (rr 0) 12 vG 6, oQ (cY 2) (b 3) (rr 1) 6, gI (cY 0) (rr 1) 6 vW 6, lO b, oQ (cY 3) (b 5) (rr 2) 13, gJ (cY 1) (rr 2) 36 fR1_14 13, oQ (cY 3) (b 6) (rr 3) 13, gJ (cY 1) (rr 3) 6 fH1_17 13, kO b, oQ (cY 3) (b 8) (rr 4) 13, gJ (cY 1) (rr 4) 36 fA1_15 13, oQ (cY 3) (b 9) (rr 5) 13, gJ (cY 1) (rr 5) 64 fS1_16 13, sO b, tO b, [(b 12, .inl (cY 1, 6, .inr (.inl vRs)))], [(b 13, .inl (cY 0, 6, .inl vOt))], [(b 14, .inl (cY 1, 32, .inr (.inl vMi)))], dO b, [(b 16, .inl (cY 0, 6, .inl vEn))], [(b 17, .inl (cY 0, 6, .inl vEb))], gO b, [(b 19, .inl (cY 0, 6, .inl vPy))], oQ (cY 3) (b 20) (rr 6) 13, gJ (cY 1) (rr 6) 6 vB 13, uO b, [(b 22, .inl (cY 0, 6, .inl vCc))], [(cc0, .inl (cY 0, 2, .inl fc))], [(ll0, .inl (cY 0, 60, .inl vl))], [(pp0, .inl (cY 0, 12, .inl vp))]] : List va_W).flatten := hD
                refine b_if_eq (tgt := 346) hx hb dL_hall_316 (by decide) (fun h316 => ?_) (fun h316 => ?_)
                · -- t
                  exact absurd h316 (by decide)
                · -- f
                  refine lv_iload hx hb dL_hall_319 (lv_at hl 10 rfl) ?_
                  refine lv_bipush (v := nI 8) hx hb dL_hall_321 (by decide) ?_
                  refine lv_irem hx hb dL_hall_323 (nI_ne0 (by omega) (by omega)) ?_
                  refine eqi (x' := nI (jj % 8)) (pk_rem (by omega) (by omega) (by omega)) ?_
                  refine lv_iconst (v := nI 1) hx hb dL_hall_324 (by decide) ?_
                  refine n_icmp_gt (tgt := 342) hx hb dL_hall_325 (by decide) (by omega) (by omega) (fun h325 => ?_) (fun h325 => ?_)
                  · -- t
                    refine lv_iconst (v := nI 1) hx hb dL_hall_342 (by decide) ?_
                    refine lv_goto (tgt := 347) hx hb dL_hall_343 (by decide) ?_
                    refine lv_istore (lv' := [(6, .int (nI 1)), (10, .int (nI w4)), (9, .int (nI d231)), (8, .int (nI d214)), (0, .ref sc), (1, .int (nI at0)), (2, .ref (b 0)), (3, .ref cc0), (4, .ref ll0), (5, .ref pp0), (7, .int (nI jj))]) hx hb dL_hall_347 hl (by decide) rfl (fun ls hl => ?_)
                    refine lv_goto (tgt := 475) hx hb dL_hall_349 (by decide) ?_
                    refine lv_iinc (v := nI (jj + 1)) (lv' := [(7, .int (nI (jj + 1))), (6, .int (nI 1)), (10, .int (nI w4)), (9, .int (nI d231)), (8, .int (nI d214)), (0, .ref sc), (1, .int (nI at0)), (2, .ref (b 0)), (3, .ref cc0), (4, .ref ll0), (5, .ref pp0)]) hx hb dL_hall_475 hl (k := 10) rfl (nI_1 jj) (by decide) rfl (fun ls hl => ?_)
                    refine lv_goto (tgt := 190) hx hb dL_hall_478 (by decide) ?_
                    refine W.widen (k := 103 + (jj + 1)) (n := 2282 + 64 * (jj + 1)) (by omega) (by omega) ?_
                    exact ih190 (by omega) vG vW fR1_14 fH1_17 fA1_15 fS1_16 vRs vOt vMi vEn vEb vPy vB vCc vl vp (⟨g, col, hLH⟩) _ _ hP hD hS _ (lv_sub hl [5, 6, 7, 8, 9, 10, 1, 0] rfl)
                  · -- f
                    refine lv_aload_n hx hb dL_hall_328 rfl (lv_at hl 5 rfl) ?_
                    refine lv_iload hx hb dL_hall_329 (lv_at hl 1 rfl) ?_
                    refine lv_sipush (v := nI 1001) hx hb dL_hall_331 (by decide) ?_
                    refine lv_irem hx hb dL_hall_334 (nI_ne0 (by omega) (by omega)) ?_
                    refine eqi (x' := nI (d231 % 1001)) (pk_rem (by omega) (by omega) (by omega)) ?_
                    refine lv_aload_n hx hb dL_hall_335 rfl (lv_at hl 6 rfl) ?_
                    refine ca_i (CL := [hO b, cO b (nI n) (nI k), lO b, oQ (cY 2) (b 3) (rr 1) 6, gI (cY 0) (rr 1) 6 vW 6, oQ (cY 3) (b 5) (rr 2) 13, gJ (cY 1) (rr 2) 36 fR1_14 13, [(cc0, .inl (cY 0, 2, .inl fc))]]) (va_runS (As := [.ref (b 0), .int (nI (d231 % 1001)), .ref cc0]) (rest := []) ⟨hx, hb, hml, hown, hts⟩ (c_L_isMixed l D cY H.size b rr n k vW fR1_14 g cc0 fc (d231 % 1001) (by omega) (by omega) (by omega) (by omega) hcn hck hgn hW (by omega)) (va_cwS 3 hts gL_hall_L_isMixed rfl rfl rfl (by decide +kernel) ⟨Nat.le_of_ble_eq_true rfl, Nat.le_of_ble_eq_true rfl⟩) (b_preS hVK hP hD [0, 1, 6, 4, 5, 7, 8, 30] rfl rfl) rfl rfl hl.1 rfl (lv_room (Nat.le_of_ble_eq_true rfl)) dL_hall_336 ⟨(show _ ≤ 127 by omega), (show _ ≤ 3820 by omega)⟩) hP hD hS hA [0, 1, 6, 4, 5, 7, 8, 30] rfl rfl (fun _ => rfl) (fun r336 uu H locs hq hP hD hS => ?_)
                    obtain ⟨fR1_18, rfl⟩ : ∃ z, z = uu := ⟨_, rfl⟩
                    try dsimp only at hq
                    subst hq
                    have hP : va_P D vwCl ([hO b, cO b (nI n) (nI k), oQ (cY 2) (b 2) (rr 0) 6, gI (cY 0) (rr 0) 12 vG 6, oQ (cY 2) (b 3) (rr 1) 6, gI (cY 0) (rr 1) 6 vW 6, lO b, oQ (cY 3) (b 5) (rr 2) 13, gJ (cY 1) (rr 2) 36 fR1_18 13, oQ (cY 3) (b 6) (rr 3) 13, gJ (cY 1) (rr 3) 6 fH1_17 13, kO b, oQ (cY 3) (b 8) (rr 4) 13, gJ (cY 1) (rr 4) 36 fA1_15 13, oQ (cY 3) (b 9) (rr 5) 13, gJ (cY 1) (rr 5) 64 fS1_16 13, sO b, tO b, [(b 12, .inl (cY 1, 6, .inr (.inl vRs)))], [(b 13, .inl (cY 0, 6, .inl vOt))], [(b 14, .inl (cY 1, 32, .inr (.inl vMi)))], dO b, [(b 16, .inl (cY 0, 6, .inl vEn))], [(b 17, .inl (cY 0, 6, .inl vEb))], gO b, [(b 19, .inl (cY 0, 6, .inl vPy))], oQ (cY 3) (b 20) (rr 6) 13, gJ (cY 1) (rr 6) 6 vB 13, uO b, [(b 22, .inl (cY 0, 6, .inl vCc))], [(cc0, .inl (cY 0, 2, .inl fc))], [(ll0, .inl (cY 0, 60, .inl vl))], [(pp0, .inl (cY 0, 12, .inl vp))]] : List va_W).flatten H := hP
                    have hD : va_D A ([hO b, cO b (nI n) (nI k), oQ (cY 2) (b 2) (rr 0) 6, gI (cY 0) (rr 0) 12 vG 6, oQ (cY 2) (b 3) (rr 1) 6, gI (cY 0) (rr 1) 6 vW 6, lO b, oQ (cY 3) (b 5) (rr 2) 13, gJ (cY 1) (rr 2) 36 fR1_18 13, oQ (cY 3) (b 6) (rr 3) 13, gJ (cY 1) (rr 3) 6 fH1_17 13, kO b, oQ (cY 3) (b 8) (rr 4) 13, gJ (cY 1) (rr 4) 36 fA1_15 13, oQ (cY 3) (b 9) (rr 5) 13, gJ (cY 1) (rr 5) 64 fS1_16 13, sO b, tO b, [(b 12, .inl (cY 1, 6, .inr (.inl vRs)))], [(b 13, .inl (cY 0, 6, .inl vOt))], [(b 14, .inl (cY 1, 32, .inr (.inl vMi)))], dO b, [(b 16, .inl (cY 0, 6, .inl vEn))], [(b 17, .inl (cY 0, 6, .inl vEb))], gO b, [(b 19, .inl (cY 0, 6, .inl vPy))], oQ (cY 3) (b 20) (rr 6) 13, gJ (cY 1) (rr 6) 6 vB 13, uO b, [(b 22, .inl (cY 0, 6, .inl vCc))], [(cc0, .inl (cY 0, 2, .inl fc))], [(ll0, .inl (cY 0, 60, .inl vl))], [(pp0, .inl (cY 0, 12, .inl vp))]] : List va_W).flatten := hD
                    refine b_if_eq (tgt := 346) hx hb dL_hall_339 (by decide) (fun h339 => ?_) (fun h339 => ?_)
                    · -- t
                      exact absurd h339 (by decide)
                    · -- f
                      refine lv_iconst (v := nI 1) hx hb dL_hall_342 (by decide) ?_
                      refine lv_goto (tgt := 347) hx hb dL_hall_343 (by decide) ?_
                      refine lv_istore (lv' := [(6, .int (nI 1)), (10, .int (nI w4)), (9, .int (nI d231)), (8, .int (nI d214)), (0, .ref sc), (1, .int (nI at0)), (2, .ref (b 0)), (3, .ref cc0), (4, .ref ll0), (5, .ref pp0), (7, .int (nI jj))]) hx hb dL_hall_347 hl (by decide) rfl (fun ls hl => ?_)
                      refine lv_goto (tgt := 475) hx hb dL_hall_349 (by decide) ?_
                      refine lv_iinc (v := nI (jj + 1)) (lv' := [(7, .int (nI (jj + 1))), (6, .int (nI 1)), (10, .int (nI w4)), (9, .int (nI d231)), (8, .int (nI d214)), (0, .ref sc), (1, .int (nI at0)), (2, .ref (b 0)), (3, .ref cc0), (4, .ref ll0), (5, .ref pp0)]) hx hb dL_hall_475 hl (k := 10) rfl (nI_1 jj) (by decide) rfl (fun ls hl => ?_)
                      refine lv_goto (tgt := 190) hx hb dL_hall_478 (by decide) ?_
                      refine W.widen (k := 103 + (jj + 1)) (n := 2282 + 64 * (jj + 1)) (by omega) (by omega) ?_
                      exact ih190 (by omega) vG vW fR1_18 fH1_17 fA1_15 fS1_16 vRs vOt vMi vEn vEb vPy vB vCc vl vp (⟨g, col, hLH⟩) _ _ hP hD hS _ (lv_sub hl [5, 6, 7, 8, 9, 10, 1, 0] rfl)
            · -- f
              refine lv_aload_n hx hb dL_hall_247 rfl (lv_at hl 5 rfl) ?_
              refine lv_iload hx hb dL_hall_248 (lv_at hl 2 rfl) ?_
              refine lv_aload_n hx hb dL_hall_250 rfl (lv_at hl 6 rfl) ?_
              refine ca_i (CL := [hO b, cO b (nI n) (nI k), lO b, oQ (cY 2) (b 3) (rr 1) 6, gI (cY 0) (rr 1) 6 vW 6, oQ (cY 3) (b 5) (rr 2) 13, gJ (cY 1) (rr 2) 36 vR 13, oQ (cY 2) (b 2) (rr 0) 6, gI (cY 0) (rr 0) 12 vG 6, sO b, [(cc0, .inl (cY 0, 2, .inl fc))]]) (va_runS (As := [.ref (b 0), .int (nI d214), .ref cc0]) (rest := []) ⟨hx, hb, hml, hown, hts⟩ (c_L_areLaws l D cY H.size b rr n k vW vR vG g cc0 fc d214 (by omega) (by omega) (by omega) (by omega) hcn hck hG hgn hW (by omega)) (va_cwS 3 hts gL_hall_L_areLaws rfl rfl rfl (by decide +kernel) ⟨Nat.le_of_ble_eq_true rfl, Nat.le_of_ble_eq_true rfl⟩) (b_preS hVK hP hD [0, 1, 6, 4, 5, 7, 8, 2, 3, 16, 30] rfl rfl) rfl rfl hl.1 rfl (lv_room (Nat.le_of_ble_eq_true rfl)) dL_hall_251 ⟨(show _ ≤ 127 by omega), (show _ ≤ 3820 by omega)⟩) hP hD hS hA [0, 1, 6, 4, 5, 7, 8, 2, 3, 16, 30] rfl rfl (fun _ => rfl) (fun r251 uu H locs hq hP hD hS => ?_)
              obtain ⟨fR1_19, rfl⟩ : ∃ z, z = uu := ⟨_, rfl⟩
              try dsimp only at hq
              subst hq
              have hP : va_P D vwCl ([hO b, cO b (nI n) (nI k), oQ (cY 2) (b 2) (rr 0) 6, gI (cY 0) (rr 0) 12 vG 6, oQ (cY 2) (b 3) (rr 1) 6, gI (cY 0) (rr 1) 6 vW 6, lO b, oQ (cY 3) (b 5) (rr 2) 13, gJ (cY 1) (rr 2) 36 fR1_19 13, oQ (cY 3) (b 6) (rr 3) 13, gJ (cY 1) (rr 3) 6 vH 13, kO b, oQ (cY 3) (b 8) (rr 4) 13, gJ (cY 1) (rr 4) 36 vA 13, oQ (cY 3) (b 9) (rr 5) 13, gJ (cY 1) (rr 5) 64 vS 13, sO b, tO b, [(b 12, .inl (cY 1, 6, .inr (.inl vRs)))], [(b 13, .inl (cY 0, 6, .inl vOt))], [(b 14, .inl (cY 1, 32, .inr (.inl vMi)))], dO b, [(b 16, .inl (cY 0, 6, .inl vEn))], [(b 17, .inl (cY 0, 6, .inl vEb))], gO b, [(b 19, .inl (cY 0, 6, .inl vPy))], oQ (cY 3) (b 20) (rr 6) 13, gJ (cY 1) (rr 6) 6 vB 13, uO b, [(b 22, .inl (cY 0, 6, .inl vCc))], [(cc0, .inl (cY 0, 2, .inl fc))], [(ll0, .inl (cY 0, 60, .inl vl))], [(pp0, .inl (cY 0, 12, .inl vp))]] : List va_W).flatten H := hP
              have hD : va_D A ([hO b, cO b (nI n) (nI k), oQ (cY 2) (b 2) (rr 0) 6, gI (cY 0) (rr 0) 12 vG 6, oQ (cY 2) (b 3) (rr 1) 6, gI (cY 0) (rr 1) 6 vW 6, lO b, oQ (cY 3) (b 5) (rr 2) 13, gJ (cY 1) (rr 2) 36 fR1_19 13, oQ (cY 3) (b 6) (rr 3) 13, gJ (cY 1) (rr 3) 6 vH 13, kO b, oQ (cY 3) (b 8) (rr 4) 13, gJ (cY 1) (rr 4) 36 vA 13, oQ (cY 3) (b 9) (rr 5) 13, gJ (cY 1) (rr 5) 64 vS 13, sO b, tO b, [(b 12, .inl (cY 1, 6, .inr (.inl vRs)))], [(b 13, .inl (cY 0, 6, .inl vOt))], [(b 14, .inl (cY 1, 32, .inr (.inl vMi)))], dO b, [(b 16, .inl (cY 0, 6, .inl vEn))], [(b 17, .inl (cY 0, 6, .inl vEb))], gO b, [(b 19, .inl (cY 0, 6, .inl vPy))], oQ (cY 3) (b 20) (rr 6) 13, gJ (cY 1) (rr 6) 6 vB 13, uO b, [(b 22, .inl (cY 0, 6, .inl vCc))], [(cc0, .inl (cY 0, 2, .inl fc))], [(ll0, .inl (cY 0, 60, .inl vl))], [(pp0, .inl (cY 0, 12, .inl vp))]] : List va_W).flatten := hD
              refine b_if_eq (tgt := 297) hx hb dL_hall_254 (by decide) (fun h254 => ?_) (fun h254 => ?_)
              · -- t
                exact absurd h254 (by decide)
              · -- f
                refine lv_aload_n hx hb dL_hall_257 rfl (lv_at hl 5 rfl) ?_
                refine lv_iload hx hb dL_hall_258 (lv_at hl 2 rfl) ?_
                refine lv_iconst (v := nI 5) hx hb dL_hall_260 (by decide) ?_
                refine lv_idiv hx hb dL_hall_261 (nI_ne0 (by omega) (by omega)) ?_
                refine eqi (x' := nI (d214 / 5)) (pk_div (by omega) (by omega) (by omega)) ?_
                refine lv_iload hx hb dL_hall_262 (lv_at hl 1 rfl) ?_
                refine lv_aload_n hx hb dL_hall_264 rfl (lv_at hl 6 rfl) ?_
                refine lv_aload hx hb dL_hall_265 (lv_at hl 7 rfl) ?_
                refine lv_aload hx hb dL_hall_267 (lv_at hl 8 rfl) ?_
                refine ca_i (CL := [hO b, cO b (nI n) (nI k), oQ (cY 2) (b 2) (rr 0) 6, gI (cY 0) (rr 0) 12 vG 6, oQ (cY 2) (b 3) (rr 1) 6, gI (cY 0) (rr 1) 6 vW 6, gO b, [(b 19, .inl (cY 0, 6, .inl vPy))], uO b, [(b 22, .inl (cY 0, 6, .inl vCc))], [(cc0, .inl (cY 0, 2, .inl fc))], [(ll0, .inl (cY 0, 60, .inl vl))], [(pp0, .inl (cY 0, 12, .inl vp))]]) (va_runS (As := [.ref (b 0), .int (nI (d214 / 5)), .int (nI d231), .ref cc0, .ref ll0, .ref pp0]) (rest := []) ⟨hx, hb, hml, hown, hts⟩ (c_L_tells l D cY H.size b rr n k vG vW vPy vCc g cc0 fc ll0 vl pp0 vp (d214 / 5) d231 col (by omega) (by omega) (by omega) (by omega) hcn hck (by omega) hLH (by omega) (by omega)) (va_cwS 6 hts gL_hall_L_tells rfl rfl rfl (by decide +kernel) ⟨Nat.le_of_ble_eq_true rfl, Nat.le_of_ble_eq_true rfl⟩) (b_preS hVK hP hD [0, 1, 2, 3, 4, 5, 24, 25, 28, 29, 30, 31, 32] rfl rfl) rfl rfl hl.1 rfl (lv_room (Nat.le_of_ble_eq_true rfl)) dL_hall_269 ⟨(show _ ≤ 127 by omega), (show _ ≤ 3820 by omega)⟩) hP hD hS hA [0, 1, 2, 3, 4, 5, 24, 25, 28, 29, 30, 31, 32] rfl rfl (fun _ => rfl) (fun r269 uu H locs hq hP hD hS => ?_)
                obtain ⟨fG1_20, fW1_21, fPy1_22, fCc1_23, fl1_24, fp1_25⟩ := uu
                try dsimp only at hq
                obtain ⟨rfl, q269⟩ := hq
                have hP : va_P D vwCl ([hO b, cO b (nI n) (nI k), oQ (cY 2) (b 2) (rr 0) 6, gI (cY 0) (rr 0) 12 fG1_20 6, oQ (cY 2) (b 3) (rr 1) 6, gI (cY 0) (rr 1) 6 fW1_21 6, lO b, oQ (cY 3) (b 5) (rr 2) 13, gJ (cY 1) (rr 2) 36 fR1_19 13, oQ (cY 3) (b 6) (rr 3) 13, gJ (cY 1) (rr 3) 6 vH 13, kO b, oQ (cY 3) (b 8) (rr 4) 13, gJ (cY 1) (rr 4) 36 vA 13, oQ (cY 3) (b 9) (rr 5) 13, gJ (cY 1) (rr 5) 64 vS 13, sO b, tO b, [(b 12, .inl (cY 1, 6, .inr (.inl vRs)))], [(b 13, .inl (cY 0, 6, .inl vOt))], [(b 14, .inl (cY 1, 32, .inr (.inl vMi)))], dO b, [(b 16, .inl (cY 0, 6, .inl vEn))], [(b 17, .inl (cY 0, 6, .inl vEb))], gO b, [(b 19, .inl (cY 0, 6, .inl fPy1_22))], oQ (cY 3) (b 20) (rr 6) 13, gJ (cY 1) (rr 6) 6 vB 13, uO b, [(b 22, .inl (cY 0, 6, .inl fCc1_23))], [(cc0, .inl (cY 0, 2, .inl fc))], [(ll0, .inl (cY 0, 60, .inl fl1_24))], [(pp0, .inl (cY 0, 12, .inl fp1_25))]] : List va_W).flatten H := hP
                have hD : va_D A ([hO b, cO b (nI n) (nI k), oQ (cY 2) (b 2) (rr 0) 6, gI (cY 0) (rr 0) 12 fG1_20 6, oQ (cY 2) (b 3) (rr 1) 6, gI (cY 0) (rr 1) 6 fW1_21 6, lO b, oQ (cY 3) (b 5) (rr 2) 13, gJ (cY 1) (rr 2) 36 fR1_19 13, oQ (cY 3) (b 6) (rr 3) 13, gJ (cY 1) (rr 3) 6 vH 13, kO b, oQ (cY 3) (b 8) (rr 4) 13, gJ (cY 1) (rr 4) 36 vA 13, oQ (cY 3) (b 9) (rr 5) 13, gJ (cY 1) (rr 5) 64 vS 13, sO b, tO b, [(b 12, .inl (cY 1, 6, .inr (.inl vRs)))], [(b 13, .inl (cY 0, 6, .inl vOt))], [(b 14, .inl (cY 1, 32, .inr (.inl vMi)))], dO b, [(b 16, .inl (cY 0, 6, .inl vEn))], [(b 17, .inl (cY 0, 6, .inl vEb))], gO b, [(b 19, .inl (cY 0, 6, .inl fPy1_22))], oQ (cY 3) (b 20) (rr 6) 13, gJ (cY 1) (rr 6) 6 vB 13, uO b, [(b 22, .inl (cY 0, 6, .inl fCc1_23))], [(cc0, .inl (cY 0, 2, .inl fc))], [(ll0, .inl (cY 0, 60, .inl fl1_24))], [(pp0, .inl (cY 0, 12, .inl fp1_25))]] : List va_W).flatten := hD
                obtain ⟨g, col, hLH⟩ := q269
                obtain ⟨hLC, hL⟩ := id hLH
                obtain ⟨_, hG, hgn, hW, hPy, hCq⟩ := id hLC
                refine b_if_eq (tgt := 297) hx hb dL_hall_272 (by decide) (fun h272 => ?_) (fun h272 => ?_)
                · -- t
                  exact absurd h272 (by decide)
                · -- f
                  refine lv_aload_n hx hb dL_hall_275 rfl (lv_at hl 5 rfl) ?_
                  refine lv_iload hx hb dL_hall_276 (lv_at hl 1 rfl) ?_
                  refine lv_iconst (v := nI 5) hx hb dL_hall_278 (by decide) ?_
                  refine lv_idiv hx hb dL_hall_279 (nI_ne0 (by omega) (by omega)) ?_
                  refine eqi (x' := nI (d231 / 5)) (pk_div (by omega) (by omega) (by omega)) ?_
                  refine lv_iload hx hb dL_hall_280 (lv_at hl 2 rfl) ?_
                  refine lv_aload_n hx hb dL_hall_282 rfl (lv_at hl 6 rfl) ?_
                  refine lv_aload hx hb dL_hall_283 (lv_at hl 7 rfl) ?_
                  refine lv_aload hx hb dL_hall_285 (lv_at hl 8 rfl) ?_
                  refine ca_i (CL := [hO b, cO b (nI n) (nI k), oQ (cY 2) (b 2) (rr 0) 6, gI (cY 0) (rr 0) 12 fG1_20 6, oQ (cY 2) (b 3) (rr 1) 6, gI (cY 0) (rr 1) 6 fW1_21 6, gO b, [(b 19, .inl (cY 0, 6, .inl fPy1_22))], uO b, [(b 22, .inl (cY 0, 6, .inl fCc1_23))], [(cc0, .inl (cY 0, 2, .inl fc))], [(ll0, .inl (cY 0, 60, .inl fl1_24))], [(pp0, .inl (cY 0, 12, .inl fp1_25))]]) (va_runS (As := [.ref (b 0), .int (nI (d231 / 5)), .int (nI d214), .ref cc0, .ref ll0, .ref pp0]) (rest := []) ⟨hx, hb, hml, hown, hts⟩ (c_L_tells l D cY H.size b rr n k fG1_20 fW1_21 fPy1_22 fCc1_23 g cc0 fc ll0 fl1_24 pp0 fp1_25 (d231 / 5) d214 col (by omega) (by omega) (by omega) (by omega) hcn hck (by omega) hLH (by omega) (by omega)) (va_cwS 6 hts gL_hall_L_tells rfl rfl rfl (by decide +kernel) ⟨Nat.le_of_ble_eq_true rfl, Nat.le_of_ble_eq_true rfl⟩) (b_preS hVK hP hD [0, 1, 2, 3, 4, 5, 24, 25, 28, 29, 30, 31, 32] rfl rfl) rfl rfl hl.1 rfl (lv_room (Nat.le_of_ble_eq_true rfl)) dL_hall_287 ⟨(show _ ≤ 127 by omega), (show _ ≤ 3820 by omega)⟩) hP hD hS hA [0, 1, 2, 3, 4, 5, 24, 25, 28, 29, 30, 31, 32] rfl rfl (fun _ => rfl) (fun r287 uu H locs hq hP hD hS => ?_)
                  obtain ⟨fG1_26, fW1_27, fPy1_28, fCc1_29, fl1_30, fp1_31⟩ := uu
                  try dsimp only at hq
                  obtain ⟨rfl, q287⟩ := hq
                  have hP : va_P D vwCl ([hO b, cO b (nI n) (nI k), oQ (cY 2) (b 2) (rr 0) 6, gI (cY 0) (rr 0) 12 fG1_26 6, oQ (cY 2) (b 3) (rr 1) 6, gI (cY 0) (rr 1) 6 fW1_27 6, lO b, oQ (cY 3) (b 5) (rr 2) 13, gJ (cY 1) (rr 2) 36 fR1_19 13, oQ (cY 3) (b 6) (rr 3) 13, gJ (cY 1) (rr 3) 6 vH 13, kO b, oQ (cY 3) (b 8) (rr 4) 13, gJ (cY 1) (rr 4) 36 vA 13, oQ (cY 3) (b 9) (rr 5) 13, gJ (cY 1) (rr 5) 64 vS 13, sO b, tO b, [(b 12, .inl (cY 1, 6, .inr (.inl vRs)))], [(b 13, .inl (cY 0, 6, .inl vOt))], [(b 14, .inl (cY 1, 32, .inr (.inl vMi)))], dO b, [(b 16, .inl (cY 0, 6, .inl vEn))], [(b 17, .inl (cY 0, 6, .inl vEb))], gO b, [(b 19, .inl (cY 0, 6, .inl fPy1_28))], oQ (cY 3) (b 20) (rr 6) 13, gJ (cY 1) (rr 6) 6 vB 13, uO b, [(b 22, .inl (cY 0, 6, .inl fCc1_29))], [(cc0, .inl (cY 0, 2, .inl fc))], [(ll0, .inl (cY 0, 60, .inl fl1_30))], [(pp0, .inl (cY 0, 12, .inl fp1_31))]] : List va_W).flatten H := hP
                  have hD : va_D A ([hO b, cO b (nI n) (nI k), oQ (cY 2) (b 2) (rr 0) 6, gI (cY 0) (rr 0) 12 fG1_26 6, oQ (cY 2) (b 3) (rr 1) 6, gI (cY 0) (rr 1) 6 fW1_27 6, lO b, oQ (cY 3) (b 5) (rr 2) 13, gJ (cY 1) (rr 2) 36 fR1_19 13, oQ (cY 3) (b 6) (rr 3) 13, gJ (cY 1) (rr 3) 6 vH 13, kO b, oQ (cY 3) (b 8) (rr 4) 13, gJ (cY 1) (rr 4) 36 vA 13, oQ (cY 3) (b 9) (rr 5) 13, gJ (cY 1) (rr 5) 64 vS 13, sO b, tO b, [(b 12, .inl (cY 1, 6, .inr (.inl vRs)))], [(b 13, .inl (cY 0, 6, .inl vOt))], [(b 14, .inl (cY 1, 32, .inr (.inl vMi)))], dO b, [(b 16, .inl (cY 0, 6, .inl vEn))], [(b 17, .inl (cY 0, 6, .inl vEb))], gO b, [(b 19, .inl (cY 0, 6, .inl fPy1_28))], oQ (cY 3) (b 20) (rr 6) 13, gJ (cY 1) (rr 6) 6 vB 13, uO b, [(b 22, .inl (cY 0, 6, .inl fCc1_29))], [(cc0, .inl (cY 0, 2, .inl fc))], [(ll0, .inl (cY 0, 60, .inl fl1_30))], [(pp0, .inl (cY 0, 12, .inl fp1_31))]] : List va_W).flatten := hD
                  obtain ⟨g, col, hLH⟩ := q287
                  obtain ⟨hLC, hL⟩ := id hLH
                  obtain ⟨_, hG, hgn, hW, hPy, hCq⟩ := id hLC
                  refine b_if_eq (tgt := 297) hx hb dL_hall_290 (by decide) (fun h290 => ?_) (fun h290 => ?_)
                  · -- t
                    exact absurd h290 (by decide)
                  · -- f
                    refine lv_iconst (v := nI 1) hx hb dL_hall_293 (by decide) ?_
                    refine lv_goto (tgt := 298) hx hb dL_hall_294 (by decide) ?_
                    refine lv_istore (lv' := [(6, .int (nI 1)), (10, .int (nI w4)), (9, .int (nI d231)), (8, .int (nI d214)), (0, .ref sc), (1, .int (nI at0)), (2, .ref (b 0)), (3, .ref cc0), (4, .ref ll0), (5, .ref pp0), (7, .int (nI jj))]) hx hb dL_hall_298 hl (by decide) rfl (fun ls hl => ?_)
                    refine lv_goto (tgt := 475) hx hb dL_hall_300 (by decide) ?_
                    refine lv_iinc (v := nI (jj + 1)) (lv' := [(7, .int (nI (jj + 1))), (6, .int (nI 1)), (10, .int (nI w4)), (9, .int (nI d231)), (8, .int (nI d214)), (0, .ref sc), (1, .int (nI at0)), (2, .ref (b 0)), (3, .ref cc0), (4, .ref ll0), (5, .ref pp0)]) hx hb dL_hall_475 hl (k := 10) rfl (nI_1 jj) (by decide) rfl (fun ls hl => ?_)
                    refine lv_goto (tgt := 190) hx hb dL_hall_478 (by decide) ?_
                    refine W.widen (k := 103 + (jj + 1)) (n := 2282 + 64 * (jj + 1)) (by omega) (by omega) ?_
                    exact ih190 (by omega) fG1_26 fW1_27 fR1_19 vH vA vS vRs vOt vMi vEn vEb fPy1_28 vB fCc1_29 fl1_30 fp1_31 (⟨g, col, hLH⟩) _ _ hP hD hS _ (lv_sub hl [5, 6, 7, 8, 9, 10, 1, 0] rfl)
      exact L190 0 (by omega) vG0 vW0 fR fH fA fS fRs fOt fMi fEn fEb fPy1_3 fB fCc1_4 vl0 (fun _ => nI 0) (⟨g0, fun _ => 0, hLCa, LSt_e (by omega) hLS⟩) _ _ hP hD hS _ (lv_sub hl [1, 2, 3, 4, 5, 6, 7, 0] rfl)
    · -- f
      refine lv_aload_n hx hb dL_hall_83 rfl (lv_at hl 0 rfl) ?_
      refine lv_iload_n hx hb dL_hall_84 rfl (lv_at hl 1 rfl) ?_
      refine lv_iconst (v := nI 3) hx hb dL_hall_85 (by decide) ?_
      refine lv_iadd hx hb dL_hall_86 ?_
      refine eqi (x' := nI (at0 + 3)) (nI_add _ _) ?_
      refine lv_iload hx hb dL_hall_87 (lv_at hl 7 rfl) ?_
      refine lv_iadd hx hb dL_hall_89 ?_
      refine eqi (x' := nI (at0 + 3 + u)) (nI_add _ _) ?_
      refine lv_ldc (v := 1073741824) hx hb hown (hts (.constant RL 118 1073741824) (by decide +kernel)) dL_hall_90 ?_
      refine eqi (x' := nI 1073741824) (by decide) ?_
      refine ca_i (CL := []) (va_runS (As := [.ref sc, .int (nI (at0 + 3 + u)), .int (nI 1073741824)]) (rest := []) ⟨hx, hb, hml, hown, hts⟩ (c_L_draw l D cY H.size sc L xs (at0 + 3 + u) 1073741824 hL26 (by omega) (by omega) (by omega)) (va_cwS 3 hts gL_hall_L_draw rfl rfl rfl (by decide +kernel) ⟨Nat.le_of_ble_eq_true rfl, Nat.le_of_ble_eq_true rfl⟩) (b_preSc hVA hX hbl hbA hS) rfl rfl hl.1 rfl (lv_room (Nat.le_of_ble_eq_true rfl)) dL_hall_92 ⟨(show _ ≤ 127 by omega), (show _ ≤ 3820 by omega)⟩) hP hD hS hA [] rfl rfl (fun _ => rfl) (fun r92 d92 H locs hq hP hD hS => ?_)
      obtain ⟨rfl, hd92⟩ := hq
      have hP : va_P D vwCl ([hO b, cO b (nI n) (nI k), oQ (cY 2) (b 2) (rr 0) 6, gI (cY 0) (rr 0) 12 vG0 6, oQ (cY 2) (b 3) (rr 1) 6, gI (cY 0) (rr 1) 6 vW0 6, lO b, oQ (cY 3) (b 5) (rr 2) 13, gJ (cY 1) (rr 2) 36 fR 13, oQ (cY 3) (b 6) (rr 3) 13, gJ (cY 1) (rr 3) 6 fH 13, kO b, oQ (cY 3) (b 8) (rr 4) 13, gJ (cY 1) (rr 4) 36 fA 13, oQ (cY 3) (b 9) (rr 5) 13, gJ (cY 1) (rr 5) 64 fS 13, sO b, tO b, [(b 12, .inl (cY 1, 6, .inr (.inl fRs)))], [(b 13, .inl (cY 0, 6, .inl fOt))], [(b 14, .inl (cY 1, 32, .inr (.inl fMi)))], dO b, [(b 16, .inl (cY 0, 6, .inl fEn))], [(b 17, .inl (cY 0, 6, .inl fEb))], gO b, [(b 19, .inl (cY 0, 6, .inl fPy1_3))], oQ (cY 3) (b 20) (rr 6) 13, gJ (cY 1) (rr 6) 6 fB 13, uO b, [(b 22, .inl (cY 0, 6, .inl fCc1_4))], [(cc0, .inl (cY 0, 2, .inl fc))], [(ll0, .inl (cY 0, 60, .inl vl0))], [(pp0, .inl (cY 0, 12, .inl (fun _ => nI 0)))]] : List va_W).flatten H := hP
      have hD : va_D A ([hO b, cO b (nI n) (nI k), oQ (cY 2) (b 2) (rr 0) 6, gI (cY 0) (rr 0) 12 vG0 6, oQ (cY 2) (b 3) (rr 1) 6, gI (cY 0) (rr 1) 6 vW0 6, lO b, oQ (cY 3) (b 5) (rr 2) 13, gJ (cY 1) (rr 2) 36 fR 13, oQ (cY 3) (b 6) (rr 3) 13, gJ (cY 1) (rr 3) 6 fH 13, kO b, oQ (cY 3) (b 8) (rr 4) 13, gJ (cY 1) (rr 4) 36 fA 13, oQ (cY 3) (b 9) (rr 5) 13, gJ (cY 1) (rr 5) 64 fS 13, sO b, tO b, [(b 12, .inl (cY 1, 6, .inr (.inl fRs)))], [(b 13, .inl (cY 0, 6, .inl fOt))], [(b 14, .inl (cY 1, 32, .inr (.inl fMi)))], dO b, [(b 16, .inl (cY 0, 6, .inl fEn))], [(b 17, .inl (cY 0, 6, .inl fEb))], gO b, [(b 19, .inl (cY 0, 6, .inl fPy1_3))], oQ (cY 3) (b 20) (rr 6) 13, gJ (cY 1) (rr 6) 6 fB 13, uO b, [(b 22, .inl (cY 0, 6, .inl fCc1_4))], [(cc0, .inl (cY 0, 2, .inl fc))], [(ll0, .inl (cY 0, 60, .inl vl0))], [(pp0, .inl (cY 0, 12, .inl (fun _ => nI 0)))]] : List va_W).flatten := hD
      refine lv_istore (lv' := [(8, .int (nI d92)), (0, .ref sc), (1, .int (nI at0)), (2, .ref (b 0)), (3, .ref cc0), (4, .ref ll0), (5, .ref pp0), (6, .int (nI 1)), (7, .int (nI u))]) hx hb dL_hall_95 hl (by decide) rfl (fun ls hl => ?_)
      refine lv_iconst (v := nI 0) hx hb dL_hall_97 (by decide) ?_
      refine lv_istore (lv' := [(9, .int (nI 0)), (8, .int (nI d92)), (0, .ref sc), (1, .int (nI at0)), (2, .ref (b 0)), (3, .ref cc0), (4, .ref ll0), (5, .ref pp0), (6, .int (nI 1)), (7, .int (nI u))]) hx hb dL_hall_98 hl (by decide) rfl (fun ls hl => ?_)
      have L100 : ∀ w : Nat, w ≤ k → ∀ (g1 : Nat → Nat → Nat) (vG1 : Nat → Nat → Int32) (vW1 : Nat → Nat → Int32) (vl1 : Nat → Int32) (xx : Nat), (LC n k g1 (fun _ => 0) vG1 vW1 fPy1_3 fCc1_4 (fun _ => nI 0)) → (LSt n k g1 vl1 u w) → (xx ≤ 1073741824 + 8000000 * w) → ∀ (H : Heap) (locs : List Loc), va_P D vwCl ([hO b, cO b (nI n) (nI k), oQ (cY 2) (b 2) (rr 0) 6, gI (cY 0) (rr 0) 12 vG1 6, oQ (cY 2) (b 3) (rr 1) 6, gI (cY 0) (rr 1) 6 vW1 6, lO b, oQ (cY 3) (b 5) (rr 2) 13, gJ (cY 1) (rr 2) 36 fR 13, oQ (cY 3) (b 6) (rr 3) 13, gJ (cY 1) (rr 3) 6 fH 13, kO b, oQ (cY 3) (b 8) (rr 4) 13, gJ (cY 1) (rr 4) 36 fA 13, oQ (cY 3) (b 9) (rr 5) 13, gJ (cY 1) (rr 5) 64 fS 13, sO b, tO b, [(b 12, .inl (cY 1, 6, .inr (.inl fRs)))], [(b 13, .inl (cY 0, 6, .inl fOt))], [(b 14, .inl (cY 1, 32, .inr (.inl fMi)))], dO b, [(b 16, .inl (cY 0, 6, .inl fEn))], [(b 17, .inl (cY 0, 6, .inl fEb))], gO b, [(b 19, .inl (cY 0, 6, .inl fPy1_3))], oQ (cY 3) (b 20) (rr 6) 13, gJ (cY 1) (rr 6) 6 fB 13, uO b, [(b 22, .inl (cY 0, 6, .inl fCc1_4))], [(cc0, .inl (cY 0, 2, .inl fc))], [(ll0, .inl (cY 0, 60, .inl vl1))], [(pp0, .inl (cY 0, 12, .inl (fun _ => nI 0)))]] : List va_W).flatten H → va_D A ([hO b, cO b (nI n) (nI k), oQ (cY 2) (b 2) (rr 0) 6, gI (cY 0) (rr 0) 12 vG1 6, oQ (cY 2) (b 3) (rr 1) 6, gI (cY 0) (rr 1) 6 vW1 6, lO b, oQ (cY 3) (b 5) (rr 2) 13, gJ (cY 1) (rr 2) 36 fR 13, oQ (cY 3) (b 6) (rr 3) 13, gJ (cY 1) (rr 3) 6 fH 13, kO b, oQ (cY 3) (b 8) (rr 4) 13, gJ (cY 1) (rr 4) 36 fA 13, oQ (cY 3) (b 9) (rr 5) 13, gJ (cY 1) (rr 5) 64 fS 13, sO b, tO b, [(b 12, .inl (cY 1, 6, .inr (.inl fRs)))], [(b 13, .inl (cY 0, 6, .inl fOt))], [(b 14, .inl (cY 1, 32, .inr (.inl fMi)))], dO b, [(b 16, .inl (cY 0, 6, .inl fEn))], [(b 17, .inl (cY 0, 6, .inl fEb))], gO b, [(b 19, .inl (cY 0, 6, .inl fPy1_3))], oQ (cY 3) (b 20) (rr 6) 13, gJ (cY 1) (rr 6) 6 fB 13, uO b, [(b 22, .inl (cY 0, 6, .inl fCc1_4))], [(cc0, .inl (cY 0, 2, .inl fc))], [(ll0, .inl (cY 0, 60, .inl vl1))], [(pp0, .inl (cY 0, 12, .inl (fun _ => nI 0)))]] : List va_W).flatten → va_S A s.heap H locs → ∀ (ls : Array Slot), lv_has ls 11 [(0, .ref sc), (1, .int (nI at0)), (2, .ref (b 0)), (3, .ref cc0), (4, .ref ll0), (5, .ref pp0), (6, .int (nI 1)), (7, .int (nI u)), (8, .int (nI xx)), (9, .int (nI w))] → W p l e ({ frames := 10, cells := 127, slots := 3820, locals := 400 }) s m ([.ref sc, .int (nI at0)] : List Value).toArray below meth c H locs 103 2282 Q (F0 m 100 ls []) := by
        refine lpW k ?_
        intro w bdw ih100 g1 vG1 vW1 vl1 xx hLC2 hLS2 hxx H locs hP hD hS ls hl
        obtain ⟨_, hG, hgn, hW, hPy, hCq⟩ := id hLC2
        refine lv_iload hx hb dL_hall_100 (lv_at hl 9 rfl) ?_
        refine lv_aload_n hx hb dL_hall_102 rfl (lv_at hl 3 rfl) ?_
        refine lv_iconst (v := nI 1) hx hb dL_hall_103 (by decide) ?_
        refine b_iald hx hb hK hP 30 0 rfl rfl (by omega) (by decide) dL_hall_104 ?_
        refine eqi (x' := nI k) (hck) ?_
        refine n_icmp_ge (tgt := 181) hx hb dL_hall_105 (by decide) (by omega) (by omega) (fun h105 => ?_) (fun h105 => ?_)
        · -- t
          refine lv_iinc (v := nI (u + 1)) (lv' := [(7, .int (nI (u + 1))), (0, .ref sc), (1, .int (nI at0)), (2, .ref (b 0)), (3, .ref cc0), (4, .ref ll0), (5, .ref pp0), (6, .int (nI 1)), (8, .int (nI xx)), (9, .int (nI w))]) hx hb dL_hall_181 hl (k := 7) rfl (nI_1 u) (by decide) rfl (fun ls hl => ?_)
          refine lv_goto (tgt := 75) hx hb dL_hall_184 (by decide) ?_
          exact ih75 (by omega) g1 vG1 vW1 vl1 hLC2 (LSt_n (by omega) hLS2) _ _ hP hD hS _ (lv_sub hl [1, 2, 3, 4, 5, 6, 7, 0] rfl)
        · -- f
          refine lv_aload hx hb dL_hall_108 (lv_at hl 4 rfl) ?_
          refine lv_bipush (v := nI 10) hx hb dL_hall_110 (by decide) ?_
          refine lv_iload hx hb dL_hall_112 (lv_at hl 7 rfl) ?_
          refine lv_imul hx hb dL_hall_114 ?_
          refine eqi (x' := nI (10 * u)) (pk_mul _ _) ?_
          refine lv_iload hx hb dL_hall_115 (lv_at hl 9 rfl) ?_
          refine lv_iadd hx hb dL_hall_117 ?_
          refine eqi (x' := nI (10 * u + w)) (nI_add _ _) ?_
          refine lv_iload hx hb dL_hall_118 (lv_at hl 8 rfl) ?_
          refine lv_aload_n hx hb dL_hall_120 rfl (lv_at hl 3 rfl) ?_
          refine lv_iconst (v := nI 0) hx hb dL_hall_121 (by decide) ?_
          refine b_iald hx hb hK hP 30 0 rfl rfl (by omega) (by decide) dL_hall_122 ?_
          refine eqi (x' := nI n) (hcn) ?_
          refine lv_irem hx hb dL_hall_123 (nI_ne0 (by omega) (by omega)) ?_
          refine eqi (x' := nI (xx % n)) (pk_rem (by omega) (by omega) (by omega)) ?_
          obtain ⟨y0, ey0⟩ : ∃ q, q = xx % n := ⟨_, rfl⟩
          have hy0 : y0 < n := by rw [ey0]; exact Nat.mod_lt _ (by omega)
          refine eqi (x' := nI y0) (congrArg nI ey0.symm) ?_
          refine b_iast hx hb hK hP hD hS 31 0 rfl rfl (by omega) (by decide) dL_hall_124 (fun H locs hP hD hS => ?_)
          have hP : va_P D vwCl ([hO b, cO b (nI n) (nI k), oQ (cY 2) (b 2) (rr 0) 6, gI (cY 0) (rr 0) 12 vG1 6, oQ (cY 2) (b 3) (rr 1) 6, gI (cY 0) (rr 1) 6 vW1 6, lO b, oQ (cY 3) (b 5) (rr 2) 13, gJ (cY 1) (rr 2) 36 fR 13, oQ (cY 3) (b 6) (rr 3) 13, gJ (cY 1) (rr 3) 6 fH 13, kO b, oQ (cY 3) (b 8) (rr 4) 13, gJ (cY 1) (rr 4) 36 fA 13, oQ (cY 3) (b 9) (rr 5) 13, gJ (cY 1) (rr 5) 64 fS 13, sO b, tO b, [(b 12, .inl (cY 1, 6, .inr (.inl fRs)))], [(b 13, .inl (cY 0, 6, .inl fOt))], [(b 14, .inl (cY 1, 32, .inr (.inl fMi)))], dO b, [(b 16, .inl (cY 0, 6, .inl fEn))], [(b 17, .inl (cY 0, 6, .inl fEb))], gO b, [(b 19, .inl (cY 0, 6, .inl fPy1_3))], oQ (cY 3) (b 20) (rr 6) 13, gJ (cY 1) (rr 6) 6 fB 13, uO b, [(b 22, .inl (cY 0, 6, .inl fCc1_4))], [(cc0, .inl (cY 0, 2, .inl fc))], [(ll0, .inl (cY 0, 60, .inl (upd vl1 (10 * u + w) (nI y0))))], [(pp0, .inl (cY 0, 12, .inl (fun _ => nI 0)))]] : List va_W).flatten H := hP
          have hD : va_D A ([hO b, cO b (nI n) (nI k), oQ (cY 2) (b 2) (rr 0) 6, gI (cY 0) (rr 0) 12 vG1 6, oQ (cY 2) (b 3) (rr 1) 6, gI (cY 0) (rr 1) 6 vW1 6, lO b, oQ (cY 3) (b 5) (rr 2) 13, gJ (cY 1) (rr 2) 36 fR 13, oQ (cY 3) (b 6) (rr 3) 13, gJ (cY 1) (rr 3) 6 fH 13, kO b, oQ (cY 3) (b 8) (rr 4) 13, gJ (cY 1) (rr 4) 36 fA 13, oQ (cY 3) (b 9) (rr 5) 13, gJ (cY 1) (rr 5) 64 fS 13, sO b, tO b, [(b 12, .inl (cY 1, 6, .inr (.inl fRs)))], [(b 13, .inl (cY 0, 6, .inl fOt))], [(b 14, .inl (cY 1, 32, .inr (.inl fMi)))], dO b, [(b 16, .inl (cY 0, 6, .inl fEn))], [(b 17, .inl (cY 0, 6, .inl fEb))], gO b, [(b 19, .inl (cY 0, 6, .inl fPy1_3))], oQ (cY 3) (b 20) (rr 6) 13, gJ (cY 1) (rr 6) 6 fB 13, uO b, [(b 22, .inl (cY 0, 6, .inl fCc1_4))], [(cc0, .inl (cY 0, 2, .inl fc))], [(ll0, .inl (cY 0, 60, .inl (upd vl1 (10 * u + w) (nI y0))))], [(pp0, .inl (cY 0, 12, .inl (fun _ => nI 0)))]] : List va_W).flatten := hD
          refine lv_iload hx hb dL_hall_125 (lv_at hl 6 rfl) ?_
          refine n_if_eq (tgt := 153) hx hb dL_hall_127 (by decide) (by omega) (fun h127 => ?_) (fun h127 => ?_)
          · -- t
            exact absurd h127 (by decide)
          · -- f
            refine lv_aload_n hx hb dL_hall_130 rfl (lv_at hl 2 rfl) ?_
            refine lv_iload hx hb dL_hall_131 (lv_at hl 7 rfl) ?_
            refine lv_iload hx hb dL_hall_133 (lv_at hl 9 rfl) ?_
            refine lv_iload hx hb dL_hall_135 (lv_at hl 8 rfl) ?_
            refine lv_aload_n hx hb dL_hall_137 rfl (lv_at hl 3 rfl) ?_
            refine lv_iconst (v := nI 0) hx hb dL_hall_138 (by decide) ?_
            refine b_iald hx hb hK hP 30 0 rfl rfl (by omega) (by decide) dL_hall_139 ?_
            refine eqi (x' := nI n) (hcn) ?_
            refine lv_irem hx hb dL_hall_140 (nI_ne0 (by omega) (by omega)) ?_
            refine eqi (x' := nI (xx % n)) (pk_rem (by omega) (by omega) (by omega)) ?_
            refine eqi (x' := nI y0) (congrArg nI ey0.symm) ?_
            refine ca_i (CL := [hO b, cO b (nI n) (nI k), oQ (cY 2) (b 2) (rr 0) 6, gI (cY 0) (rr 0) 12 vG1 6, oQ (cY 2) (b 3) (rr 1) 6, gI (cY 0) (rr 1) 6 vW1 6]) (va_runV (As := [.int (nI u), .int (nI w), .int (nI y0)]) (rest := []) ⟨hx, hb, hml, hown, hts⟩ (c_X8_lead_ok l D cY H.size b rr n k vG1 vW1 g1 u w y0 (by omega) (by omega) (by omega) (by omega) hG hgn hW (by omega) (by omega) (by omega)) (cwV 3 hts gL_hall_X8_lead rfl rfl rfl (by decide +kernel) ⟨Nat.le_of_ble_eq_true rfl, Nat.le_of_ble_eq_true rfl⟩) (b_preV hVK hP hD [0, 1, 2, 3, 4, 5] rfl rfl 0 rfl rfl) rfl rfl hl.1 rfl (lv_room (Nat.le_of_ble_eq_true rfl)) dL_hall_141 ⟨(show _ ≤ 127 by omega), (show _ ≤ 3820 by omega)⟩) hP hD hS hA [0, 1, 2, 3, 4, 5] rfl rfl (fun _ => rfl) (fun r141 uu H locs hq hP hD hS => ?_)
            subst hq
            have hP : va_P D vwCl ([hO b, cO b (nI n) (nI k), oQ (cY 2) (b 2) (rr 0) 6, gI (cY 0) (rr 0) 12 (va_up vG1 u (upd (vG1 u) w (nI y0))) 6, oQ (cY 2) (b 3) (rr 1) 6, gI (cY 0) (rr 1) 6 (va_up (va_up vW1 u (upd (vW1 u) (g1 u w) (vW1 u (g1 u w) - nI 1))) u (upd ((va_up vW1 u (upd (vW1 u) (g1 u w) (vW1 u (g1 u w) - nI 1))) u) y0 (((va_up vW1 u (upd (vW1 u) (g1 u w) (vW1 u (g1 u w) - nI 1))) u y0) + nI 1))) 6, lO b, oQ (cY 3) (b 5) (rr 2) 13, gJ (cY 1) (rr 2) 36 fR 13, oQ (cY 3) (b 6) (rr 3) 13, gJ (cY 1) (rr 3) 6 fH 13, kO b, oQ (cY 3) (b 8) (rr 4) 13, gJ (cY 1) (rr 4) 36 fA 13, oQ (cY 3) (b 9) (rr 5) 13, gJ (cY 1) (rr 5) 64 fS 13, sO b, tO b, [(b 12, .inl (cY 1, 6, .inr (.inl fRs)))], [(b 13, .inl (cY 0, 6, .inl fOt))], [(b 14, .inl (cY 1, 32, .inr (.inl fMi)))], dO b, [(b 16, .inl (cY 0, 6, .inl fEn))], [(b 17, .inl (cY 0, 6, .inl fEb))], gO b, [(b 19, .inl (cY 0, 6, .inl fPy1_3))], oQ (cY 3) (b 20) (rr 6) 13, gJ (cY 1) (rr 6) 6 fB 13, uO b, [(b 22, .inl (cY 0, 6, .inl fCc1_4))], [(cc0, .inl (cY 0, 2, .inl fc))], [(ll0, .inl (cY 0, 60, .inl (upd vl1 (10 * u + w) (nI y0))))], [(pp0, .inl (cY 0, 12, .inl (fun _ => nI 0)))]] : List va_W).flatten H := hP
            have hD : va_D A ([hO b, cO b (nI n) (nI k), oQ (cY 2) (b 2) (rr 0) 6, gI (cY 0) (rr 0) 12 (va_up vG1 u (upd (vG1 u) w (nI y0))) 6, oQ (cY 2) (b 3) (rr 1) 6, gI (cY 0) (rr 1) 6 (va_up (va_up vW1 u (upd (vW1 u) (g1 u w) (vW1 u (g1 u w) - nI 1))) u (upd ((va_up vW1 u (upd (vW1 u) (g1 u w) (vW1 u (g1 u w) - nI 1))) u) y0 (((va_up vW1 u (upd (vW1 u) (g1 u w) (vW1 u (g1 u w) - nI 1))) u y0) + nI 1))) 6, lO b, oQ (cY 3) (b 5) (rr 2) 13, gJ (cY 1) (rr 2) 36 fR 13, oQ (cY 3) (b 6) (rr 3) 13, gJ (cY 1) (rr 3) 6 fH 13, kO b, oQ (cY 3) (b 8) (rr 4) 13, gJ (cY 1) (rr 4) 36 fA 13, oQ (cY 3) (b 9) (rr 5) 13, gJ (cY 1) (rr 5) 64 fS 13, sO b, tO b, [(b 12, .inl (cY 1, 6, .inr (.inl fRs)))], [(b 13, .inl (cY 0, 6, .inl fOt))], [(b 14, .inl (cY 1, 32, .inr (.inl fMi)))], dO b, [(b 16, .inl (cY 0, 6, .inl fEn))], [(b 17, .inl (cY 0, 6, .inl fEb))], gO b, [(b 19, .inl (cY 0, 6, .inl fPy1_3))], oQ (cY 3) (b 20) (rr 6) 13, gJ (cY 1) (rr 6) 6 fB 13, uO b, [(b 22, .inl (cY 0, 6, .inl fCc1_4))], [(cc0, .inl (cY 0, 2, .inl fc))], [(ll0, .inl (cY 0, 60, .inl (upd vl1 (10 * u + w) (nI y0))))], [(pp0, .inl (cY 0, 12, .inl (fun _ => nI 0)))]] : List va_W).flatten := hD
            refine eqi (x' := nI u) (congrArg nI (hLS2.2 u w (by omega) (by omega) (by omega))) ?_
            refine lv_iload hx hb dL_hall_144 (lv_at hl 7 rfl) ?_
            refine n_icmp_ne (tgt := 153) hx hb dL_hall_146 (by decide) (by omega) (by omega) (fun h146 => ?_) (fun h146 => ?_)
            · -- t
              exact absurd rfl h146
            · -- f
              refine lv_iconst (v := nI 1) hx hb dL_hall_149 (by decide) ?_
              refine lv_goto (tgt := 154) hx hb dL_hall_150 (by decide) ?_
              refine lv_istore (lv' := [(6, .int (nI 1)), (0, .ref sc), (1, .int (nI at0)), (2, .ref (b 0)), (3, .ref cc0), (4, .ref ll0), (5, .ref pp0), (7, .int (nI u)), (8, .int (nI xx)), (9, .int (nI w))]) hx hb dL_hall_154 hl (by decide) rfl (fun ls hl => ?_)
              refine lv_iload hx hb dL_hall_156 (lv_at hl 8 rfl) ?_
              refine lv_aload_n hx hb dL_hall_158 rfl (lv_at hl 4 rfl) ?_
              refine lv_iconst (v := nI 0) hx hb dL_hall_159 (by decide) ?_
              refine b_iald hx hb hK hP 30 0 rfl rfl (by omega) (by decide) dL_hall_160 ?_
              refine eqi (x' := nI n) (hcn) ?_
              refine lv_idiv hx hb dL_hall_161 (nI_ne0 (by omega) (by omega)) ?_
              refine eqi (x' := nI (xx / n)) (pk_div (by omega) (by omega) (by omega)) ?_
              refine lv_sipush (v := nI 7919) hx hb dL_hall_162 (by decide) ?_
              refine lv_iload hx hb dL_hall_165 (lv_at hl 8 rfl) ?_
              refine lv_sipush (v := nI 1000) hx hb dL_hall_167 (by decide) ?_
              refine lv_irem hx hb dL_hall_170 (nI_ne0 (by omega) (by omega)) ?_
              refine eqi (x' := nI (xx % 1000)) (pk_rem (by omega) (by omega) (by omega)) ?_
              refine lv_imul hx hb dL_hall_171 ?_
              refine eqi (x' := nI (7919 * (xx % 1000))) (pk_mul _ _) ?_
              refine lv_iadd hx hb dL_hall_172 ?_
              refine eqi (x' := nI (xx / n + 7919 * (xx % 1000))) (nI_add _ _) ?_
              refine lv_istore (lv' := [(8, .int (nI (xx / n + 7919 * (xx % 1000)))), (6, .int (nI 1)), (0, .ref sc), (1, .int (nI at0)), (2, .ref (b 0)), (3, .ref cc0), (4, .ref ll0), (5, .ref pp0), (7, .int (nI u)), (9, .int (nI w))]) hx hb dL_hall_173 hl (by decide) rfl (fun ls hl => ?_)
              refine lv_iinc (v := nI (w + 1)) (lv' := [(9, .int (nI (w + 1))), (8, .int (nI (xx / n + 7919 * (xx % 1000)))), (6, .int (nI 1)), (0, .ref sc), (1, .int (nI at0)), (2, .ref (b 0)), (3, .ref cc0), (4, .ref ll0), (5, .ref pp0), (7, .int (nI u))]) hx hb dL_hall_175 hl (k := 9) rfl (nI_1 w) (by decide) rfl (fun ls hl => ?_)
              refine lv_goto (tgt := 100) hx hb dL_hall_178 (by decide) ?_
              exact ih100 (by omega) (g2 g1 u w y0) (va_up vG1 u (upd (vG1 u) w (nI y0))) (va_up (va_up vW1 u (upd (vW1 u) (g1 u w) (vW1 u (g1 u w) - nI 1))) u (upd ((va_up vW1 u (upd (vW1 u) (g1 u w) (vW1 u (g1 u w) - nI 1))) u) y0 (((va_up vW1 u (upd (vW1 u) (g1 u w) (vW1 u (g1 u w) - nI 1))) u y0) + nI 1))) (upd vl1 (10 * u + w) (nI y0)) (xx / n + 7919 * (xx % 1000)) (LC_lead hLC2 (by omega) (by omega) (by omega)) (LSt_s hk10 (by omega) hLS2) (by have hdv := Nat.div_le_self xx n; omega) _ _ hP hD hS _ (lv_sub hl [3, 4, 5, 6, 7, 8, 2, 9, 1, 0] rfl)
      exact L100 0 (by omega) g0 vG0 vW0 vl0 d92 hLCa hLS (by omega) _ _ hP hD hS _ (lv_sub hl [2, 3, 4, 5, 6, 7, 8, 9, 1, 0] rfl)
  exact L75 0 (by omega) (fun i _ => i) fG1_1 fW1_2 (fun _ => nI 0) hLC0 LSt_0 _ _ hP hD hS _ (lv_sub hl [6, 7, 2, 3, 4, 5, 1, 0] rfl)

