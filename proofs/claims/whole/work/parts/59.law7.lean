set_option maxHeartbeats 8000000 in
set_option maxRecDepth 100000 in
theorem lc_draw {p : Program} {l : Launch} {e : Env} {s : State} {m : MethodId} {below : List Frame} {meth : Method} {c : Code} {H : Heap} {locs : List Loc} {cells slots : Nat} {Q : State → Prop} {D : va_G} {cY : Nat → ClassId} {A : Nat → Prop} {sc L : Nat} {xs : Nat → Int32} {b : Nat → Nat} {rr : Nat → Nat → Nat} {a : Nat → Nat} {oo od z0 : Nat} {ls : Array Slot} (E : LE p s m sc c D cY A L xs) (hlT : l.stackTraces = false) (hi4 : z0 + 4 ≤ L) (hL : L ≤ 2048) (hroom : cells + 1 ≤ room_1.cells ∧ slots + 6 ≤ room_1.slots) {n k : Nat} {g : Nat → Nat → Nat} {col : Nat → Nat} {fG fW : Nat → Nat → Int32} {fR fH fA fS : Nat → Nat → Int64} {fRs : Nat → Int64} {fOt : Nat → Int32} {fMi : Nat → Int64} {fEn fEb fPy : Nat → Int32} {fB : Nat → Nat → Int64} {fCc : Nat → Int32} {th : Int32} {fto fpay fcol : Nat → Int32} {fnow fthn foth fmnr fwts : Nat → Int64} {fmap fnxt : Nat → Int32} {fO : Nat → Int64} {fE : Nat → UInt64} (hI : LV n k g col fG fW fPy fCc fto fpay fcol) (hP : va_P D vwCl (LB cY b rr a oo od n k n k fG fW fR fH fA fS fRs fOt fMi fEn fEb fPy fB fCc th fto fpay fcol fnow fthn foth fmnr fwts fmap fnxt fO fE).flatten H) (hD : va_D A (LB cY b rr a oo od n k n k fG fW fR fH fA fS fRs fOt fMi fEn fEb fPy fB fCc th fto fpay fcol fnow fthn foth fmnr fwts fmap fnxt fO fE).flatten) (hS : va_S A s.heap H locs) (hl : lv_has ls 9 [(5, .int (nI z0)), (4, .ref od), (3, .ref oo), (2, .ref (a 0)), (1, .ref (b 0)), (0, .ref sc)]) (K : LK p l e s m below meth c sc D cY A b rr a oo od z0 cells slots Q) : W p l e room_1 s m #[Value.ref sc] below meth c H locs cells slots Q (F0 m 1531 ls []) := by
  obtain ⟨hx, hb, hml, hts, hown, hK, hVK, hA, hX, hH, hsc, hscl, hscA⟩ := E
  obtain ⟨⟨hn1, hn6, hk1, hk12⟩, hG, hgn, hW, hT, hPy, hC6⟩ := id hI
  rcases Bool.eq_false_or_eq_true (inR (xs (z0 + 1)) (nI 0) (nI 65520)) with hc1 | hc1
  · -- holds
    obtain ⟨x, hx_, e1⟩ := inR_of (by omega) hc1
    refine lv_aload_n hx hb dL_law__1531 rfl (lv_at hl 4 rfl) ?_
    refine lv_aload_n hx hb dL_law__1532 rfl (lv_at hl 5 rfl) ?_
    refine lv_iload hx hb dL_law__1533 (lv_at hl 0 rfl) ?_
    refine lv_iconst (v := nI 1) hx hb dL_law__1535 (by decide) ?_
    refine lv_iadd hx hb dL_law__1536 ?_
    refine eqi (x' := nI (z0 + 1)) (nI_add _ _) ?_
    refine s_ld hx hb hsc hscl hscA hS (by omega) hL dL_law__1537 ?_
    refine eqi (x' := nI x) e1 ?_
    refine lv_aload_n hx hb dL_law__1538 rfl (lv_at hl 2 rfl) ?_
    refine hh_i (CL := [hO b, cO b (nI n) (nI k), dO b, oQ (cY 2) (b 2) (rr 0) 6, gI (cY 0) (rr 0) 12 fG 6, [(b 16, .inl (cY 0, 6, .inl fEn))], [(b 17, .inl (cY 0, 6, .inl fEb))], [(oo, .inl (cY 1, 1, .inr (.inl fO)))]]) (vx_runSX (As := [.ref (b 0), .int (nI x), .ref oo]) (rest := []) ⟨hx, hb, hml, hown, hts⟩ (c_L_draw_ok l D cY H.size b rr n k fG fEn fEb g x oo fO (by omega) (by omega) (by omega) (by omega) hG hgn (by omega)) (vx_cwSW 3 hts gL_law__L_draw rfl rfl rfl (by decide +kernel) ⟨Nat.le_of_ble_eq_true rfl, Nat.le_of_ble_eq_true rfl⟩) (b_preHS hVK hP hD hS hA hX hH [0, 1, 21, 2, 3, 22, 23, 41] rfl rfl) rfl rfl hl.1 rfl (lv_room (Nat.le_of_ble_eq_true rfl)) dL_law__1539 ⟨by omega, by omega⟩) hP hD hS hA [0, 1, 21, 2, 3, 22, 23, 41] rfl rfl (fun _ => rfl) (fun r1539 uu H locs hq hP hD hS => ?_)
    obtain ⟨fEn1_1, fEb1_2⟩ := uu
    try dsimp only at hq
    subst hq
    have hP : va_P D vwCl (LB cY b rr a oo od n k n k fG fW fR fH fA fS fRs fOt fMi fEn1_1 fEb1_2 fPy fB fCc th fto fpay fcol fnow fthn foth fmnr fwts fmap fnxt (vp_updL fO 0 ((dgo g n k x 200 0).toInt64)) fE).flatten H := hP
    have hD : va_D A (LB cY b rr a oo od n k n k fG fW fR fH fA fS fRs fOt fMi fEn1_1 fEb1_2 fPy fB fCc th fto fpay fcol fnow fthn foth fmnr fwts fmap fnxt (vp_updL fO 0 ((dgo g n k x 200 0).toInt64)) fE).flatten := hD
    refine lv_istore (lv' := [(6, .int (nI 0)), (5, .int (nI z0)), (4, .ref od), (3, .ref oo), (2, .ref (a 0)), (1, .ref (b 0)), (0, .ref sc)]) hx hb dL_law__1542 hl (by decide) rfl (fun ls hl => ?_)
    refine lv_aload_n hx hb dL_law__1544 rfl (lv_at hl 4 rfl) ?_
    refine lv_aload_n hx hb dL_law__1545 rfl (lv_at hl 6 rfl) ?_
    refine lv_iload hx hb dL_law__1546 (lv_at hl 1 rfl) ?_
    refine lv_iconst (v := nI 1) hx hb dL_law__1548 (by decide) ?_
    refine lv_iadd hx hb dL_law__1549 ?_
    refine eqi (x' := nI (z0 + 1)) (nI_add _ _) ?_
    refine s_ld hx hb hsc hscl hscA hS (by omega) hL dL_law__1550 ?_
    refine eqi (x' := nI x) e1 ?_
    refine ca_i (CL := [mO a (nI n) (nI k) th, [(a 1, .inl (cY 0, 72, .inl fto))], [(a 9, .inl (cY 0, 6, .inl fmap))], [(a 10, .inl (cY 0, 6, .inl fnxt))]]) (va_runV (As := [.int (nI x)]) (rest := []) ⟨hx, hb, hml, hown, hts⟩ (c_X9_draw l D cY H.size a n k th fto fmap fnxt g x (by omega) (by omega) (by omega) (by omega) hT hgn (by omega)) (cwV 1 hts gL_law__X9_draw rfl rfl rfl (by decide +kernel) ⟨Nat.le_of_ble_eq_true rfl, Nat.le_of_ble_eq_true rfl⟩) (b_preV hVK hP hD [30, 31, 39, 40] rfl rfl 30 rfl rfl) rfl rfl hl.1 rfl (lv_room (Nat.le_of_ble_eq_true rfl)) dL_law__1551 ⟨by omega, by omega⟩) hP hD hS hA [30, 31, 39, 40] rfl rfl (fun _ => rfl) (fun r1551 uu H locs hq hP hD hS => ?_)
    obtain ⟨fmap1_3, fnxt1_4⟩ := uu
    try dsimp only at hq
    subst hq
    have hP : va_P D vwCl (LB cY b rr a oo od n k n k fG fW fR fH fA fS fRs fOt fMi fEn1_1 fEb1_2 fPy fB fCc (nI 0) fto fpay fcol fnow fthn foth fmnr fwts fmap1_3 fnxt1_4 (vp_updL fO 0 ((dgo g n k x 200 0).toInt64)) fE).flatten H := hP
    have hD : va_D A (LB cY b rr a oo od n k n k fG fW fR fH fA fS fRs fOt fMi fEn1_1 fEb1_2 fPy fB fCc (nI 0) fto fpay fcol fnow fthn foth fmnr fwts fmap1_3 fnxt1_4 (vp_updL fO 0 ((dgo g n k x 200 0).toInt64)) fE).flatten := hD
    refine lv_istore (lv' := [(7, .int (dgo g n k x 200 0)), (6, .int (nI 0)), (5, .int (nI z0)), (4, .ref od), (3, .ref oo), (2, .ref (a 0)), (1, .ref (b 0)), (0, .ref sc)]) hx hb dL_law__1554 hl (by decide) rfl (fun ls hl => ?_)
    refine lv_aload_n hx hb dL_law__1556 rfl (lv_at hl 5 rfl) ?_
    refine ca_i (CL := [mO a (nI n) (nI k) (nI 0)]) (va_runV (As := []) (rest := []) ⟨hx, hb, hml, hown, hts⟩ (c_X9_thrown l D cY H.size a n k (nI 0)) (cwV 0 hts gL_law__X9_thrown rfl rfl rfl (by decide +kernel) ⟨Nat.le_of_ble_eq_true rfl, Nat.le_of_ble_eq_true rfl⟩) (b_preV hVK hP hD [30] rfl rfl 30 rfl rfl) rfl rfl hl.1 rfl (lv_room (Nat.le_of_ble_eq_true rfl)) dL_law__1557 ⟨by omega, by omega⟩) hP hD hS hA [30] rfl rfl (fun _ => rfl) (fun r1557 uu H locs hq hP hD hS => ?_)
    subst hq
    have hP : va_P D vwCl (LB cY b rr a oo od n k n k fG fW fR fH fA fS fRs fOt fMi fEn1_1 fEb1_2 fPy fB fCc (nI 0) fto fpay fcol fnow fthn foth fmnr fwts fmap1_3 fnxt1_4 (vp_updL fO 0 ((dgo g n k x 200 0).toInt64)) fE).flatten H := hP
    have hD : va_D A (LB cY b rr a oo od n k n k fG fW fR fH fA fS fRs fOt fMi fEn1_1 fEb1_2 fPy fB fCc (nI 0) fto fpay fcol fnow fthn foth fmnr fwts fmap1_3 fnxt1_4 (vp_updL fO 0 ((dgo g n k x 200 0).toInt64)) fE).flatten := hD
    refine lv_iload hx hb dL_law__1560 (lv_at hl 1 rfl) ?_
    refine n_icmp_eq (tgt := 1567) hx hb dL_law__1562 (by decide) (by omega) (by omega) (fun h1562 => ?_) (fun h1562 => ?_)
    · -- t
      refine lv_iload hx hb dL_law__1567 (lv_at hl 1 rfl) ?_
      refine n_if_ne (tgt := 1584) hx hb dL_law__1569 (by decide) (by omega) (fun h1569 => ?_) (fun h1569 => ?_)
      · -- t
        exact absurd rfl h1569
      · -- f
        refine lv_aload_n hx hb dL_law__1572 rfl (lv_at hl 4 rfl) ?_
        refine lv_iconst (v := nI 0) hx hb dL_law__1573 (by decide) ?_
        refine b_lald hx hb hK hP 41 1 rfl rfl (by omega) (by omega) dL_law__1574 ?_
        refine eql (x' := (dgo g n k x 200 0).toInt64) pk_uLs ?_
        refine lv_iload hx hb dL_law__1575 (lv_at hl 0 rfl) ?_
        refine lv_i2l (v := (dgo g n k x 200 0).toInt64) hx hb dL_law__1577 rfl ?_
        refine W.lcmp hx hb dL_law__1578 ?_
        refine l_if_eq (tgt := 1584) hx hb dL_law__1579 (by decide) (fun h1579 => ?_) (fun h1579 => ?_)
        · -- t
          refine lv_goto (tgt := 1823) hx hb dL_law__1584 (by decide) ?_
          refine W.widen (Nat.le_add_right cells 1) (Nat.le_add_right slots 6) ?_
          exact K n k g col fG fW fR fH fA fS fRs fOt fMi fEn1_1 fEb1_2 fPy fB fCc (nI 0) fto fpay fcol fnow fthn foth fmnr fwts fmap1_3 fnxt1_4 (vp_updL fO 0 ((dgo g n k x 200 0).toInt64)) fE hI _ _ hP hD hS _ (lv_sub hl [2, 3, 4, 5, 6, 7] rfl)
        · -- f
          exact absurd (rfl) h1579
    · -- f
      exact absurd rfl h1562
  · -- not
    refine lv_aload_n hx hb dL_law__1531 rfl (lv_at hl 4 rfl) ?_
    refine lv_aload_n hx hb dL_law__1532 rfl (lv_at hl 5 rfl) ?_
    refine lv_iload hx hb dL_law__1533 (lv_at hl 0 rfl) ?_
    refine lv_iconst (v := nI 1) hx hb dL_law__1535 (by decide) ?_
    refine lv_iadd hx hb dL_law__1536 ?_
    refine eqi (x' := nI (z0 + 1)) (nI_add _ _) ?_
    refine s_ld hx hb hsc hscl hscA hS (by omega) hL dL_law__1537 ?_
    refine lv_aload_n hx hb dL_law__1538 rfl (lv_at hl 2 rfl) ?_
    refine hh_i (CL := [hO b, cO b (nI n) (nI k), [(oo, .inl (cY 1, 1, .inr (.inl fO)))]]) (vx_runSX (As := [.ref (b 0), .int (xs (z0 + 1)), .ref oo]) (rest := []) ⟨hx, hb, hml, hown, hts⟩ (c_L_draw_bad l D cY H.size b n k (xs (z0 + 1)) oo fO hlT (by omega) (by omega) (by omega) (by omega) hc1) (vx_cwSW 3 hts gL_law__L_draw rfl rfl rfl (by decide +kernel) ⟨Nat.le_of_ble_eq_true rfl, Nat.le_of_ble_eq_true rfl⟩) (b_preHS hVK hP hD hS hA hX hH [0, 1, 41] rfl rfl) rfl rfl hl.1 rfl (lv_room (Nat.le_of_ble_eq_true rfl)) dL_law__1539 ⟨by omega, by omega⟩) hP hD hS hA [0, 1, 41] rfl rfl (fun _ => rfl) (fun r1539 uu H locs hq hP hD hS => ?_)
    subst hq
    have hP : va_P D vwCl (LB cY b rr a oo od n k n k fG fW fR fH fA fS fRs fOt fMi fEn fEb fPy fB fCc th fto fpay fcol fnow fthn foth fmnr fwts fmap fnxt fO fE).flatten H := hP
    have hD : va_D A (LB cY b rr a oo od n k n k fG fW fR fH fA fS fRs fOt fMi fEn fEb fPy fB fCc th fto fpay fcol fnow fthn foth fmnr fwts fmap fnxt fO fE).flatten := hD
    refine lv_istore (lv' := [(6, .int (nI 1)), (5, .int (nI z0)), (4, .ref od), (3, .ref oo), (2, .ref (a 0)), (1, .ref (b 0)), (0, .ref sc)]) hx hb dL_law__1542 hl (by decide) rfl (fun ls hl => ?_)
    refine lv_aload_n hx hb dL_law__1544 rfl (lv_at hl 4 rfl) ?_
    refine lv_aload_n hx hb dL_law__1545 rfl (lv_at hl 6 rfl) ?_
    refine lv_iload hx hb dL_law__1546 (lv_at hl 1 rfl) ?_
    refine lv_iconst (v := nI 1) hx hb dL_law__1548 (by decide) ?_
    refine lv_iadd hx hb dL_law__1549 ?_
    refine eqi (x' := nI (z0 + 1)) (nI_add _ _) ?_
    refine s_ld hx hb hsc hscl hscA hS (by omega) hL dL_law__1550 ?_
    refine ca_i (CL := [mO a (nI n) (nI k) th]) (va_runV (As := [.int (xs (z0 + 1))]) (rest := []) ⟨hx, hb, hml, hown, hts⟩ (c_X9_draw_bad l D cY H.size a n k th (xs (z0 + 1)) (by omega) (by omega) (by omega) (by omega) hc1) (cwV 1 hts gL_law__X9_draw rfl rfl rfl (by decide +kernel) ⟨Nat.le_of_ble_eq_true rfl, Nat.le_of_ble_eq_true rfl⟩) (b_preV hVK hP hD [30] rfl rfl 30 rfl rfl) rfl rfl hl.1 rfl (lv_room (Nat.le_of_ble_eq_true rfl)) dL_law__1551 ⟨by omega, by omega⟩) hP hD hS hA [30] rfl rfl (fun _ => rfl) (fun r1551 uu H locs hq hP hD hS => ?_)
    subst hq
    have hP : va_P D vwCl (LB cY b rr a oo od n k n k fG fW fR fH fA fS fRs fOt fMi fEn fEb fPy fB fCc (nI 1) fto fpay fcol fnow fthn foth fmnr fwts fmap fnxt fO fE).flatten H := hP
    have hD : va_D A (LB cY b rr a oo od n k n k fG fW fR fH fA fS fRs fOt fMi fEn fEb fPy fB fCc (nI 1) fto fpay fcol fnow fthn foth fmnr fwts fmap fnxt fO fE).flatten := hD
    refine lv_istore (lv' := [(7, .int (nI 0)), (6, .int (nI 1)), (5, .int (nI z0)), (4, .ref od), (3, .ref oo), (2, .ref (a 0)), (1, .ref (b 0)), (0, .ref sc)]) hx hb dL_law__1554 hl (by decide) rfl (fun ls hl => ?_)
    refine lv_aload_n hx hb dL_law__1556 rfl (lv_at hl 5 rfl) ?_
    refine ca_i (CL := [mO a (nI n) (nI k) (nI 1)]) (va_runV (As := []) (rest := []) ⟨hx, hb, hml, hown, hts⟩ (c_X9_thrown l D cY H.size a n k (nI 1)) (cwV 0 hts gL_law__X9_thrown rfl rfl rfl (by decide +kernel) ⟨Nat.le_of_ble_eq_true rfl, Nat.le_of_ble_eq_true rfl⟩) (b_preV hVK hP hD [30] rfl rfl 30 rfl rfl) rfl rfl hl.1 rfl (lv_room (Nat.le_of_ble_eq_true rfl)) dL_law__1557 ⟨by omega, by omega⟩) hP hD hS hA [30] rfl rfl (fun _ => rfl) (fun r1557 uu H locs hq hP hD hS => ?_)
    subst hq
    have hP : va_P D vwCl (LB cY b rr a oo od n k n k fG fW fR fH fA fS fRs fOt fMi fEn fEb fPy fB fCc (nI 1) fto fpay fcol fnow fthn foth fmnr fwts fmap fnxt fO fE).flatten H := hP
    have hD : va_D A (LB cY b rr a oo od n k n k fG fW fR fH fA fS fRs fOt fMi fEn fEb fPy fB fCc (nI 1) fto fpay fcol fnow fthn foth fmnr fwts fmap fnxt fO fE).flatten := hD
    refine lv_iload hx hb dL_law__1560 (lv_at hl 1 rfl) ?_
    refine n_icmp_eq (tgt := 1567) hx hb dL_law__1562 (by decide) (by omega) (by omega) (fun h1562 => ?_) (fun h1562 => ?_)
    · -- t
      refine lv_iload hx hb dL_law__1567 (lv_at hl 1 rfl) ?_
      refine n_if_ne (tgt := 1584) hx hb dL_law__1569 (by decide) (by omega) (fun h1569 => ?_) (fun h1569 => ?_)
      · -- t
        refine lv_goto (tgt := 1823) hx hb dL_law__1584 (by decide) ?_
        exact K n k g col fG fW fR fH fA fS fRs fOt fMi fEn fEb fPy fB fCc (nI 1) fto fpay fcol fnow fthn foth fmnr fwts fmap fnxt fO fE hI _ _ hP hD hS _ (lv_sub hl [2, 3, 4, 5, 6, 7] rfl)
      · -- f
        exact absurd h1569 (by decide)
    · -- f
      exact absurd rfl h1562

set_option maxHeartbeats 8000000 in
set_option maxRecDepth 100000 in
theorem lc_drift {p : Program} {l : Launch} {e : Env} {s : State} {m : MethodId} {below : List Frame} {meth : Method} {c : Code} {H : Heap} {locs : List Loc} {cells slots : Nat} {Q : State → Prop} {D : va_G} {cY : Nat → ClassId} {A : Nat → Prop} {sc L : Nat} {xs : Nat → Int32} {b : Nat → Nat} {rr : Nat → Nat → Nat} {a : Nat → Nat} {oo od z0 : Nat} {ls : Array Slot} (E : LE p s m sc c D cY A L xs) (hlT : l.stackTraces = false) (hi4 : z0 + 4 ≤ L) (hL : L ≤ 2048) (hroom : cells + 1 ≤ room_1.cells ∧ slots + 6 ≤ room_1.slots) {n k : Nat} {g : Nat → Nat → Nat} {col : Nat → Nat} {fG fW : Nat → Nat → Int32} {fR fH fA fS : Nat → Nat → Int64} {fRs : Nat → Int64} {fOt : Nat → Int32} {fMi : Nat → Int64} {fEn fEb fPy : Nat → Int32} {fB : Nat → Nat → Int64} {fCc : Nat → Int32} {th : Int32} {fto fpay fcol : Nat → Int32} {fnow fthn foth fmnr fwts : Nat → Int64} {fmap fnxt : Nat → Int32} {fO : Nat → Int64} {fE : Nat → UInt64} (hI : LV n k g col fG fW fPy fCc fto fpay fcol) (hP : va_P D vwCl (LB cY b rr a oo od n k n k fG fW fR fH fA fS fRs fOt fMi fEn fEb fPy fB fCc th fto fpay fcol fnow fthn foth fmnr fwts fmap fnxt fO fE).flatten H) (hD : va_D A (LB cY b rr a oo od n k n k fG fW fR fH fA fS fRs fOt fMi fEn fEb fPy fB fCc th fto fpay fcol fnow fthn foth fmnr fwts fmap fnxt fO fE).flatten) (hS : va_S A s.heap H locs) (hl : lv_has ls 9 [(5, .int (nI z0)), (4, .ref od), (3, .ref oo), (2, .ref (a 0)), (1, .ref (b 0)), (0, .ref sc)]) (K : LK p l e s m below meth c sc D cY A b rr a oo od z0 cells slots Q) : W p l e room_1 s m #[Value.ref sc] below meth c H locs cells slots Q (F0 m 1587 ls []) := by
  obtain ⟨hx, hb, hml, hts, hown, hK, hVK, hA, hX, hH, hsc, hscl, hscA⟩ := E
  obtain ⟨⟨hn1, hn6, hk1, hk12⟩, hG, hgn, hW, hT, hPy, hC6⟩ := id hI
  rcases Bool.eq_false_or_eq_true (inR (xs (z0 + 1)) (nI 0) (nI (n - 1))) with hc1 | hc1
  · -- holds
    obtain ⟨i, hi_, e1⟩ := inR_of (by omega) hc1
    refine lv_aload_n hx hb dL_law__1587 rfl (lv_at hl 4 rfl) ?_
    refine lv_aload_n hx hb dL_law__1588 rfl (lv_at hl 5 rfl) ?_
    refine lv_iload hx hb dL_law__1589 (lv_at hl 0 rfl) ?_
    refine lv_iconst (v := nI 1) hx hb dL_law__1591 (by decide) ?_
    refine lv_iadd hx hb dL_law__1592 ?_
    refine eqi (x' := nI (z0 + 1)) (nI_add _ _) ?_
    refine s_ld hx hb hsc hscl hscA hS (by omega) hL dL_law__1593 ?_
    refine eqi (x' := nI i) e1 ?_
    refine lv_aload_n hx hb dL_law__1594 rfl (lv_at hl 2 rfl) ?_
    refine hh_i (CL := [hO b, cO b (nI n) (nI k), gO b, oQ (cY 2) (b 3) (rr 1) 6, gI (cY 0) (rr 1) 6 fW 6, [(b 19, .inl (cY 0, 6, .inl fPy))], [(oo, .inl (cY 1, 1, .inr (.inl fO)))]]) (vx_runSX (As := [.ref (b 0), .int (nI i), .ref oo]) (rest := []) ⟨hx, hb, hml, hown, hts⟩ (c_L_drift_ok l D cY H.size b rr n k fW fPy g i oo fO (by omega) (by omega) (by omega) (by omega) hW (by omega)) (vx_cwSW 3 hts gL_law__L_drift rfl rfl rfl (by decide +kernel) ⟨Nat.le_of_ble_eq_true rfl, Nat.le_of_ble_eq_true rfl⟩) (b_preHS hVK hP hD hS hA hX hH [0, 1, 24, 4, 5, 25, 41] rfl rfl) rfl rfl hl.1 rfl (lv_room (Nat.le_of_ble_eq_true rfl)) dL_law__1595 ⟨by omega, by omega⟩) hP hD hS hA [0, 1, 24, 4, 5, 25, 41] rfl rfl (fun _ => rfl) (fun r1595 uu H locs hq hP hD hS => ?_)
    subst hq
    have hP : va_P D vwCl (LB cY b rr a oo od n k n k fG fW fR fH fA fS fRs fOt fMi fEn fEb fPy fB fCc th fto fpay fcol fnow fthn foth fmnr fwts fmap fnxt (vp_updL fO 0 (DC fPy g n k i)) fE).flatten H := hP
    have hD : va_D A (LB cY b rr a oo od n k n k fG fW fR fH fA fS fRs fOt fMi fEn fEb fPy fB fCc th fto fpay fcol fnow fthn foth fmnr fwts fmap fnxt (vp_updL fO 0 (DC fPy g n k i)) fE).flatten := hD
    refine lv_istore (lv' := [(6, .int (nI 0)), (5, .int (nI z0)), (4, .ref od), (3, .ref oo), (2, .ref (a 0)), (1, .ref (b 0)), (0, .ref sc)]) hx hb dL_law__1598 hl (by decide) rfl (fun ls hl => ?_)
    refine lv_aload_n hx hb dL_law__1600 rfl (lv_at hl 4 rfl) ?_
    refine lv_aload_n hx hb dL_law__1601 rfl (lv_at hl 6 rfl) ?_
    refine lv_iload hx hb dL_law__1602 (lv_at hl 1 rfl) ?_
    refine lv_iconst (v := nI 1) hx hb dL_law__1604 (by decide) ?_
    refine lv_iadd hx hb dL_law__1605 ?_
    refine eqi (x' := nI (z0 + 1)) (nI_add _ _) ?_
    refine s_ld hx hb hsc hscl hscA hS (by omega) hL dL_law__1606 ?_
    refine eqi (x' := nI i) e1 ?_
    refine ca_l (CL := [mO a (nI n) (nI k) th, [(a 1, .inl (cY 0, 72, .inl fto))], [(a 2, .inl (cY 0, 6, .inl fpay))]]) (va_runV (As := [.int (nI i)]) (rest := []) ⟨hx, hb, hml, hown, hts⟩ (c_X9_drift_ok l D cY H.size a n k th fto fpay g i (by omega) (by omega) (by omega) (by omega) hT hgn (by omega)) (cwV 1 hts gL_law__X9_drift rfl rfl rfl (by decide +kernel) ⟨Nat.le_of_ble_eq_true rfl, Nat.le_of_ble_eq_true rfl⟩) (b_preV hVK hP hD [30, 31, 32] rfl rfl 30 rfl rfl) rfl rfl hl.1 rfl (lv_room (Nat.le_of_ble_eq_true rfl)) dL_law__1607 ⟨by omega, by omega⟩) hP hD hS hA [30, 31, 32] rfl rfl (fun _ => rfl) (fun r1607 uu H locs hq hP hD hS => ?_)
    subst hq
    have hP : va_P D vwCl (LB cY b rr a oo od n k n k fG fW fR fH fA fS fRs fOt fMi fEn fEb fPy fB fCc (nI 0) fto fpay fcol fnow fthn foth fmnr fwts fmap fnxt (vp_updL fO 0 (DC fPy g n k i)) fE).flatten H := hP
    have hD : va_D A (LB cY b rr a oo od n k n k fG fW fR fH fA fS fRs fOt fMi fEn fEb fPy fB fCc (nI 0) fto fpay fcol fnow fthn foth fmnr fwts fmap fnxt (vp_updL fO 0 (DC fPy g n k i)) fE).flatten := hD
    refine lv_lstore (lv' := [(7, .long (DV fpay g k i)), (6, .int (nI 0)), (5, .int (nI z0)), (4, .ref od), (3, .ref oo), (2, .ref (a 0)), (1, .ref (b 0)), (0, .ref sc)]) hx hb dL_law__1610 hl (by decide) rfl (fun ls hl => ?_)
    refine lv_aload_n hx hb dL_law__1612 rfl (lv_at hl 5 rfl) ?_
    refine ca_i (CL := [mO a (nI n) (nI k) (nI 0)]) (va_runV (As := []) (rest := []) ⟨hx, hb, hml, hown, hts⟩ (c_X9_thrown l D cY H.size a n k (nI 0)) (cwV 0 hts gL_law__X9_thrown rfl rfl rfl (by decide +kernel) ⟨Nat.le_of_ble_eq_true rfl, Nat.le_of_ble_eq_true rfl⟩) (b_preV hVK hP hD [30] rfl rfl 30 rfl rfl) rfl rfl hl.1 rfl (lv_room (Nat.le_of_ble_eq_true rfl)) dL_law__1613 ⟨by omega, by omega⟩) hP hD hS hA [30] rfl rfl (fun _ => rfl) (fun r1613 uu H locs hq hP hD hS => ?_)
    subst hq
    have hP : va_P D vwCl (LB cY b rr a oo od n k n k fG fW fR fH fA fS fRs fOt fMi fEn fEb fPy fB fCc (nI 0) fto fpay fcol fnow fthn foth fmnr fwts fmap fnxt (vp_updL fO 0 (DC fPy g n k i)) fE).flatten H := hP
    have hD : va_D A (LB cY b rr a oo od n k n k fG fW fR fH fA fS fRs fOt fMi fEn fEb fPy fB fCc (nI 0) fto fpay fcol fnow fthn foth fmnr fwts fmap fnxt (vp_updL fO 0 (DC fPy g n k i)) fE).flatten := hD
    refine lv_iload hx hb dL_law__1616 (lv_at hl 1 rfl) ?_
    refine n_icmp_eq (tgt := 1623) hx hb dL_law__1618 (by decide) (by omega) (by omega) (fun h1618 => ?_) (fun h1618 => ?_)
    · -- t
      refine lv_iload hx hb dL_law__1623 (lv_at hl 1 rfl) ?_
      refine n_if_ne (tgt := 1639) hx hb dL_law__1625 (by decide) (by omega) (fun h1625 => ?_) (fun h1625 => ?_)
      · -- t
        exact absurd rfl h1625
      · -- f
        refine lv_aload_n hx hb dL_law__1628 rfl (lv_at hl 4 rfl) ?_
        refine lv_iconst (v := nI 0) hx hb dL_law__1629 (by decide) ?_
        refine b_lald hx hb hK hP 41 1 rfl rfl (by omega) (by omega) dL_law__1630 ?_
        refine eql (x' := DC fPy g n k i) pk_uLs ?_
        refine lv_lload hx hb dL_law__1631 (lv_at hl 0 rfl) ?_
        refine W.lcmp hx hb dL_law__1633 ?_
        refine l_if_eq (tgt := 1639) hx hb dL_law__1634 (by decide) (fun h1634 => ?_) (fun h1634 => ?_)
        · -- t
          refine lv_goto (tgt := 1823) hx hb dL_law__1639 (by decide) ?_
          refine W.widen (Nat.le_add_right cells 1) (Nat.le_add_right slots 6) ?_
          exact K n k g col fG fW fR fH fA fS fRs fOt fMi fEn fEb fPy fB fCc (nI 0) fto fpay fcol fnow fthn foth fmnr fwts fmap fnxt (vp_updL fO 0 (DC fPy g n k i)) fE hI _ _ hP hD hS _ (lv_sub hl [2, 3, 4, 5, 6, 7] rfl)
        · -- f
          exact absurd (q_drift hI (by omega)) h1634
    · -- f
      exact absurd rfl h1618
  · -- not
    refine lv_aload_n hx hb dL_law__1587 rfl (lv_at hl 4 rfl) ?_
    refine lv_aload_n hx hb dL_law__1588 rfl (lv_at hl 5 rfl) ?_
    refine lv_iload hx hb dL_law__1589 (lv_at hl 0 rfl) ?_
    refine lv_iconst (v := nI 1) hx hb dL_law__1591 (by decide) ?_
    refine lv_iadd hx hb dL_law__1592 ?_
    refine eqi (x' := nI (z0 + 1)) (nI_add _ _) ?_
    refine s_ld hx hb hsc hscl hscA hS (by omega) hL dL_law__1593 ?_
    refine lv_aload_n hx hb dL_law__1594 rfl (lv_at hl 2 rfl) ?_
    refine hh_i (CL := [hO b, cO b (nI n) (nI k), [(oo, .inl (cY 1, 1, .inr (.inl fO)))]]) (vx_runSX (As := [.ref (b 0), .int (xs (z0 + 1)), .ref oo]) (rest := []) ⟨hx, hb, hml, hown, hts⟩ (c_L_drift_bad l D cY H.size b n k (xs (z0 + 1)) oo fO hlT (by omega) (by omega) (by omega) (by omega) hc1) (vx_cwSW 3 hts gL_law__L_drift rfl rfl rfl (by decide +kernel) ⟨Nat.le_of_ble_eq_true rfl, Nat.le_of_ble_eq_true rfl⟩) (b_preHS hVK hP hD hS hA hX hH [0, 1, 41] rfl rfl) rfl rfl hl.1 rfl (lv_room (Nat.le_of_ble_eq_true rfl)) dL_law__1595 ⟨by omega, by omega⟩) hP hD hS hA [0, 1, 41] rfl rfl (fun _ => rfl) (fun r1595 uu H locs hq hP hD hS => ?_)
    subst hq
    have hP : va_P D vwCl (LB cY b rr a oo od n k n k fG fW fR fH fA fS fRs fOt fMi fEn fEb fPy fB fCc th fto fpay fcol fnow fthn foth fmnr fwts fmap fnxt fO fE).flatten H := hP
    have hD : va_D A (LB cY b rr a oo od n k n k fG fW fR fH fA fS fRs fOt fMi fEn fEb fPy fB fCc th fto fpay fcol fnow fthn foth fmnr fwts fmap fnxt fO fE).flatten := hD
    refine lv_istore (lv' := [(6, .int (nI 1)), (5, .int (nI z0)), (4, .ref od), (3, .ref oo), (2, .ref (a 0)), (1, .ref (b 0)), (0, .ref sc)]) hx hb dL_law__1598 hl (by decide) rfl (fun ls hl => ?_)
    refine lv_aload_n hx hb dL_law__1600 rfl (lv_at hl 4 rfl) ?_
    refine lv_aload_n hx hb dL_law__1601 rfl (lv_at hl 6 rfl) ?_
    refine lv_iload hx hb dL_law__1602 (lv_at hl 1 rfl) ?_
    refine lv_iconst (v := nI 1) hx hb dL_law__1604 (by decide) ?_
    refine lv_iadd hx hb dL_law__1605 ?_
    refine eqi (x' := nI (z0 + 1)) (nI_add _ _) ?_
    refine s_ld hx hb hsc hscl hscA hS (by omega) hL dL_law__1606 ?_
    refine ca_l (CL := [mO a (nI n) (nI k) th]) (va_runV (As := [.int (xs (z0 + 1))]) (rest := []) ⟨hx, hb, hml, hown, hts⟩ (c_X9_drift_bad l D cY H.size a n k th (xs (z0 + 1)) (by omega) (by omega) (by omega) (by omega) hc1) (cwV 1 hts gL_law__X9_drift rfl rfl rfl (by decide +kernel) ⟨Nat.le_of_ble_eq_true rfl, Nat.le_of_ble_eq_true rfl⟩) (b_preV hVK hP hD [30] rfl rfl 30 rfl rfl) rfl rfl hl.1 rfl (lv_room (Nat.le_of_ble_eq_true rfl)) dL_law__1607 ⟨by omega, by omega⟩) hP hD hS hA [30] rfl rfl (fun _ => rfl) (fun r1607 uu H locs hq hP hD hS => ?_)
    subst hq
    have hP : va_P D vwCl (LB cY b rr a oo od n k n k fG fW fR fH fA fS fRs fOt fMi fEn fEb fPy fB fCc (nI 1) fto fpay fcol fnow fthn foth fmnr fwts fmap fnxt fO fE).flatten H := hP
    have hD : va_D A (LB cY b rr a oo od n k n k fG fW fR fH fA fS fRs fOt fMi fEn fEb fPy fB fCc (nI 1) fto fpay fcol fnow fthn foth fmnr fwts fmap fnxt fO fE).flatten := hD
    refine lv_lstore (lv' := [(7, .long (lN 0)), (6, .int (nI 1)), (5, .int (nI z0)), (4, .ref od), (3, .ref oo), (2, .ref (a 0)), (1, .ref (b 0)), (0, .ref sc)]) hx hb dL_law__1610 hl (by decide) rfl (fun ls hl => ?_)
    refine lv_aload_n hx hb dL_law__1612 rfl (lv_at hl 5 rfl) ?_
    refine ca_i (CL := [mO a (nI n) (nI k) (nI 1)]) (va_runV (As := []) (rest := []) ⟨hx, hb, hml, hown, hts⟩ (c_X9_thrown l D cY H.size a n k (nI 1)) (cwV 0 hts gL_law__X9_thrown rfl rfl rfl (by decide +kernel) ⟨Nat.le_of_ble_eq_true rfl, Nat.le_of_ble_eq_true rfl⟩) (b_preV hVK hP hD [30] rfl rfl 30 rfl rfl) rfl rfl hl.1 rfl (lv_room (Nat.le_of_ble_eq_true rfl)) dL_law__1613 ⟨by omega, by omega⟩) hP hD hS hA [30] rfl rfl (fun _ => rfl) (fun r1613 uu H locs hq hP hD hS => ?_)
    subst hq
    have hP : va_P D vwCl (LB cY b rr a oo od n k n k fG fW fR fH fA fS fRs fOt fMi fEn fEb fPy fB fCc (nI 1) fto fpay fcol fnow fthn foth fmnr fwts fmap fnxt fO fE).flatten H := hP
    have hD : va_D A (LB cY b rr a oo od n k n k fG fW fR fH fA fS fRs fOt fMi fEn fEb fPy fB fCc (nI 1) fto fpay fcol fnow fthn foth fmnr fwts fmap fnxt fO fE).flatten := hD
    refine lv_iload hx hb dL_law__1616 (lv_at hl 1 rfl) ?_
    refine n_icmp_eq (tgt := 1623) hx hb dL_law__1618 (by decide) (by omega) (by omega) (fun h1618 => ?_) (fun h1618 => ?_)
    · -- t
      refine lv_iload hx hb dL_law__1623 (lv_at hl 1 rfl) ?_
      refine n_if_ne (tgt := 1639) hx hb dL_law__1625 (by decide) (by omega) (fun h1625 => ?_) (fun h1625 => ?_)
      · -- t
        refine lv_goto (tgt := 1823) hx hb dL_law__1639 (by decide) ?_
        exact K n k g col fG fW fR fH fA fS fRs fOt fMi fEn fEb fPy fB fCc (nI 1) fto fpay fcol fnow fthn foth fmnr fwts fmap fnxt fO fE hI _ _ hP hD hS _ (lv_sub hl [2, 3, 4, 5, 6, 7] rfl)
      · -- f
        exact absurd h1625 (by decide)
    · -- f
      exact absurd rfl h1618

set_option maxHeartbeats 8000000 in
set_option maxRecDepth 100000 in
theorem lc_isFair {p : Program} {l : Launch} {e : Env} {s : State} {m : MethodId} {below : List Frame} {meth : Method} {c : Code} {H : Heap} {locs : List Loc} {cells slots : Nat} {Q : State → Prop} {D : va_G} {cY : Nat → ClassId} {A : Nat → Prop} {sc L : Nat} {xs : Nat → Int32} {b : Nat → Nat} {rr : Nat → Nat → Nat} {a : Nat → Nat} {oo od z0 : Nat} {ls : Array Slot} (E : LE p s m sc c D cY A L xs) (hlT : l.stackTraces = false) (hi4 : z0 + 4 ≤ L) (hL : L ≤ 2048) (hroom : cells + 1 ≤ room_1.cells ∧ slots + 6 ≤ room_1.slots) {n k : Nat} {g : Nat → Nat → Nat} {col : Nat → Nat} {fG fW : Nat → Nat → Int32} {fR fH fA fS : Nat → Nat → Int64} {fRs : Nat → Int64} {fOt : Nat → Int32} {fMi : Nat → Int64} {fEn fEb fPy : Nat → Int32} {fB : Nat → Nat → Int64} {fCc : Nat → Int32} {th : Int32} {fto fpay fcol : Nat → Int32} {fnow fthn foth fmnr fwts : Nat → Int64} {fmap fnxt : Nat → Int32} {fO : Nat → Int64} {fE : Nat → UInt64} (hI : LV n k g col fG fW fPy fCc fto fpay fcol) (hP : va_P D vwCl (LB cY b rr a oo od n k n k fG fW fR fH fA fS fRs fOt fMi fEn fEb fPy fB fCc th fto fpay fcol fnow fthn foth fmnr fwts fmap fnxt fO fE).flatten H) (hD : va_D A (LB cY b rr a oo od n k n k fG fW fR fH fA fS fRs fOt fMi fEn fEb fPy fB fCc th fto fpay fcol fnow fthn foth fmnr fwts fmap fnxt fO fE).flatten) (hS : va_S A s.heap H locs) (hl : lv_has ls 9 [(5, .int (nI z0)), (4, .ref od), (3, .ref oo), (2, .ref (a 0)), (1, .ref (b 0)), (0, .ref sc)]) (K : LK p l e s m below meth c sc D cY A b rr a oo od z0 cells slots Q) : W p l e room_1 s m #[Value.ref sc] below meth c H locs cells slots Q (F0 m 1642 ls []) := by
  obtain ⟨hx, hb, hml, hts, hown, hK, hVK, hA, hX, hH, hsc, hscl, hscA⟩ := E
  obtain ⟨⟨hn1, hn6, hk1, hk12⟩, hG, hgn, hW, hT, hPy, hC6⟩ := id hI
  refine lv_aload_n hx hb dL_law__1642 rfl (lv_at hl 4 rfl) ?_
  refine ca_i (CL := [hO b, cO b (nI n) (nI k), gO b, oQ (cY 2) (b 3) (rr 1) 6, gI (cY 0) (rr 1) 6 fW 6, [(b 19, .inl (cY 0, 6, .inl fPy))]]) (va_runV (As := []) (rest := []) ⟨hx, hb, hml, hown, hts⟩ (c_X8_isFair_ok l D cY H.size b rr n k fW fPy g (by omega) (by omega) (by omega) (by omega) hW) (cwV 0 hts gL_law__X8_isFair rfl rfl rfl (by decide +kernel) ⟨Nat.le_of_ble_eq_true rfl, Nat.le_of_ble_eq_true rfl⟩) (b_preV hVK hP hD [0, 1, 24, 4, 5, 25] rfl rfl 0 rfl rfl) rfl rfl hl.1 rfl (lv_room (Nat.le_of_ble_eq_true rfl)) dL_law__1643 ⟨by omega, by omega⟩) hP hD hS hA [0, 1, 24, 4, 5, 25] rfl rfl (fun _ => rfl) (fun r1643 uu H locs hq hP hD hS => ?_)
  subst hq
  have hP : va_P D vwCl (LB cY b rr a oo od n k n k fG fW fR fH fA fS fRs fOt fMi fEn fEb fPy fB fCc th fto fpay fcol fnow fthn foth fmnr fwts fmap fnxt fO fE).flatten H := hP
  have hD : va_D A (LB cY b rr a oo od n k n k fG fW fR fH fA fS fRs fOt fMi fEn fEb fPy fB fCc th fto fpay fcol fnow fthn foth fmnr fwts fmap fnxt fO fE).flatten := hD
  refine lv_aload_n hx hb dL_law__1646 rfl (lv_at hl 3 rfl) ?_
  refine ca_i (CL := [mO a (nI n) (nI k) th, [(a 1, .inl (cY 0, 72, .inl fto))], [(a 2, .inl (cY 0, 6, .inl fpay))]]) (va_runV (As := []) (rest := [.int (bI (fairC fPy g n k))]) ⟨hx, hb, hml, hown, hts⟩ (c_X9_isFair l D cY H.size a n k th fto fpay g (by omega) (by omega) (by omega) (by omega) hT hgn) (cwV 0 hts gL_law__X9_isFair rfl rfl rfl (by decide +kernel) ⟨Nat.le_of_ble_eq_true rfl, Nat.le_of_ble_eq_true rfl⟩) (b_preV hVK hP hD [30, 31, 32] rfl rfl 30 rfl rfl) rfl rfl hl.1 rfl (lv_room (Nat.le_of_ble_eq_true rfl)) dL_law__1647 ⟨by omega, by omega⟩) hP hD hS hA [30, 31, 32] rfl rfl (fun _ => rfl) (fun r1647 uu H locs hq hP hD hS => ?_)
  subst hq
  have hP : va_P D vwCl (LB cY b rr a oo od n k n k fG fW fR fH fA fS fRs fOt fMi fEn fEb fPy fB fCc (nI 0) fto fpay fcol fnow fthn foth fmnr fwts fmap fnxt fO fE).flatten H := hP
  have hD : va_D A (LB cY b rr a oo od n k n k fG fW fR fH fA fS fRs fOt fMi fEn fEb fPy fB fCc (nI 0) fto fpay fcol fnow fthn foth fmnr fwts fmap fnxt fO fE).flatten := hD
  refine lv_icmp_eq (tgt := 1823) hx hb dL_law__1650 (by decide) (fun h1650 => ?_) (fun h1650 => ?_)
  · -- t
    refine W.widen (Nat.le_add_right cells 1) (Nat.le_add_right slots 6) ?_
    exact K n k g col fG fW fR fH fA fS fRs fOt fMi fEn fEb fPy fB fCc (nI 0) fto fpay fcol fnow fthn foth fmnr fwts fmap fnxt fO fE hI _ _ hP hD hS _ (lv_sub hl [0, 1, 2, 3, 4, 5] rfl)
  · -- f
    exact absurd (congrArg bI (q_fair hI)) h1650

set_option maxHeartbeats 8000000 in
set_option maxRecDepth 100000 in
theorem lc_best {p : Program} {l : Launch} {e : Env} {s : State} {m : MethodId} {below : List Frame} {meth : Method} {c : Code} {H : Heap} {locs : List Loc} {cells slots : Nat} {Q : State → Prop} {D : va_G} {cY : Nat → ClassId} {A : Nat → Prop} {sc L : Nat} {xs : Nat → Int32} {b : Nat → Nat} {rr : Nat → Nat → Nat} {a : Nat → Nat} {oo od z0 : Nat} {ls : Array Slot} (E : LE p s m sc c D cY A L xs) (hlT : l.stackTraces = false) (hi4 : z0 + 4 ≤ L) (hL : L ≤ 2048) (hroom : cells + 1 ≤ room_1.cells ∧ slots + 6 ≤ room_1.slots) {n k : Nat} {g : Nat → Nat → Nat} {col : Nat → Nat} {fG fW : Nat → Nat → Int32} {fR fH fA fS : Nat → Nat → Int64} {fRs : Nat → Int64} {fOt : Nat → Int32} {fMi : Nat → Int64} {fEn fEb fPy : Nat → Int32} {fB : Nat → Nat → Int64} {fCc : Nat → Int32} {th : Int32} {fto fpay fcol : Nat → Int32} {fnow fthn foth fmnr fwts : Nat → Int64} {fmap fnxt : Nat → Int32} {fO : Nat → Int64} {fE : Nat → UInt64} (hI : LV n k g col fG fW fPy fCc fto fpay fcol) (hP : va_P D vwCl (LB cY b rr a oo od n k n k fG fW fR fH fA fS fRs fOt fMi fEn fEb fPy fB fCc th fto fpay fcol fnow fthn foth fmnr fwts fmap fnxt fO fE).flatten H) (hD : va_D A (LB cY b rr a oo od n k n k fG fW fR fH fA fS fRs fOt fMi fEn fEb fPy fB fCc th fto fpay fcol fnow fthn foth fmnr fwts fmap fnxt fO fE).flatten) (hS : va_S A s.heap H locs) (hl : lv_has ls 9 [(5, .int (nI z0)), (4, .ref od), (3, .ref oo), (2, .ref (a 0)), (1, .ref (b 0)), (0, .ref sc)]) (K : LK p l e s m below meth c sc D cY A b rr a oo od z0 cells slots Q) : W p l e room_1 s m #[Value.ref sc] below meth c H locs cells slots Q (F0 m 1655 ls []) := by
  obtain ⟨hx, hb, hml, hts, hown, hK, hVK, hA, hX, hH, hsc, hscl, hscA⟩ := E
  obtain ⟨⟨hn1, hn6, hk1, hk12⟩, hG, hgn, hW, hT, hPy, hC6⟩ := id hI
  rcases Bool.eq_false_or_eq_true (inR (xs (z0 + 1)) (nI 0) (nI (n - 1))) with hc1 | hc1
  · -- holds
    rcases Bool.eq_false_or_eq_true (inR (xs (z0 + 2)) (nI 0) (nI 12)) with hc2 | hc2
    · -- holds
      obtain ⟨i, hi_, e1⟩ := inR_of (by omega) hc1
      obtain ⟨t, ht_, e2⟩ := inR_of (by omega) hc2
      refine lv_aload_n hx hb dL_law__1655 rfl (lv_at hl 4 rfl) ?_
      refine lv_aload_n hx hb dL_law__1656 rfl (lv_at hl 5 rfl) ?_
      refine lv_iload hx hb dL_law__1657 (lv_at hl 0 rfl) ?_
      refine lv_iconst (v := nI 1) hx hb dL_law__1659 (by decide) ?_
      refine lv_iadd hx hb dL_law__1660 ?_
      refine eqi (x' := nI (z0 + 1)) (nI_add _ _) ?_
      refine s_ld hx hb hsc hscl hscA hS (by omega) hL dL_law__1661 ?_
      refine eqi (x' := nI i) e1 ?_
      refine lv_aload_n hx hb dL_law__1662 rfl (lv_at hl 5 rfl) ?_
      refine lv_iload hx hb dL_law__1663 (lv_at hl 0 rfl) ?_
      refine lv_iconst (v := nI 2) hx hb dL_law__1665 (by decide) ?_
      refine lv_iadd hx hb dL_law__1666 ?_
      refine eqi (x' := nI (z0 + 2)) (nI_add _ _) ?_
      refine s_ld hx hb hsc hscl hscA hS (by omega) hL dL_law__1667 ?_
      refine eqi (x' := nI t) e2 ?_
      refine lv_aload_n hx hb dL_law__1668 rfl (lv_at hl 2 rfl) ?_
      refine hh_i (CL := [hO b, cO b (nI n) (nI k), gO b, oQ (cY 2) (b 3) (rr 1) 6, gI (cY 0) (rr 1) 6 fW 6, [(b 19, .inl (cY 0, 6, .inl fPy))], oQ (cY 3) (b 20) (rr 6) 13, gJ (cY 1) (rr 6) 6 fB 13, [(oo, .inl (cY 1, 1, .inr (.inl fO)))]]) (vx_runSX (As := [.ref (b 0), .int (nI i), .int (nI t), .ref oo]) (rest := []) ⟨hx, hb, hml, hown, hts⟩ (c_L_best_ok l D cY H.size b rr n k fW fPy fB g i t oo fO (by omega) (by omega) (by omega) (by omega) hW (by omega) (by omega)) (vx_cwSW 4 hts gL_law__L_best rfl rfl rfl (by decide +kernel) ⟨Nat.le_of_ble_eq_true rfl, Nat.le_of_ble_eq_true rfl⟩) (b_preHS hVK hP hD hS hA hX hH [0, 1, 24, 4, 5, 25, 26, 27, 41] rfl rfl) rfl rfl hl.1 rfl (lv_room (Nat.le_of_ble_eq_true rfl)) dL_law__1669 ⟨by omega, by omega⟩) hP hD hS hA [0, 1, 24, 4, 5, 25, 26, 27, 41] rfl rfl (fun _ => rfl) (fun r1669 uu H locs hq hP hD hS => ?_)
      obtain ⟨fB1_1, rfl⟩ : ∃ z, z = uu := ⟨_, rfl⟩
      try dsimp only at hq
      subst hq
      have hP : va_P D vwCl (LB cY b rr a oo od n k n k fG fW fR fH fA fS fRs fOt fMi fEn fEb fPy fB1_1 fCc th fto fpay fcol fnow fthn foth fmnr fwts fmap fnxt (vp_updL fO 0 (BC fPy g n k t i)) fE).flatten H := hP
      have hD : va_D A (LB cY b rr a oo od n k n k fG fW fR fH fA fS fRs fOt fMi fEn fEb fPy fB1_1 fCc th fto fpay fcol fnow fthn foth fmnr fwts fmap fnxt (vp_updL fO 0 (BC fPy g n k t i)) fE).flatten := hD
      refine lv_istore (lv' := [(6, .int (nI 0)), (5, .int (nI z0)), (4, .ref od), (3, .ref oo), (2, .ref (a 0)), (1, .ref (b 0)), (0, .ref sc)]) hx hb dL_law__1672 hl (by decide) rfl (fun ls hl => ?_)
      refine lv_aload_n hx hb dL_law__1674 rfl (lv_at hl 4 rfl) ?_
      refine lv_aload_n hx hb dL_law__1675 rfl (lv_at hl 6 rfl) ?_
      refine lv_iload hx hb dL_law__1676 (lv_at hl 1 rfl) ?_
      refine lv_iconst (v := nI 1) hx hb dL_law__1678 (by decide) ?_
      refine lv_iadd hx hb dL_law__1679 ?_
      refine eqi (x' := nI (z0 + 1)) (nI_add _ _) ?_
      refine s_ld hx hb hsc hscl hscA hS (by omega) hL dL_law__1680 ?_
      refine eqi (x' := nI i) e1 ?_
      refine lv_aload_n hx hb dL_law__1681 rfl (lv_at hl 6 rfl) ?_
      refine lv_iload hx hb dL_law__1682 (lv_at hl 1 rfl) ?_
      refine lv_iconst (v := nI 2) hx hb dL_law__1684 (by decide) ?_
      refine lv_iadd hx hb dL_law__1685 ?_
      refine eqi (x' := nI (z0 + 2)) (nI_add _ _) ?_
      refine s_ld hx hb hsc hscl hscA hS (by omega) hL dL_law__1686 ?_
      refine eqi (x' := nI t) e2 ?_
      refine ca_l (CL := [mO a (nI n) (nI k) th, [(a 1, .inl (cY 0, 72, .inl fto))], [(a 2, .inl (cY 0, 6, .inl fpay))], [(a 4, .inl (cY 1, 64, .inr (.inl fnow)))], [(a 5, .inl (cY 1, 64, .inr (.inl fthn)))], [(a 6, .inl (cY 1, 6, .inr (.inl foth)))]]) (va_runV (As := [.int (nI i), .int (nI t)]) (rest := []) ⟨hx, hb, hml, hown, hts⟩ (c_X9_best_ok l D cY H.size a n k th fto fpay fnow fthn foth g i t (by omega) (by omega) (by omega) (by omega) hT hgn (by omega) (by omega)) (cwV 2 hts gL_law__X9_best rfl rfl rfl (by decide +kernel) ⟨Nat.le_of_ble_eq_true rfl, Nat.le_of_ble_eq_true rfl⟩) (b_preV hVK hP hD [30, 31, 32, 34, 35, 36] rfl rfl 30 rfl rfl) rfl rfl hl.1 rfl (lv_room (Nat.le_of_ble_eq_true rfl)) dL_law__1687 ⟨by omega, by omega⟩) hP hD hS hA [30, 31, 32, 34, 35, 36] rfl rfl (fun _ => rfl) (fun r1687 uu H locs hq hP hD hS => ?_)
      obtain ⟨fnow1_2, fthn1_3, foth1_4⟩ := uu
      try dsimp only at hq
      subst hq
      have hP : va_P D vwCl (LB cY b rr a oo od n k n k fG fW fR fH fA fS fRs fOt fMi fEn fEb fPy fB1_1 fCc (nI 0) fto fpay fcol fnow1_2 fthn1_3 foth1_4 fmnr fwts fmap fnxt (vp_updL fO 0 (BC fPy g n k t i)) fE).flatten H := hP
      have hD : va_D A (LB cY b rr a oo od n k n k fG fW fR fH fA fS fRs fOt fMi fEn fEb fPy fB1_1 fCc (nI 0) fto fpay fcol fnow1_2 fthn1_3 foth1_4 fmnr fwts fmap fnxt (vp_updL fO 0 (BC fPy g n k t i)) fE).flatten := hD
      refine lv_lstore (lv' := [(7, .long (BV fpay g k t i)), (6, .int (nI 0)), (5, .int (nI z0)), (4, .ref od), (3, .ref oo), (2, .ref (a 0)), (1, .ref (b 0)), (0, .ref sc)]) hx hb dL_law__1690 hl (by decide) rfl (fun ls hl => ?_)
      refine lv_aload_n hx hb dL_law__1692 rfl (lv_at hl 5 rfl) ?_
      refine ca_i (CL := [mO a (nI n) (nI k) (nI 0)]) (va_runV (As := []) (rest := []) ⟨hx, hb, hml, hown, hts⟩ (c_X9_thrown l D cY H.size a n k (nI 0)) (cwV 0 hts gL_law__X9_thrown rfl rfl rfl (by decide +kernel) ⟨Nat.le_of_ble_eq_true rfl, Nat.le_of_ble_eq_true rfl⟩) (b_preV hVK hP hD [30] rfl rfl 30 rfl rfl) rfl rfl hl.1 rfl (lv_room (Nat.le_of_ble_eq_true rfl)) dL_law__1693 ⟨by omega, by omega⟩) hP hD hS hA [30] rfl rfl (fun _ => rfl) (fun r1693 uu H locs hq hP hD hS => ?_)
      subst hq
      have hP : va_P D vwCl (LB cY b rr a oo od n k n k fG fW fR fH fA fS fRs fOt fMi fEn fEb fPy fB1_1 fCc (nI 0) fto fpay fcol fnow1_2 fthn1_3 foth1_4 fmnr fwts fmap fnxt (vp_updL fO 0 (BC fPy g n k t i)) fE).flatten H := hP
      have hD : va_D A (LB cY b rr a oo od n k n k fG fW fR fH fA fS fRs fOt fMi fEn fEb fPy fB1_1 fCc (nI 0) fto fpay fcol fnow1_2 fthn1_3 foth1_4 fmnr fwts fmap fnxt (vp_updL fO 0 (BC fPy g n k t i)) fE).flatten := hD
      refine lv_iload hx hb dL_law__1696 (lv_at hl 1 rfl) ?_
      refine n_icmp_eq (tgt := 1703) hx hb dL_law__1698 (by decide) (by omega) (by omega) (fun h1698 => ?_) (fun h1698 => ?_)
      · -- t
        refine lv_iload hx hb dL_law__1703 (lv_at hl 1 rfl) ?_
        refine n_if_ne (tgt := 1719) hx hb dL_law__1705 (by decide) (by omega) (fun h1705 => ?_) (fun h1705 => ?_)
        · -- t
          exact absurd rfl h1705
        · -- f
          refine lv_aload_n hx hb dL_law__1708 rfl (lv_at hl 4 rfl) ?_
          refine lv_iconst (v := nI 0) hx hb dL_law__1709 (by decide) ?_
          refine b_lald hx hb hK hP 41 1 rfl rfl (by omega) (by omega) dL_law__1710 ?_
          refine eql (x' := BC fPy g n k t i) pk_uLs ?_
          refine lv_lload hx hb dL_law__1711 (lv_at hl 0 rfl) ?_
          refine W.lcmp hx hb dL_law__1713 ?_
          refine l_if_eq (tgt := 1719) hx hb dL_law__1714 (by decide) (fun h1714 => ?_) (fun h1714 => ?_)
          · -- t
            refine lv_goto (tgt := 1823) hx hb dL_law__1719 (by decide) ?_
            refine W.widen (Nat.le_add_right cells 1) (Nat.le_add_right slots 6) ?_
            exact K n k g col fG fW fR fH fA fS fRs fOt fMi fEn fEb fPy fB1_1 fCc (nI 0) fto fpay fcol fnow1_2 fthn1_3 foth1_4 fmnr fwts fmap fnxt (vp_updL fO 0 (BC fPy g n k t i)) fE hI _ _ hP hD hS _ (lv_sub hl [2, 3, 4, 5, 6, 7] rfl)
          · -- f
            exact absurd (q_best hI (by omega)) h1714
      · -- f
        exact absurd rfl h1698
    · -- not
      refine lv_aload_n hx hb dL_law__1655 rfl (lv_at hl 4 rfl) ?_
      refine lv_aload_n hx hb dL_law__1656 rfl (lv_at hl 5 rfl) ?_
      refine lv_iload hx hb dL_law__1657 (lv_at hl 0 rfl) ?_
      refine lv_iconst (v := nI 1) hx hb dL_law__1659 (by decide) ?_
      refine lv_iadd hx hb dL_law__1660 ?_
      refine eqi (x' := nI (z0 + 1)) (nI_add _ _) ?_
      refine s_ld hx hb hsc hscl hscA hS (by omega) hL dL_law__1661 ?_
      refine lv_aload_n hx hb dL_law__1662 rfl (lv_at hl 5 rfl) ?_
      refine lv_iload hx hb dL_law__1663 (lv_at hl 0 rfl) ?_
      refine lv_iconst (v := nI 2) hx hb dL_law__1665 (by decide) ?_
      refine lv_iadd hx hb dL_law__1666 ?_
      refine eqi (x' := nI (z0 + 2)) (nI_add _ _) ?_
      refine s_ld hx hb hsc hscl hscA hS (by omega) hL dL_law__1667 ?_
      refine lv_aload_n hx hb dL_law__1668 rfl (lv_at hl 2 rfl) ?_
      refine hh_i (CL := [hO b, cO b (nI n) (nI k), [(oo, .inl (cY 1, 1, .inr (.inl fO)))]]) (vx_runSX (As := [.ref (b 0), .int (xs (z0 + 1)), .int (xs (z0 + 2)), .ref oo]) (rest := []) ⟨hx, hb, hml, hown, hts⟩ (c_L_best_b2 l D cY H.size b n k (xs (z0 + 1)) (xs (z0 + 2)) oo fO hlT (by omega) (by omega) (by omega) (by omega) hc1 hc2) (vx_cwSW 4 hts gL_law__L_best rfl rfl rfl (by decide +kernel) ⟨Nat.le_of_ble_eq_true rfl, Nat.le_of_ble_eq_true rfl⟩) (b_preHS hVK hP hD hS hA hX hH [0, 1, 41] rfl rfl) rfl rfl hl.1 rfl (lv_room (Nat.le_of_ble_eq_true rfl)) dL_law__1669 ⟨by omega, by omega⟩) hP hD hS hA [0, 1, 41] rfl rfl (fun _ => rfl) (fun r1669 uu H locs hq hP hD hS => ?_)
      subst hq
      have hP : va_P D vwCl (LB cY b rr a oo od n k n k fG fW fR fH fA fS fRs fOt fMi fEn fEb fPy fB fCc th fto fpay fcol fnow fthn foth fmnr fwts fmap fnxt fO fE).flatten H := hP
      have hD : va_D A (LB cY b rr a oo od n k n k fG fW fR fH fA fS fRs fOt fMi fEn fEb fPy fB fCc th fto fpay fcol fnow fthn foth fmnr fwts fmap fnxt fO fE).flatten := hD
      refine lv_istore (lv' := [(6, .int (nI 2)), (5, .int (nI z0)), (4, .ref od), (3, .ref oo), (2, .ref (a 0)), (1, .ref (b 0)), (0, .ref sc)]) hx hb dL_law__1672 hl (by decide) rfl (fun ls hl => ?_)
      refine lv_aload_n hx hb dL_law__1674 rfl (lv_at hl 4 rfl) ?_
      refine lv_aload_n hx hb dL_law__1675 rfl (lv_at hl 6 rfl) ?_
      refine lv_iload hx hb dL_law__1676 (lv_at hl 1 rfl) ?_
      refine lv_iconst (v := nI 1) hx hb dL_law__1678 (by decide) ?_
      refine lv_iadd hx hb dL_law__1679 ?_
      refine eqi (x' := nI (z0 + 1)) (nI_add _ _) ?_
      refine s_ld hx hb hsc hscl hscA hS (by omega) hL dL_law__1680 ?_
      refine lv_aload_n hx hb dL_law__1681 rfl (lv_at hl 6 rfl) ?_
      refine lv_iload hx hb dL_law__1682 (lv_at hl 1 rfl) ?_
      refine lv_iconst (v := nI 2) hx hb dL_law__1684 (by decide) ?_
      refine lv_iadd hx hb dL_law__1685 ?_
      refine eqi (x' := nI (z0 + 2)) (nI_add _ _) ?_
      refine s_ld hx hb hsc hscl hscA hS (by omega) hL dL_law__1686 ?_
      refine ca_l (CL := [mO a (nI n) (nI k) th]) (va_runV (As := [.int (xs (z0 + 1)), .int (xs (z0 + 2))]) (rest := []) ⟨hx, hb, hml, hown, hts⟩ (c_X9_best_b2 l D cY H.size a n k th (xs (z0 + 1)) (xs (z0 + 2)) (by omega) (by omega) (by omega) (by omega) hc1 hc2) (cwV 2 hts gL_law__X9_best rfl rfl rfl (by decide +kernel) ⟨Nat.le_of_ble_eq_true rfl, Nat.le_of_ble_eq_true rfl⟩) (b_preV hVK hP hD [30] rfl rfl 30 rfl rfl) rfl rfl hl.1 rfl (lv_room (Nat.le_of_ble_eq_true rfl)) dL_law__1687 ⟨by omega, by omega⟩) hP hD hS hA [30] rfl rfl (fun _ => rfl) (fun r1687 uu H locs hq hP hD hS => ?_)
      subst hq
      have hP : va_P D vwCl (LB cY b rr a oo od n k n k fG fW fR fH fA fS fRs fOt fMi fEn fEb fPy fB fCc (nI 2) fto fpay fcol fnow fthn foth fmnr fwts fmap fnxt fO fE).flatten H := hP
      have hD : va_D A (LB cY b rr a oo od n k n k fG fW fR fH fA fS fRs fOt fMi fEn fEb fPy fB fCc (nI 2) fto fpay fcol fnow fthn foth fmnr fwts fmap fnxt fO fE).flatten := hD
      refine lv_lstore (lv' := [(7, .long (lN 0)), (6, .int (nI 2)), (5, .int (nI z0)), (4, .ref od), (3, .ref oo), (2, .ref (a 0)), (1, .ref (b 0)), (0, .ref sc)]) hx hb dL_law__1690 hl (by decide) rfl (fun ls hl => ?_)
      refine lv_aload_n hx hb dL_law__1692 rfl (lv_at hl 5 rfl) ?_
      refine ca_i (CL := [mO a (nI n) (nI k) (nI 2)]) (va_runV (As := []) (rest := []) ⟨hx, hb, hml, hown, hts⟩ (c_X9_thrown l D cY H.size a n k (nI 2)) (cwV 0 hts gL_law__X9_thrown rfl rfl rfl (by decide +kernel) ⟨Nat.le_of_ble_eq_true rfl, Nat.le_of_ble_eq_true rfl⟩) (b_preV hVK hP hD [30] rfl rfl 30 rfl rfl) rfl rfl hl.1 rfl (lv_room (Nat.le_of_ble_eq_true rfl)) dL_law__1693 ⟨by omega, by omega⟩) hP hD hS hA [30] rfl rfl (fun _ => rfl) (fun r1693 uu H locs hq hP hD hS => ?_)
      subst hq
      have hP : va_P D vwCl (LB cY b rr a oo od n k n k fG fW fR fH fA fS fRs fOt fMi fEn fEb fPy fB fCc (nI 2) fto fpay fcol fnow fthn foth fmnr fwts fmap fnxt fO fE).flatten H := hP
      have hD : va_D A (LB cY b rr a oo od n k n k fG fW fR fH fA fS fRs fOt fMi fEn fEb fPy fB fCc (nI 2) fto fpay fcol fnow fthn foth fmnr fwts fmap fnxt fO fE).flatten := hD
      refine lv_iload hx hb dL_law__1696 (lv_at hl 1 rfl) ?_
      refine n_icmp_eq (tgt := 1703) hx hb dL_law__1698 (by decide) (by omega) (by omega) (fun h1698 => ?_) (fun h1698 => ?_)
      · -- t
        refine lv_iload hx hb dL_law__1703 (lv_at hl 1 rfl) ?_
        refine n_if_ne (tgt := 1719) hx hb dL_law__1705 (by decide) (by omega) (fun h1705 => ?_) (fun h1705 => ?_)
        · -- t
          refine lv_goto (tgt := 1823) hx hb dL_law__1719 (by decide) ?_
          exact K n k g col fG fW fR fH fA fS fRs fOt fMi fEn fEb fPy fB fCc (nI 2) fto fpay fcol fnow fthn foth fmnr fwts fmap fnxt fO fE hI _ _ hP hD hS _ (lv_sub hl [2, 3, 4, 5, 6, 7] rfl)
        · -- f
          exact absurd h1705 (by decide)
      · -- f
        exact absurd rfl h1698
  · -- not
    refine lv_aload_n hx hb dL_law__1655 rfl (lv_at hl 4 rfl) ?_
    refine lv_aload_n hx hb dL_law__1656 rfl (lv_at hl 5 rfl) ?_
    refine lv_iload hx hb dL_law__1657 (lv_at hl 0 rfl) ?_
    refine lv_iconst (v := nI 1) hx hb dL_law__1659 (by decide) ?_
    refine lv_iadd hx hb dL_law__1660 ?_
    refine eqi (x' := nI (z0 + 1)) (nI_add _ _) ?_
    refine s_ld hx hb hsc hscl hscA hS (by omega) hL dL_law__1661 ?_
    refine lv_aload_n hx hb dL_law__1662 rfl (lv_at hl 5 rfl) ?_
    refine lv_iload hx hb dL_law__1663 (lv_at hl 0 rfl) ?_
    refine lv_iconst (v := nI 2) hx hb dL_law__1665 (by decide) ?_
    refine lv_iadd hx hb dL_law__1666 ?_
    refine eqi (x' := nI (z0 + 2)) (nI_add _ _) ?_
    refine s_ld hx hb hsc hscl hscA hS (by omega) hL dL_law__1667 ?_
    refine lv_aload_n hx hb dL_law__1668 rfl (lv_at hl 2 rfl) ?_
    refine hh_i (CL := [hO b, cO b (nI n) (nI k), [(oo, .inl (cY 1, 1, .inr (.inl fO)))]]) (vx_runSX (As := [.ref (b 0), .int (xs (z0 + 1)), .int (xs (z0 + 2)), .ref oo]) (rest := []) ⟨hx, hb, hml, hown, hts⟩ (c_L_best_b1 l D cY H.size b n k (xs (z0 + 1)) (xs (z0 + 2)) oo fO hlT (by omega) (by omega) (by omega) (by omega) hc1) (vx_cwSW 4 hts gL_law__L_best rfl rfl rfl (by decide +kernel) ⟨Nat.le_of_ble_eq_true rfl, Nat.le_of_ble_eq_true rfl⟩) (b_preHS hVK hP hD hS hA hX hH [0, 1, 41] rfl rfl) rfl rfl hl.1 rfl (lv_room (Nat.le_of_ble_eq_true rfl)) dL_law__1669 ⟨by omega, by omega⟩) hP hD hS hA [0, 1, 41] rfl rfl (fun _ => rfl) (fun r1669 uu H locs hq hP hD hS => ?_)
    subst hq
    have hP : va_P D vwCl (LB cY b rr a oo od n k n k fG fW fR fH fA fS fRs fOt fMi fEn fEb fPy fB fCc th fto fpay fcol fnow fthn foth fmnr fwts fmap fnxt fO fE).flatten H := hP
    have hD : va_D A (LB cY b rr a oo od n k n k fG fW fR fH fA fS fRs fOt fMi fEn fEb fPy fB fCc th fto fpay fcol fnow fthn foth fmnr fwts fmap fnxt fO fE).flatten := hD
    refine lv_istore (lv' := [(6, .int (nI 1)), (5, .int (nI z0)), (4, .ref od), (3, .ref oo), (2, .ref (a 0)), (1, .ref (b 0)), (0, .ref sc)]) hx hb dL_law__1672 hl (by decide) rfl (fun ls hl => ?_)
    refine lv_aload_n hx hb dL_law__1674 rfl (lv_at hl 4 rfl) ?_
    refine lv_aload_n hx hb dL_law__1675 rfl (lv_at hl 6 rfl) ?_
    refine lv_iload hx hb dL_law__1676 (lv_at hl 1 rfl) ?_
    refine lv_iconst (v := nI 1) hx hb dL_law__1678 (by decide) ?_
    refine lv_iadd hx hb dL_law__1679 ?_
    refine eqi (x' := nI (z0 + 1)) (nI_add _ _) ?_
    refine s_ld hx hb hsc hscl hscA hS (by omega) hL dL_law__1680 ?_
    refine lv_aload_n hx hb dL_law__1681 rfl (lv_at hl 6 rfl) ?_
    refine lv_iload hx hb dL_law__1682 (lv_at hl 1 rfl) ?_
    refine lv_iconst (v := nI 2) hx hb dL_law__1684 (by decide) ?_
    refine lv_iadd hx hb dL_law__1685 ?_
    refine eqi (x' := nI (z0 + 2)) (nI_add _ _) ?_
    refine s_ld hx hb hsc hscl hscA hS (by omega) hL dL_law__1686 ?_
    refine ca_l (CL := [mO a (nI n) (nI k) th]) (va_runV (As := [.int (xs (z0 + 1)), .int (xs (z0 + 2))]) (rest := []) ⟨hx, hb, hml, hown, hts⟩ (c_X9_best_b1 l D cY H.size a n k th (xs (z0 + 1)) (xs (z0 + 2)) (by omega) (by omega) (by omega) (by omega) hc1) (cwV 2 hts gL_law__X9_best rfl rfl rfl (by decide +kernel) ⟨Nat.le_of_ble_eq_true rfl, Nat.le_of_ble_eq_true rfl⟩) (b_preV hVK hP hD [30] rfl rfl 30 rfl rfl) rfl rfl hl.1 rfl (lv_room (Nat.le_of_ble_eq_true rfl)) dL_law__1687 ⟨by omega, by omega⟩) hP hD hS hA [30] rfl rfl (fun _ => rfl) (fun r1687 uu H locs hq hP hD hS => ?_)
    subst hq
    have hP : va_P D vwCl (LB cY b rr a oo od n k n k fG fW fR fH fA fS fRs fOt fMi fEn fEb fPy fB fCc (nI 1) fto fpay fcol fnow fthn foth fmnr fwts fmap fnxt fO fE).flatten H := hP
    have hD : va_D A (LB cY b rr a oo od n k n k fG fW fR fH fA fS fRs fOt fMi fEn fEb fPy fB fCc (nI 1) fto fpay fcol fnow fthn foth fmnr fwts fmap fnxt fO fE).flatten := hD
    refine lv_lstore (lv' := [(7, .long (lN 0)), (6, .int (nI 1)), (5, .int (nI z0)), (4, .ref od), (3, .ref oo), (2, .ref (a 0)), (1, .ref (b 0)), (0, .ref sc)]) hx hb dL_law__1690 hl (by decide) rfl (fun ls hl => ?_)
    refine lv_aload_n hx hb dL_law__1692 rfl (lv_at hl 5 rfl) ?_
    refine ca_i (CL := [mO a (nI n) (nI k) (nI 1)]) (va_runV (As := []) (rest := []) ⟨hx, hb, hml, hown, hts⟩ (c_X9_thrown l D cY H.size a n k (nI 1)) (cwV 0 hts gL_law__X9_thrown rfl rfl rfl (by decide +kernel) ⟨Nat.le_of_ble_eq_true rfl, Nat.le_of_ble_eq_true rfl⟩) (b_preV hVK hP hD [30] rfl rfl 30 rfl rfl) rfl rfl hl.1 rfl (lv_room (Nat.le_of_ble_eq_true rfl)) dL_law__1693 ⟨by omega, by omega⟩) hP hD hS hA [30] rfl rfl (fun _ => rfl) (fun r1693 uu H locs hq hP hD hS => ?_)
    subst hq
    have hP : va_P D vwCl (LB cY b rr a oo od n k n k fG fW fR fH fA fS fRs fOt fMi fEn fEb fPy fB fCc (nI 1) fto fpay fcol fnow fthn foth fmnr fwts fmap fnxt fO fE).flatten H := hP
    have hD : va_D A (LB cY b rr a oo od n k n k fG fW fR fH fA fS fRs fOt fMi fEn fEb fPy fB fCc (nI 1) fto fpay fcol fnow fthn foth fmnr fwts fmap fnxt fO fE).flatten := hD
    refine lv_iload hx hb dL_law__1696 (lv_at hl 1 rfl) ?_
    refine n_icmp_eq (tgt := 1703) hx hb dL_law__1698 (by decide) (by omega) (by omega) (fun h1698 => ?_) (fun h1698 => ?_)
    · -- t
      refine lv_iload hx hb dL_law__1703 (lv_at hl 1 rfl) ?_
      refine n_if_ne (tgt := 1719) hx hb dL_law__1705 (by decide) (by omega) (fun h1705 => ?_) (fun h1705 => ?_)
      · -- t
        refine lv_goto (tgt := 1823) hx hb dL_law__1719 (by decide) ?_
        exact K n k g col fG fW fR fH fA fS fRs fOt fMi fEn fEb fPy fB fCc (nI 1) fto fpay fcol fnow fthn foth fmnr fwts fmap fnxt fO fE hI _ _ hP hD hS _ (lv_sub hl [2, 3, 4, 5, 6, 7] rfl)
      · -- f
        exact absurd h1705 (by decide)
    · -- f
      exact absurd rfl h1698

set_option maxHeartbeats 8000000 in
set_option maxRecDepth 100000 in
theorem lc_stops {p : Program} {l : Launch} {e : Env} {s : State} {m : MethodId} {below : List Frame} {meth : Method} {c : Code} {H : Heap} {locs : List Loc} {cells slots : Nat} {Q : State → Prop} {D : va_G} {cY : Nat → ClassId} {A : Nat → Prop} {sc L : Nat} {xs : Nat → Int32} {b : Nat → Nat} {rr : Nat → Nat → Nat} {a : Nat → Nat} {oo od z0 : Nat} {ls : Array Slot} (E : LE p s m sc c D cY A L xs) (hlT : l.stackTraces = false) (hi4 : z0 + 4 ≤ L) (hL : L ≤ 2048) (hroom : cells + 1 ≤ room_1.cells ∧ slots + 6 ≤ room_1.slots) {n k : Nat} {g : Nat → Nat → Nat} {col : Nat → Nat} {fG fW : Nat → Nat → Int32} {fR fH fA fS : Nat → Nat → Int64} {fRs : Nat → Int64} {fOt : Nat → Int32} {fMi : Nat → Int64} {fEn fEb fPy : Nat → Int32} {fB : Nat → Nat → Int64} {fCc : Nat → Int32} {th : Int32} {fto fpay fcol : Nat → Int32} {fnow fthn foth fmnr fwts : Nat → Int64} {fmap fnxt : Nat → Int32} {fO : Nat → Int64} {fE : Nat → UInt64} (hI : LV n k g col fG fW fPy fCc fto fpay fcol) (hP : va_P D vwCl (LB cY b rr a oo od n k n k fG fW fR fH fA fS fRs fOt fMi fEn fEb fPy fB fCc th fto fpay fcol fnow fthn foth fmnr fwts fmap fnxt fO fE).flatten H) (hD : va_D A (LB cY b rr a oo od n k n k fG fW fR fH fA fS fRs fOt fMi fEn fEb fPy fB fCc th fto fpay fcol fnow fthn foth fmnr fwts fmap fnxt fO fE).flatten) (hS : va_S A s.heap H locs) (hl : lv_has ls 9 [(5, .int (nI z0)), (4, .ref od), (3, .ref oo), (2, .ref (a 0)), (1, .ref (b 0)), (0, .ref sc)]) (K : LK p l e s m below meth c sc D cY A b rr a oo od z0 cells slots Q) : W p l e room_1 s m #[Value.ref sc] below meth c H locs cells slots Q (F0 m 1722 ls []) := by
  obtain ⟨hx, hb, hml, hts, hown, hK, hVK, hA, hX, hH, hsc, hscl, hscA⟩ := E
  obtain ⟨⟨hn1, hn6, hk1, hk12⟩, hG, hgn, hW, hT, hPy, hC6⟩ := id hI
  rcases Bool.eq_false_or_eq_true (inR (xs (z0 + 1)) (nI 0) (nI (n - 1))) with hc1 | hc1
  · -- holds
    rcases Bool.eq_false_or_eq_true (inR (xs (z0 + 2)) (nI 0) (nI 12)) with hc2 | hc2
    · -- holds
      obtain ⟨i, hi_, e1⟩ := inR_of (by omega) hc1
      obtain ⟨t, ht_, e2⟩ := inR_of (by omega) hc2
      refine lv_aload_n hx hb dL_law__1722 rfl (lv_at hl 4 rfl) ?_
      refine lv_aload_n hx hb dL_law__1723 rfl (lv_at hl 5 rfl) ?_
      refine lv_iload hx hb dL_law__1724 (lv_at hl 0 rfl) ?_
      refine lv_iconst (v := nI 1) hx hb dL_law__1726 (by decide) ?_
      refine lv_iadd hx hb dL_law__1727 ?_
      refine eqi (x' := nI (z0 + 1)) (nI_add _ _) ?_
      refine s_ld hx hb hsc hscl hscA hS (by omega) hL dL_law__1728 ?_
      refine eqi (x' := nI i) e1 ?_
      refine lv_aload_n hx hb dL_law__1729 rfl (lv_at hl 5 rfl) ?_
      refine lv_iload hx hb dL_law__1730 (lv_at hl 0 rfl) ?_
      refine lv_iconst (v := nI 2) hx hb dL_law__1732 (by decide) ?_
      refine lv_iadd hx hb dL_law__1733 ?_
      refine eqi (x' := nI (z0 + 2)) (nI_add _ _) ?_
      refine s_ld hx hb hsc hscl hscA hS (by omega) hL dL_law__1734 ?_
      refine eqi (x' := nI t) e2 ?_
      refine lv_aload_n hx hb dL_law__1735 rfl (lv_at hl 2 rfl) ?_
      refine hh_i (CL := [hO b, cO b (nI n) (nI k), gO b, oQ (cY 2) (b 3) (rr 1) 6, gI (cY 0) (rr 1) 6 fW 6, [(b 19, .inl (cY 0, 6, .inl fPy))], oQ (cY 3) (b 20) (rr 6) 13, gJ (cY 1) (rr 6) 6 fB 13, [(oo, .inl (cY 1, 1, .inr (.inl fO)))]]) (vx_runSX (As := [.ref (b 0), .int (nI i), .int (nI t), .ref oo]) (rest := []) ⟨hx, hb, hml, hown, hts⟩ (c_L_stops_ok l D cY H.size b rr n k fW fPy fB g i t oo fO (by omega) (by omega) (by omega) (by omega) hW (by omega) (by omega)) (vx_cwSW 4 hts gL_law__L_stops rfl rfl rfl (by decide +kernel) ⟨Nat.le_of_ble_eq_true rfl, Nat.le_of_ble_eq_true rfl⟩) (b_preHS hVK hP hD hS hA hX hH [0, 1, 24, 4, 5, 25, 26, 27, 41] rfl rfl) rfl rfl hl.1 rfl (lv_room (Nat.le_of_ble_eq_true rfl)) dL_law__1736 ⟨by omega, by omega⟩) hP hD hS hA [0, 1, 24, 4, 5, 25, 26, 27, 41] rfl rfl (fun _ => rfl) (fun r1736 uu H locs hq hP hD hS => ?_)
      obtain ⟨fB1_1, rfl⟩ : ∃ z, z = uu := ⟨_, rfl⟩
      try dsimp only at hq
      subst hq
      have hP : va_P D vwCl (LB cY b rr a oo od n k n k fG fW fR fH fA fS fRs fOt fMi fEn fEb fPy fB1_1 fCc th fto fpay fcol fnow fthn foth fmnr fwts fmap fnxt (vp_updL fO 0 (bL (stC fPy g n k i t))) fE).flatten H := hP
      have hD : va_D A (LB cY b rr a oo od n k n k fG fW fR fH fA fS fRs fOt fMi fEn fEb fPy fB1_1 fCc th fto fpay fcol fnow fthn foth fmnr fwts fmap fnxt (vp_updL fO 0 (bL (stC fPy g n k i t))) fE).flatten := hD
      refine lv_istore (lv' := [(6, .int (nI 0)), (5, .int (nI z0)), (4, .ref od), (3, .ref oo), (2, .ref (a 0)), (1, .ref (b 0)), (0, .ref sc)]) hx hb dL_law__1739 hl (by decide) rfl (fun ls hl => ?_)
      refine lv_aload_n hx hb dL_law__1741 rfl (lv_at hl 4 rfl) ?_
      refine lv_aload_n hx hb dL_law__1742 rfl (lv_at hl 6 rfl) ?_
      refine lv_iload hx hb dL_law__1743 (lv_at hl 1 rfl) ?_
      refine lv_iconst (v := nI 1) hx hb dL_law__1745 (by decide) ?_
      refine lv_iadd hx hb dL_law__1746 ?_
      refine eqi (x' := nI (z0 + 1)) (nI_add _ _) ?_
      refine s_ld hx hb hsc hscl hscA hS (by omega) hL dL_law__1747 ?_
      refine eqi (x' := nI i) e1 ?_
      refine lv_aload_n hx hb dL_law__1748 rfl (lv_at hl 6 rfl) ?_
      refine lv_iload hx hb dL_law__1749 (lv_at hl 1 rfl) ?_
      refine lv_iconst (v := nI 2) hx hb dL_law__1751 (by decide) ?_
      refine lv_iadd hx hb dL_law__1752 ?_
      refine eqi (x' := nI (z0 + 2)) (nI_add _ _) ?_
      refine s_ld hx hb hsc hscl hscA hS (by omega) hL dL_law__1753 ?_
      refine eqi (x' := nI t) e2 ?_
      refine ca_i (CL := [mO a (nI n) (nI k) th, [(a 1, .inl (cY 0, 72, .inl fto))], [(a 2, .inl (cY 0, 6, .inl fpay))], [(a 4, .inl (cY 1, 64, .inr (.inl fnow)))], [(a 5, .inl (cY 1, 64, .inr (.inl fthn)))], [(a 6, .inl (cY 1, 6, .inr (.inl foth)))]]) (va_runV (As := [.int (nI i), .int (nI t)]) (rest := []) ⟨hx, hb, hml, hown, hts⟩ (c_X9_stops_ok l D cY H.size a n k th fto fpay fnow fthn foth g i t (by omega) (by omega) (by omega) (by omega) hT hgn (by omega) (by omega)) (cwV 2 hts gL_law__X9_stops rfl rfl rfl (by decide +kernel) ⟨Nat.le_of_ble_eq_true rfl, Nat.le_of_ble_eq_true rfl⟩) (b_preV hVK hP hD [30, 31, 32, 34, 35, 36] rfl rfl 30 rfl rfl) rfl rfl hl.1 rfl (lv_room (Nat.le_of_ble_eq_true rfl)) dL_law__1754 ⟨by omega, by omega⟩) hP hD hS hA [30, 31, 32, 34, 35, 36] rfl rfl (fun _ => rfl) (fun r1754 uu H locs hq hP hD hS => ?_)
      obtain ⟨fnow1_2, fthn1_3, foth1_4⟩ := uu
      try dsimp only at hq
      subst hq
      have hP : va_P D vwCl (LB cY b rr a oo od n k n k fG fW fR fH fA fS fRs fOt fMi fEn fEb fPy fB1_1 fCc (nI 0) fto fpay fcol fnow1_2 fthn1_3 foth1_4 fmnr fwts fmap fnxt (vp_updL fO 0 (bL (stC fPy g n k i t))) fE).flatten H := hP
      have hD : va_D A (LB cY b rr a oo od n k n k fG fW fR fH fA fS fRs fOt fMi fEn fEb fPy fB1_1 fCc (nI 0) fto fpay fcol fnow1_2 fthn1_3 foth1_4 fmnr fwts fmap fnxt (vp_updL fO 0 (bL (stC fPy g n k i t))) fE).flatten := hD
      refine lv_istore (lv' := [(7, .int (bI (stB fpay g k i t))), (6, .int (nI 0)), (5, .int (nI z0)), (4, .ref od), (3, .ref oo), (2, .ref (a 0)), (1, .ref (b 0)), (0, .ref sc)]) hx hb dL_law__1757 hl (by decide) rfl (fun ls hl => ?_)
      refine lv_aload_n hx hb dL_law__1759 rfl (lv_at hl 5 rfl) ?_
      refine ca_i (CL := [mO a (nI n) (nI k) (nI 0)]) (va_runV (As := []) (rest := []) ⟨hx, hb, hml, hown, hts⟩ (c_X9_thrown l D cY H.size a n k (nI 0)) (cwV 0 hts gL_law__X9_thrown rfl rfl rfl (by decide +kernel) ⟨Nat.le_of_ble_eq_true rfl, Nat.le_of_ble_eq_true rfl⟩) (b_preV hVK hP hD [30] rfl rfl 30 rfl rfl) rfl rfl hl.1 rfl (lv_room (Nat.le_of_ble_eq_true rfl)) dL_law__1760 ⟨by omega, by omega⟩) hP hD hS hA [30] rfl rfl (fun _ => rfl) (fun r1760 uu H locs hq hP hD hS => ?_)
      subst hq
      have hP : va_P D vwCl (LB cY b rr a oo od n k n k fG fW fR fH fA fS fRs fOt fMi fEn fEb fPy fB1_1 fCc (nI 0) fto fpay fcol fnow1_2 fthn1_3 foth1_4 fmnr fwts fmap fnxt (vp_updL fO 0 (bL (stC fPy g n k i t))) fE).flatten H := hP
      have hD : va_D A (LB cY b rr a oo od n k n k fG fW fR fH fA fS fRs fOt fMi fEn fEb fPy fB1_1 fCc (nI 0) fto fpay fcol fnow1_2 fthn1_3 foth1_4 fmnr fwts fmap fnxt (vp_updL fO 0 (bL (stC fPy g n k i t))) fE).flatten := hD
      refine lv_iload hx hb dL_law__1763 (lv_at hl 1 rfl) ?_
      refine n_icmp_eq (tgt := 1770) hx hb dL_law__1765 (by decide) (by omega) (by omega) (fun h1765 => ?_) (fun h1765 => ?_)
      · -- t
        refine lv_iload hx hb dL_law__1770 (lv_at hl 1 rfl) ?_
        refine n_if_ne (tgt := 1794) hx hb dL_law__1772 (by decide) (by omega) (fun h1772 => ?_) (fun h1772 => ?_)
        · -- t
          exact absurd rfl h1772
        · -- f
          refine lv_aload_n hx hb dL_law__1775 rfl (lv_at hl 4 rfl) ?_
          refine lv_iconst (v := nI 0) hx hb dL_law__1776 (by decide) ?_
          refine b_lald hx hb hK hP 41 1 rfl rfl (by omega) (by omega) dL_law__1777 ?_
          refine eql (x' := bL (stC fPy g n k i t)) pk_uLs ?_
          refine lv_iload hx hb dL_law__1778 (lv_at hl 0 rfl) ?_
          refine b_if_eq (tgt := 1787) hx hb dL_law__1780 (by decide) (fun h1780 => ?_) (fun h1780 => ?_)
          · -- t
            refine lv_lconst (v := lN 0) hx hb dL_law__1787 (by decide) ?_
            refine W.lcmp hx hb dL_law__1788 ?_
            refine l_if_eq (tgt := 1794) hx hb dL_law__1789 (by decide) (fun h1789 => ?_) (fun h1789 => ?_)
            · -- t
              refine lv_goto (tgt := 1823) hx hb dL_law__1794 (by decide) ?_
              refine W.widen (Nat.le_add_right cells 1) (Nat.le_add_right slots 6) ?_
              exact K n k g col fG fW fR fH fA fS fRs fOt fMi fEn fEb fPy fB1_1 fCc (nI 0) fto fpay fcol fnow1_2 fthn1_3 foth1_4 fmnr fwts fmap fnxt (vp_updL fO 0 (bL (stC fPy g n k i t))) fE hI _ _ hP hD hS _ (lv_sub hl [2, 3, 4, 5, 6, 7] rfl)
            · -- f
              exact absurd (by rw [q_stops hI (by omega), h1780]; rfl) h1789
          · -- f
            refine lv_lconst (v := lN 1) hx hb dL_law__1783 (by decide) ?_
            refine lv_goto (tgt := 1788) hx hb dL_law__1784 (by decide) ?_
            refine W.lcmp hx hb dL_law__1788 ?_
            refine l_if_eq (tgt := 1794) hx hb dL_law__1789 (by decide) (fun h1789 => ?_) (fun h1789 => ?_)
            · -- t
              refine lv_goto (tgt := 1823) hx hb dL_law__1794 (by decide) ?_
              refine W.widen (Nat.le_add_right cells 1) (Nat.le_add_right slots 6) ?_
              exact K n k g col fG fW fR fH fA fS fRs fOt fMi fEn fEb fPy fB1_1 fCc (nI 0) fto fpay fcol fnow1_2 fthn1_3 foth1_4 fmnr fwts fmap fnxt (vp_updL fO 0 (bL (stC fPy g n k i t))) fE hI _ _ hP hD hS _ (lv_sub hl [2, 3, 4, 5, 6, 7] rfl)
            · -- f
              exact absurd (by rw [q_stops hI (by omega), h1780]; rfl) h1789
      · -- f
        exact absurd rfl h1765
    · -- not
      refine lv_aload_n hx hb dL_law__1722 rfl (lv_at hl 4 rfl) ?_
      refine lv_aload_n hx hb dL_law__1723 rfl (lv_at hl 5 rfl) ?_
      refine lv_iload hx hb dL_law__1724 (lv_at hl 0 rfl) ?_
      refine lv_iconst (v := nI 1) hx hb dL_law__1726 (by decide) ?_
      refine lv_iadd hx hb dL_law__1727 ?_
      refine eqi (x' := nI (z0 + 1)) (nI_add _ _) ?_
      refine s_ld hx hb hsc hscl hscA hS (by omega) hL dL_law__1728 ?_
      refine lv_aload_n hx hb dL_law__1729 rfl (lv_at hl 5 rfl) ?_
      refine lv_iload hx hb dL_law__1730 (lv_at hl 0 rfl) ?_
      refine lv_iconst (v := nI 2) hx hb dL_law__1732 (by decide) ?_
      refine lv_iadd hx hb dL_law__1733 ?_
      refine eqi (x' := nI (z0 + 2)) (nI_add _ _) ?_
      refine s_ld hx hb hsc hscl hscA hS (by omega) hL dL_law__1734 ?_
      refine lv_aload_n hx hb dL_law__1735 rfl (lv_at hl 2 rfl) ?_
      refine hh_i (CL := [hO b, cO b (nI n) (nI k), [(oo, .inl (cY 1, 1, .inr (.inl fO)))]]) (vx_runSX (As := [.ref (b 0), .int (xs (z0 + 1)), .int (xs (z0 + 2)), .ref oo]) (rest := []) ⟨hx, hb, hml, hown, hts⟩ (c_L_stops_b2 l D cY H.size b n k (xs (z0 + 1)) (xs (z0 + 2)) oo fO hlT (by omega) (by omega) (by omega) (by omega) hc1 hc2) (vx_cwSW 4 hts gL_law__L_stops rfl rfl rfl (by decide +kernel) ⟨Nat.le_of_ble_eq_true rfl, Nat.le_of_ble_eq_true rfl⟩) (b_preHS hVK hP hD hS hA hX hH [0, 1, 41] rfl rfl) rfl rfl hl.1 rfl (lv_room (Nat.le_of_ble_eq_true rfl)) dL_law__1736 ⟨by omega, by omega⟩) hP hD hS hA [0, 1, 41] rfl rfl (fun _ => rfl) (fun r1736 uu H locs hq hP hD hS => ?_)
      subst hq
      have hP : va_P D vwCl (LB cY b rr a oo od n k n k fG fW fR fH fA fS fRs fOt fMi fEn fEb fPy fB fCc th fto fpay fcol fnow fthn foth fmnr fwts fmap fnxt fO fE).flatten H := hP
      have hD : va_D A (LB cY b rr a oo od n k n k fG fW fR fH fA fS fRs fOt fMi fEn fEb fPy fB fCc th fto fpay fcol fnow fthn foth fmnr fwts fmap fnxt fO fE).flatten := hD
      refine lv_istore (lv' := [(6, .int (nI 2)), (5, .int (nI z0)), (4, .ref od), (3, .ref oo), (2, .ref (a 0)), (1, .ref (b 0)), (0, .ref sc)]) hx hb dL_law__1739 hl (by decide) rfl (fun ls hl => ?_)
      refine lv_aload_n hx hb dL_law__1741 rfl (lv_at hl 4 rfl) ?_
      refine lv_aload_n hx hb dL_law__1742 rfl (lv_at hl 6 rfl) ?_
      refine lv_iload hx hb dL_law__1743 (lv_at hl 1 rfl) ?_
      refine lv_iconst (v := nI 1) hx hb dL_law__1745 (by decide) ?_
      refine lv_iadd hx hb dL_law__1746 ?_
      refine eqi (x' := nI (z0 + 1)) (nI_add _ _) ?_
      refine s_ld hx hb hsc hscl hscA hS (by omega) hL dL_law__1747 ?_
      refine lv_aload_n hx hb dL_law__1748 rfl (lv_at hl 6 rfl) ?_
      refine lv_iload hx hb dL_law__1749 (lv_at hl 1 rfl) ?_
      refine lv_iconst (v := nI 2) hx hb dL_law__1751 (by decide) ?_
      refine lv_iadd hx hb dL_law__1752 ?_
      refine eqi (x' := nI (z0 + 2)) (nI_add _ _) ?_
      refine s_ld hx hb hsc hscl hscA hS (by omega) hL dL_law__1753 ?_
      refine ca_i (CL := [mO a (nI n) (nI k) th]) (va_runV (As := [.int (xs (z0 + 1)), .int (xs (z0 + 2))]) (rest := []) ⟨hx, hb, hml, hown, hts⟩ (c_X9_stops_b2 l D cY H.size a n k th (xs (z0 + 1)) (xs (z0 + 2)) (by omega) (by omega) (by omega) (by omega) hc1 hc2) (cwV 2 hts gL_law__X9_stops rfl rfl rfl (by decide +kernel) ⟨Nat.le_of_ble_eq_true rfl, Nat.le_of_ble_eq_true rfl⟩) (b_preV hVK hP hD [30] rfl rfl 30 rfl rfl) rfl rfl hl.1 rfl (lv_room (Nat.le_of_ble_eq_true rfl)) dL_law__1754 ⟨by omega, by omega⟩) hP hD hS hA [30] rfl rfl (fun _ => rfl) (fun r1754 uu H locs hq hP hD hS => ?_)
      subst hq
      have hP : va_P D vwCl (LB cY b rr a oo od n k n k fG fW fR fH fA fS fRs fOt fMi fEn fEb fPy fB fCc (nI 2) fto fpay fcol fnow fthn foth fmnr fwts fmap fnxt fO fE).flatten H := hP
      have hD : va_D A (LB cY b rr a oo od n k n k fG fW fR fH fA fS fRs fOt fMi fEn fEb fPy fB fCc (nI 2) fto fpay fcol fnow fthn foth fmnr fwts fmap fnxt fO fE).flatten := hD
      refine lv_istore (lv' := [(7, .int (bI false)), (6, .int (nI 2)), (5, .int (nI z0)), (4, .ref od), (3, .ref oo), (2, .ref (a 0)), (1, .ref (b 0)), (0, .ref sc)]) hx hb dL_law__1757 hl (by decide) rfl (fun ls hl => ?_)
      refine lv_aload_n hx hb dL_law__1759 rfl (lv_at hl 5 rfl) ?_
      refine ca_i (CL := [mO a (nI n) (nI k) (nI 2)]) (va_runV (As := []) (rest := []) ⟨hx, hb, hml, hown, hts⟩ (c_X9_thrown l D cY H.size a n k (nI 2)) (cwV 0 hts gL_law__X9_thrown rfl rfl rfl (by decide +kernel) ⟨Nat.le_of_ble_eq_true rfl, Nat.le_of_ble_eq_true rfl⟩) (b_preV hVK hP hD [30] rfl rfl 30 rfl rfl) rfl rfl hl.1 rfl (lv_room (Nat.le_of_ble_eq_true rfl)) dL_law__1760 ⟨by omega, by omega⟩) hP hD hS hA [30] rfl rfl (fun _ => rfl) (fun r1760 uu H locs hq hP hD hS => ?_)
      subst hq
      have hP : va_P D vwCl (LB cY b rr a oo od n k n k fG fW fR fH fA fS fRs fOt fMi fEn fEb fPy fB fCc (nI 2) fto fpay fcol fnow fthn foth fmnr fwts fmap fnxt fO fE).flatten H := hP
      have hD : va_D A (LB cY b rr a oo od n k n k fG fW fR fH fA fS fRs fOt fMi fEn fEb fPy fB fCc (nI 2) fto fpay fcol fnow fthn foth fmnr fwts fmap fnxt fO fE).flatten := hD
      refine lv_iload hx hb dL_law__1763 (lv_at hl 1 rfl) ?_
      refine n_icmp_eq (tgt := 1770) hx hb dL_law__1765 (by decide) (by omega) (by omega) (fun h1765 => ?_) (fun h1765 => ?_)
      · -- t
        refine lv_iload hx hb dL_law__1770 (lv_at hl 1 rfl) ?_
        refine n_if_ne (tgt := 1794) hx hb dL_law__1772 (by decide) (by omega) (fun h1772 => ?_) (fun h1772 => ?_)
        · -- t
          refine lv_goto (tgt := 1823) hx hb dL_law__1794 (by decide) ?_
          exact K n k g col fG fW fR fH fA fS fRs fOt fMi fEn fEb fPy fB fCc (nI 2) fto fpay fcol fnow fthn foth fmnr fwts fmap fnxt fO fE hI _ _ hP hD hS _ (lv_sub hl [2, 3, 4, 5, 6, 7] rfl)
        · -- f
          exact absurd h1772 (by decide)
      · -- f
        exact absurd rfl h1765
  · -- not
    refine lv_aload_n hx hb dL_law__1722 rfl (lv_at hl 4 rfl) ?_
    refine lv_aload_n hx hb dL_law__1723 rfl (lv_at hl 5 rfl) ?_
    refine lv_iload hx hb dL_law__1724 (lv_at hl 0 rfl) ?_
    refine lv_iconst (v := nI 1) hx hb dL_law__1726 (by decide) ?_
    refine lv_iadd hx hb dL_law__1727 ?_
    refine eqi (x' := nI (z0 + 1)) (nI_add _ _) ?_
    refine s_ld hx hb hsc hscl hscA hS (by omega) hL dL_law__1728 ?_
    refine lv_aload_n hx hb dL_law__1729 rfl (lv_at hl 5 rfl) ?_
    refine lv_iload hx hb dL_law__1730 (lv_at hl 0 rfl) ?_
    refine lv_iconst (v := nI 2) hx hb dL_law__1732 (by decide) ?_
    refine lv_iadd hx hb dL_law__1733 ?_
    refine eqi (x' := nI (z0 + 2)) (nI_add _ _) ?_
    refine s_ld hx hb hsc hscl hscA hS (by omega) hL dL_law__1734 ?_
    refine lv_aload_n hx hb dL_law__1735 rfl (lv_at hl 2 rfl) ?_
    refine hh_i (CL := [hO b, cO b (nI n) (nI k), [(oo, .inl (cY 1, 1, .inr (.inl fO)))]]) (vx_runSX (As := [.ref (b 0), .int (xs (z0 + 1)), .int (xs (z0 + 2)), .ref oo]) (rest := []) ⟨hx, hb, hml, hown, hts⟩ (c_L_stops_b1 l D cY H.size b n k (xs (z0 + 1)) (xs (z0 + 2)) oo fO hlT (by omega) (by omega) (by omega) (by omega) hc1) (vx_cwSW 4 hts gL_law__L_stops rfl rfl rfl (by decide +kernel) ⟨Nat.le_of_ble_eq_true rfl, Nat.le_of_ble_eq_true rfl⟩) (b_preHS hVK hP hD hS hA hX hH [0, 1, 41] rfl rfl) rfl rfl hl.1 rfl (lv_room (Nat.le_of_ble_eq_true rfl)) dL_law__1736 ⟨by omega, by omega⟩) hP hD hS hA [0, 1, 41] rfl rfl (fun _ => rfl) (fun r1736 uu H locs hq hP hD hS => ?_)
    subst hq
    have hP : va_P D vwCl (LB cY b rr a oo od n k n k fG fW fR fH fA fS fRs fOt fMi fEn fEb fPy fB fCc th fto fpay fcol fnow fthn foth fmnr fwts fmap fnxt fO fE).flatten H := hP
    have hD : va_D A (LB cY b rr a oo od n k n k fG fW fR fH fA fS fRs fOt fMi fEn fEb fPy fB fCc th fto fpay fcol fnow fthn foth fmnr fwts fmap fnxt fO fE).flatten := hD
    refine lv_istore (lv' := [(6, .int (nI 1)), (5, .int (nI z0)), (4, .ref od), (3, .ref oo), (2, .ref (a 0)), (1, .ref (b 0)), (0, .ref sc)]) hx hb dL_law__1739 hl (by decide) rfl (fun ls hl => ?_)
    refine lv_aload_n hx hb dL_law__1741 rfl (lv_at hl 4 rfl) ?_
    refine lv_aload_n hx hb dL_law__1742 rfl (lv_at hl 6 rfl) ?_
    refine lv_iload hx hb dL_law__1743 (lv_at hl 1 rfl) ?_
    refine lv_iconst (v := nI 1) hx hb dL_law__1745 (by decide) ?_
    refine lv_iadd hx hb dL_law__1746 ?_
    refine eqi (x' := nI (z0 + 1)) (nI_add _ _) ?_
    refine s_ld hx hb hsc hscl hscA hS (by omega) hL dL_law__1747 ?_
    refine lv_aload_n hx hb dL_law__1748 rfl (lv_at hl 6 rfl) ?_
    refine lv_iload hx hb dL_law__1749 (lv_at hl 1 rfl) ?_
    refine lv_iconst (v := nI 2) hx hb dL_law__1751 (by decide) ?_
    refine lv_iadd hx hb dL_law__1752 ?_
    refine eqi (x' := nI (z0 + 2)) (nI_add _ _) ?_
    refine s_ld hx hb hsc hscl hscA hS (by omega) hL dL_law__1753 ?_
    refine ca_i (CL := [mO a (nI n) (nI k) th]) (va_runV (As := [.int (xs (z0 + 1)), .int (xs (z0 + 2))]) (rest := []) ⟨hx, hb, hml, hown, hts⟩ (c_X9_stops_b1 l D cY H.size a n k th (xs (z0 + 1)) (xs (z0 + 2)) (by omega) (by omega) (by omega) (by omega) hc1) (cwV 2 hts gL_law__X9_stops rfl rfl rfl (by decide +kernel) ⟨Nat.le_of_ble_eq_true rfl, Nat.le_of_ble_eq_true rfl⟩) (b_preV hVK hP hD [30] rfl rfl 30 rfl rfl) rfl rfl hl.1 rfl (lv_room (Nat.le_of_ble_eq_true rfl)) dL_law__1754 ⟨by omega, by omega⟩) hP hD hS hA [30] rfl rfl (fun _ => rfl) (fun r1754 uu H locs hq hP hD hS => ?_)
    subst hq
    have hP : va_P D vwCl (LB cY b rr a oo od n k n k fG fW fR fH fA fS fRs fOt fMi fEn fEb fPy fB fCc (nI 1) fto fpay fcol fnow fthn foth fmnr fwts fmap fnxt fO fE).flatten H := hP
    have hD : va_D A (LB cY b rr a oo od n k n k fG fW fR fH fA fS fRs fOt fMi fEn fEb fPy fB fCc (nI 1) fto fpay fcol fnow fthn foth fmnr fwts fmap fnxt fO fE).flatten := hD
    refine lv_istore (lv' := [(7, .int (bI false)), (6, .int (nI 1)), (5, .int (nI z0)), (4, .ref od), (3, .ref oo), (2, .ref (a 0)), (1, .ref (b 0)), (0, .ref sc)]) hx hb dL_law__1757 hl (by decide) rfl (fun ls hl => ?_)
    refine lv_aload_n hx hb dL_law__1759 rfl (lv_at hl 5 rfl) ?_
    refine ca_i (CL := [mO a (nI n) (nI k) (nI 1)]) (va_runV (As := []) (rest := []) ⟨hx, hb, hml, hown, hts⟩ (c_X9_thrown l D cY H.size a n k (nI 1)) (cwV 0 hts gL_law__X9_thrown rfl rfl rfl (by decide +kernel) ⟨Nat.le_of_ble_eq_true rfl, Nat.le_of_ble_eq_true rfl⟩) (b_preV hVK hP hD [30] rfl rfl 30 rfl rfl) rfl rfl hl.1 rfl (lv_room (Nat.le_of_ble_eq_true rfl)) dL_law__1760 ⟨by omega, by omega⟩) hP hD hS hA [30] rfl rfl (fun _ => rfl) (fun r1760 uu H locs hq hP hD hS => ?_)
    subst hq
    have hP : va_P D vwCl (LB cY b rr a oo od n k n k fG fW fR fH fA fS fRs fOt fMi fEn fEb fPy fB fCc (nI 1) fto fpay fcol fnow fthn foth fmnr fwts fmap fnxt fO fE).flatten H := hP
    have hD : va_D A (LB cY b rr a oo od n k n k fG fW fR fH fA fS fRs fOt fMi fEn fEb fPy fB fCc (nI 1) fto fpay fcol fnow fthn foth fmnr fwts fmap fnxt fO fE).flatten := hD
    refine lv_iload hx hb dL_law__1763 (lv_at hl 1 rfl) ?_
    refine n_icmp_eq (tgt := 1770) hx hb dL_law__1765 (by decide) (by omega) (by omega) (fun h1765 => ?_) (fun h1765 => ?_)
    · -- t
      refine lv_iload hx hb dL_law__1770 (lv_at hl 1 rfl) ?_
      refine n_if_ne (tgt := 1794) hx hb dL_law__1772 (by decide) (by omega) (fun h1772 => ?_) (fun h1772 => ?_)
      · -- t
        refine lv_goto (tgt := 1823) hx hb dL_law__1794 (by decide) ?_
        exact K n k g col fG fW fR fH fA fS fRs fOt fMi fEn fEb fPy fB fCc (nI 1) fto fpay fcol fnow fthn foth fmnr fwts fmap fnxt fO fE hI _ _ hP hD hS _ (lv_sub hl [2, 3, 4, 5, 6, 7] rfl)
      · -- f
        exact absurd h1772 (by decide)
    · -- f
      exact absurd rfl h1765

set_option maxHeartbeats 8000000 in
set_option maxRecDepth 100000 in
theorem lc_reverses {p : Program} {l : Launch} {e : Env} {s : State} {m : MethodId} {below : List Frame} {meth : Method} {c : Code} {H : Heap} {locs : List Loc} {cells slots : Nat} {Q : State → Prop} {D : va_G} {cY : Nat → ClassId} {A : Nat → Prop} {sc L : Nat} {xs : Nat → Int32} {b : Nat → Nat} {rr : Nat → Nat → Nat} {a : Nat → Nat} {oo od z0 : Nat} {ls : Array Slot} (E : LE p s m sc c D cY A L xs) (hlT : l.stackTraces = false) (hi4 : z0 + 4 ≤ L) (hL : L ≤ 2048) (hroom : cells + 1 ≤ room_1.cells ∧ slots + 6 ≤ room_1.slots) {n k : Nat} {g : Nat → Nat → Nat} {col : Nat → Nat} {fG fW : Nat → Nat → Int32} {fR fH fA fS : Nat → Nat → Int64} {fRs : Nat → Int64} {fOt : Nat → Int32} {fMi : Nat → Int64} {fEn fEb fPy : Nat → Int32} {fB : Nat → Nat → Int64} {fCc : Nat → Int32} {th : Int32} {fto fpay fcol : Nat → Int32} {fnow fthn foth fmnr fwts : Nat → Int64} {fmap fnxt : Nat → Int32} {fO : Nat → Int64} {fE : Nat → UInt64} (hI : LV n k g col fG fW fPy fCc fto fpay fcol) (hP : va_P D vwCl (LB cY b rr a oo od n k n k fG fW fR fH fA fS fRs fOt fMi fEn fEb fPy fB fCc th fto fpay fcol fnow fthn foth fmnr fwts fmap fnxt fO fE).flatten H) (hD : va_D A (LB cY b rr a oo od n k n k fG fW fR fH fA fS fRs fOt fMi fEn fEb fPy fB fCc th fto fpay fcol fnow fthn foth fmnr fwts fmap fnxt fO fE).flatten) (hS : va_S A s.heap H locs) (hl : lv_has ls 9 [(5, .int (nI z0)), (4, .ref od), (3, .ref oo), (2, .ref (a 0)), (1, .ref (b 0)), (0, .ref sc)]) (K : LK p l e s m below meth c sc D cY A b rr a oo od z0 cells slots Q) : W p l e room_1 s m #[Value.ref sc] below meth c H locs cells slots Q (F0 m 1797 ls []) := by
  obtain ⟨hx, hb, hml, hts, hown, hK, hVK, hA, hX, hH, hsc, hscl, hscA⟩ := E
  obtain ⟨⟨hn1, hn6, hk1, hk12⟩, hG, hgn, hW, hT, hPy, hC6⟩ := id hI
  refine lv_aload_n hx hb dL_law__1797 rfl (lv_at hl 4 rfl) ?_
  refine ca_i (CL := [hO b, cO b (nI n) (nI k), tO b, oQ (cY 2) (b 3) (rr 1) 6, gI (cY 0) (rr 1) 6 fW 6, [(b 12, .inl (cY 1, 6, .inr (.inl fRs)))], [(b 13, .inl (cY 0, 6, .inl fOt))], [(b 14, .inl (cY 1, 32, .inr (.inl fMi)))]]) (va_runV (As := []) (rest := []) ⟨hx, hb, hml, hown, hts⟩ (c_X8_reverses_ok l D cY H.size b rr n k fW fRs fOt fMi g (by omega) (by omega) (by omega) (by omega) hW) (cwV 0 hts gL_law__X8_reverses rfl rfl rfl (by decide +kernel) ⟨Nat.le_of_ble_eq_true rfl, Nat.le_of_ble_eq_true rfl⟩) (b_preV hVK hP hD [0, 1, 17, 4, 5, 18, 19, 20] rfl rfl 0 rfl rfl) rfl rfl hl.1 rfl (lv_room (Nat.le_of_ble_eq_true rfl)) dL_law__1798 ⟨by omega, by omega⟩) hP hD hS hA [0, 1, 17, 4, 5, 18, 19, 20] rfl rfl (fun _ => rfl) (fun r1798 uu H locs hq hP hD hS => ?_)
  obtain ⟨fRs1_1, fOt1_2, fMi1_3⟩ := uu
  try dsimp only at hq
  subst hq
  have hP : va_P D vwCl (LB cY b rr a oo od n k n k fG fW fR fH fA fS fRs1_1 fOt1_2 fMi1_3 fEn fEb fPy fB fCc th fto fpay fcol fnow fthn foth fmnr fwts fmap fnxt fO fE).flatten H := hP
  have hD : va_D A (LB cY b rr a oo od n k n k fG fW fR fH fA fS fRs1_1 fOt1_2 fMi1_3 fEn fEb fPy fB fCc th fto fpay fcol fnow fthn foth fmnr fwts fmap fnxt fO fE).flatten := hD
  refine lv_aload_n hx hb dL_law__1801 rfl (lv_at hl 3 rfl) ?_
  refine ca_i (CL := [mO a (nI n) (nI k) th, [(a 1, .inl (cY 0, 72, .inl fto))], [(a 7, .inl (cY 1, 32, .inr (.inl fmnr)))], [(a 8, .inl (cY 1, 25, .inr (.inl fwts)))]]) (va_runV (As := []) (rest := [.int (bI (revA g n k))]) ⟨hx, hb, hml, hown, hts⟩ (c_X9_reverses l D cY H.size a n k th fto fmnr fwts g (by omega) (by omega) (by omega) (by omega) hT hgn) (cwV 0 hts gL_law__X9_reverses rfl rfl rfl (by decide +kernel) ⟨Nat.le_of_ble_eq_true rfl, Nat.le_of_ble_eq_true rfl⟩) (b_preV hVK hP hD [30, 31, 37, 38] rfl rfl 30 rfl rfl) rfl rfl hl.1 rfl (lv_room (Nat.le_of_ble_eq_true rfl)) dL_law__1802 ⟨by omega, by omega⟩) hP hD hS hA [30, 31, 37, 38] rfl rfl (fun _ => rfl) (fun r1802 uu H locs hq hP hD hS => ?_)
  obtain ⟨fmnr1_4, fwts1_5⟩ := uu
  try dsimp only at hq
  subst hq
  have hP : va_P D vwCl (LB cY b rr a oo od n k n k fG fW fR fH fA fS fRs1_1 fOt1_2 fMi1_3 fEn fEb fPy fB fCc (nI 0) fto fpay fcol fnow fthn foth fmnr1_4 fwts1_5 fmap fnxt fO fE).flatten H := hP
  have hD : va_D A (LB cY b rr a oo od n k n k fG fW fR fH fA fS fRs1_1 fOt1_2 fMi1_3 fEn fEb fPy fB fCc (nI 0) fto fpay fcol fnow fthn foth fmnr1_4 fwts1_5 fmap fnxt fO fE).flatten := hD
  refine lv_icmp_eq (tgt := 1823) hx hb dL_law__1805 (by decide) (fun h1805 => ?_) (fun h1805 => ?_)
  · -- t
    refine W.widen (Nat.le_add_right cells 1) (Nat.le_add_right slots 6) ?_
    exact K n k g col fG fW fR fH fA fS fRs1_1 fOt1_2 fMi1_3 fEn fEb fPy fB fCc (nI 0) fto fpay fcol fnow fthn foth fmnr1_4 fwts1_5 fmap fnxt fO fE hI _ _ hP hD hS _ (lv_sub hl [0, 1, 2, 3, 4, 5] rfl)
  · -- f
    exact absurd (congrArg bI rev_eq) h1805

set_option maxHeartbeats 8000000 in
set_option maxRecDepth 100000 in
theorem lc_isLumped {p : Program} {l : Launch} {e : Env} {s : State} {m : MethodId} {below : List Frame} {meth : Method} {c : Code} {H : Heap} {locs : List Loc} {cells slots : Nat} {Q : State → Prop} {D : va_G} {cY : Nat → ClassId} {A : Nat → Prop} {sc L : Nat} {xs : Nat → Int32} {b : Nat → Nat} {rr : Nat → Nat → Nat} {a : Nat → Nat} {oo od z0 : Nat} {ls : Array Slot} (E : LE p s m sc c D cY A L xs) (hlT : l.stackTraces = false) (hi4 : z0 + 4 ≤ L) (hL : L ≤ 2048) (hroom : cells + 1 ≤ room_1.cells ∧ slots + 6 ≤ room_1.slots) {n k : Nat} {g : Nat → Nat → Nat} {col : Nat → Nat} {fG fW : Nat → Nat → Int32} {fR fH fA fS : Nat → Nat → Int64} {fRs : Nat → Int64} {fOt : Nat → Int32} {fMi : Nat → Int64} {fEn fEb fPy : Nat → Int32} {fB : Nat → Nat → Int64} {fCc : Nat → Int32} {th : Int32} {fto fpay fcol : Nat → Int32} {fnow fthn foth fmnr fwts : Nat → Int64} {fmap fnxt : Nat → Int32} {fO : Nat → Int64} {fE : Nat → UInt64} (hI : LV n k g col fG fW fPy fCc fto fpay fcol) (hP : va_P D vwCl (LB cY b rr a oo od n k n k fG fW fR fH fA fS fRs fOt fMi fEn fEb fPy fB fCc th fto fpay fcol fnow fthn foth fmnr fwts fmap fnxt fO fE).flatten H) (hD : va_D A (LB cY b rr a oo od n k n k fG fW fR fH fA fS fRs fOt fMi fEn fEb fPy fB fCc th fto fpay fcol fnow fthn foth fmnr fwts fmap fnxt fO fE).flatten) (hS : va_S A s.heap H locs) (hl : lv_has ls 9 [(5, .int (nI z0)), (4, .ref od), (3, .ref oo), (2, .ref (a 0)), (1, .ref (b 0)), (0, .ref sc)]) (K : LK p l e s m below meth c sc D cY A b rr a oo od z0 cells slots Q) : W p l e room_1 s m #[Value.ref sc] below meth c H locs cells slots Q (F0 m 1810 ls []) := by
  obtain ⟨hx, hb, hml, hts, hown, hK, hVK, hA, hX, hH, hsc, hscl, hscA⟩ := E
  obtain ⟨⟨hn1, hn6, hk1, hk12⟩, hG, hgn, hW, hT, hPy, hC6⟩ := id hI
  refine lv_aload_n hx hb dL_law__1810 rfl (lv_at hl 4 rfl) ?_
  refine ca_i (CL := [hO b, cO b (nI n) (nI k), uO b, oQ (cY 2) (b 3) (rr 1) 6, gI (cY 0) (rr 1) 6 fW 6, [(b 22, .inl (cY 0, 6, .inl fCc))]]) (va_runV (As := []) (rest := []) ⟨hx, hb, hml, hown, hts⟩ (c_X8_isLumped_ok l D cY H.size b rr n k fW fCc g col (by omega) (by omega) (by omega) (by omega) hW (fun j hj => (hC6 j (by omega)).1.trans (hC6 j (by omega)).2.1) (fun j hj => (hC6 j (by omega)).2.2)) (cwV 0 hts gL_law__X8_isLumped rfl rfl rfl (by decide +kernel) ⟨Nat.le_of_ble_eq_true rfl, Nat.le_of_ble_eq_true rfl⟩) (b_preV hVK hP hD [0, 1, 28, 4, 5, 29] rfl rfl 0 rfl rfl) rfl rfl hl.1 rfl (lv_room (Nat.le_of_ble_eq_true rfl)) dL_law__1811 ⟨by omega, by omega⟩) hP hD hS hA [0, 1, 28, 4, 5, 29] rfl rfl (fun _ => rfl) (fun r1811 uu H locs hq hP hD hS => ?_)
  subst hq
  have hP : va_P D vwCl (LB cY b rr a oo od n k n k fG fW fR fH fA fS fRs fOt fMi fEn fEb fPy fB fCc th fto fpay fcol fnow fthn foth fmnr fwts fmap fnxt fO fE).flatten H := hP
  have hD : va_D A (LB cY b rr a oo od n k n k fG fW fR fH fA fS fRs fOt fMi fEn fEb fPy fB fCc th fto fpay fcol fnow fthn foth fmnr fwts fmap fnxt fO fE).flatten := hD
  refine lv_aload_n hx hb dL_law__1814 rfl (lv_at hl 3 rfl) ?_
  refine ca_i (CL := [mO a (nI n) (nI k) th, [(a 1, .inl (cY 0, 72, .inl fto))], [(a 3, .inl (cY 0, 6, .inl fcol))]]) (va_runV (As := []) (rest := [.int (bI (lmA g n k col))]) ⟨hx, hb, hml, hown, hts⟩ (c_X9_isLumped l D cY H.size a n k th fto fcol g col (by omega) (by omega) (by omega) (by omega) hT hgn (fun j hj => (hC6 j (by omega)).2.1) (fun j hj => (hC6 j (by omega)).2.2)) (cwV 0 hts gL_law__X9_isLumped rfl rfl rfl (by decide +kernel) ⟨Nat.le_of_ble_eq_true rfl, Nat.le_of_ble_eq_true rfl⟩) (b_preV hVK hP hD [30, 31, 33] rfl rfl 30 rfl rfl) rfl rfl hl.1 rfl (lv_room (Nat.le_of_ble_eq_true rfl)) dL_law__1815 ⟨by omega, by omega⟩) hP hD hS hA [30, 31, 33] rfl rfl (fun _ => rfl) (fun r1815 uu H locs hq hP hD hS => ?_)
  subst hq
  have hP : va_P D vwCl (LB cY b rr a oo od n k n k fG fW fR fH fA fS fRs fOt fMi fEn fEb fPy fB fCc (nI 0) fto fpay fcol fnow fthn foth fmnr fwts fmap fnxt fO fE).flatten H := hP
  have hD : va_D A (LB cY b rr a oo od n k n k fG fW fR fH fA fS fRs fOt fMi fEn fEb fPy fB fCc (nI 0) fto fpay fcol fnow fthn foth fmnr fwts fmap fnxt fO fE).flatten := hD
  refine lv_icmp_eq (tgt := 1823) hx hb dL_law__1818 (by decide) (fun h1818 => ?_) (fun h1818 => ?_)
  · -- t
    refine W.widen (Nat.le_add_right cells 1) (Nat.le_add_right slots 6) ?_
    exact K n k g col fG fW fR fH fA fS fRs fOt fMi fEn fEb fPy fB fCc (nI 0) fto fpay fcol fnow fthn foth fmnr fwts fmap fnxt fO fE hI _ _ hP hD hS _ (lv_sub hl [0, 1, 2, 3, 4, 5] rfl)
  · -- f
    exact absurd (congrArg bI lm_eq) h1818

