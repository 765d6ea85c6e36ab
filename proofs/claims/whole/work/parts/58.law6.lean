set_option maxHeartbeats 8000000 in
set_option maxRecDepth 100000 in
theorem lc_reach {p : Program} {l : Launch} {e : Env} {s : State} {m : MethodId} {below : List Frame} {meth : Method} {c : Code} {H : Heap} {locs : List Loc} {cells slots : Nat} {Q : State → Prop} {D : va_G} {cY : Nat → ClassId} {A : Nat → Prop} {sc L : Nat} {xs : Nat → Int32} {b : Nat → Nat} {rr : Nat → Nat → Nat} {a : Nat → Nat} {oo od z0 : Nat} {ls : Array Slot} (E : LE p s m sc c D cY A L xs) (hlT : l.stackTraces = false) (hi4 : z0 + 4 ≤ L) (hL : L ≤ 2048) (hroom : cells + 1 ≤ room_1.cells ∧ slots + 6 ≤ room_1.slots) {n k : Nat} {g : Nat → Nat → Nat} {col : Nat → Nat} {fG fW : Nat → Nat → Int32} {fR fH fA fS : Nat → Nat → Int64} {fRs : Nat → Int64} {fOt : Nat → Int32} {fMi : Nat → Int64} {fEn fEb fPy : Nat → Int32} {fB : Nat → Nat → Int64} {fCc : Nat → Int32} {th : Int32} {fto fpay fcol : Nat → Int32} {fnow fthn foth fmnr fwts : Nat → Int64} {fmap fnxt : Nat → Int32} {fO : Nat → Int64} {fE : Nat → UInt64} (hI : LV n k g col fG fW fPy fCc fto fpay fcol) (hP : va_P D vwCl (LB cY b rr a oo od n k n k fG fW fR fH fA fS fRs fOt fMi fEn fEb fPy fB fCc th fto fpay fcol fnow fthn foth fmnr fwts fmap fnxt fO fE).flatten H) (hD : va_D A (LB cY b rr a oo od n k n k fG fW fR fH fA fS fRs fOt fMi fEn fEb fPy fB fCc th fto fpay fcol fnow fthn foth fmnr fwts fmap fnxt fO fE).flatten) (hS : va_S A s.heap H locs) (hl : lv_has ls 9 [(5, .int (nI z0)), (4, .ref od), (3, .ref oo), (2, .ref (a 0)), (1, .ref (b 0)), (0, .ref sc)]) (K : LK p l e s m below meth c sc D cY A b rr a oo od z0 cells slots Q) : W p l e room_1 s m #[Value.ref sc] below meth c H locs cells slots Q (F0 m 1137 ls []) := by
  obtain ⟨hx, hb, hml, hts, hown, hK, hVK, hA, hX, hH, hsc, hscl, hscA⟩ := E
  obtain ⟨⟨hn1, hn6, hk1, hk12⟩, hG, hgn, hW, hT, hPy, hC6⟩ := id hI
  rcases Bool.eq_false_or_eq_true (inR (xs (z0 + 1)) (nI 0) (nI (n - 1))) with hc1 | hc1
  · -- holds
    obtain ⟨i, hi_, e1⟩ := inR_of (by omega) hc1
    refine lv_aload_n hx hb dL_law__1137 rfl (lv_at hl 4 rfl) ?_
    refine lv_aload_n hx hb dL_law__1138 rfl (lv_at hl 5 rfl) ?_
    refine lv_iload hx hb dL_law__1139 (lv_at hl 0 rfl) ?_
    refine lv_iconst (v := nI 1) hx hb dL_law__1141 (by decide) ?_
    refine lv_iadd hx hb dL_law__1142 ?_
    refine eqi (x' := nI (z0 + 1)) (nI_add _ _) ?_
    refine s_ld hx hb hsc hscl hscA hS (by omega) hL dL_law__1143 ?_
    refine eqi (x' := nI i) e1 ?_
    refine lv_aload_n hx hb dL_law__1144 rfl (lv_at hl 2 rfl) ?_
    refine hh_i (CL := [hO b, cO b (nI n) (nI k), sO b, oQ (cY 2) (b 3) (rr 1) 6, gI (cY 0) (rr 1) 6 fW 6, [(oo, .inl (cY 1, 1, .inr (.inl fO)))]]) (vx_runSX (As := [.ref (b 0), .int (nI i), .ref oo]) (rest := []) ⟨hx, hb, hml, hown, hts⟩ (c_L_reach_ok l D cY H.size b rr n k fW g i oo fO (by omega) (by omega) (by omega) (by omega) hW (by omega)) (vx_cwSW 3 hts gL_law__L_reach rfl rfl rfl (by decide +kernel) ⟨Nat.le_of_ble_eq_true rfl, Nat.le_of_ble_eq_true rfl⟩) (b_preHS hVK hP hD hS hA hX hH [0, 1, 16, 4, 5, 41] rfl rfl) rfl rfl hl.1 rfl (lv_room (Nat.le_of_ble_eq_true rfl)) dL_law__1145 ⟨by omega, by omega⟩) hP hD hS hA [0, 1, 16, 4, 5, 41] rfl rfl (fun _ => rfl) (fun r1145 uu H locs hq hP hD hS => ?_)
    subst hq
    have hP : va_P D vwCl (LB cY b rr a oo od n k n k fG fW fR fH fA fS fRs fOt fMi fEn fEb fPy fB fCc th fto fpay fcol fnow fthn foth fmnr fwts fmap fnxt (vp_updL fO 0 ((nI (rcA g n k i (n - 1))).toInt64)) fE).flatten H := hP
    have hD : va_D A (LB cY b rr a oo od n k n k fG fW fR fH fA fS fRs fOt fMi fEn fEb fPy fB fCc th fto fpay fcol fnow fthn foth fmnr fwts fmap fnxt (vp_updL fO 0 ((nI (rcA g n k i (n - 1))).toInt64)) fE).flatten := hD
    refine lv_istore (lv' := [(6, .int (nI 0)), (5, .int (nI z0)), (4, .ref od), (3, .ref oo), (2, .ref (a 0)), (1, .ref (b 0)), (0, .ref sc)]) hx hb dL_law__1148 hl (by decide) rfl (fun ls hl => ?_)
    refine lv_aload_n hx hb dL_law__1150 rfl (lv_at hl 4 rfl) ?_
    refine lv_aload_n hx hb dL_law__1151 rfl (lv_at hl 6 rfl) ?_
    refine lv_iload hx hb dL_law__1152 (lv_at hl 1 rfl) ?_
    refine lv_iconst (v := nI 1) hx hb dL_law__1154 (by decide) ?_
    refine lv_iadd hx hb dL_law__1155 ?_
    refine eqi (x' := nI (z0 + 1)) (nI_add _ _) ?_
    refine s_ld hx hb hsc hscl hscA hS (by omega) hL dL_law__1156 ?_
    refine eqi (x' := nI i) e1 ?_
    refine ca_i (CL := [mO a (nI n) (nI k) th, [(a 1, .inl (cY 0, 72, .inl fto))]]) (va_runV (As := [.int (nI i)]) (rest := []) ⟨hx, hb, hml, hown, hts⟩ (c_X9_reach_ok l D cY H.size a n k th fto g i (by omega) (by omega) (by omega) (by omega) hT hgn (by omega)) (cwV 1 hts gL_law__X9_reach rfl rfl rfl (by decide +kernel) ⟨Nat.le_of_ble_eq_true rfl, Nat.le_of_ble_eq_true rfl⟩) (b_preV hVK hP hD [30, 31] rfl rfl 30 rfl rfl) rfl rfl hl.1 rfl (lv_room (Nat.le_of_ble_eq_true rfl)) dL_law__1157 ⟨by omega, by omega⟩) hP hD hS hA [30, 31] rfl rfl (fun _ => rfl) (fun r1157 uu H locs hq hP hD hS => ?_)
    subst hq
    have hP : va_P D vwCl (LB cY b rr a oo od n k n k fG fW fR fH fA fS fRs fOt fMi fEn fEb fPy fB fCc (nI 0) fto fpay fcol fnow fthn foth fmnr fwts fmap fnxt (vp_updL fO 0 ((nI (rcA g n k i (n - 1))).toInt64)) fE).flatten H := hP
    have hD : va_D A (LB cY b rr a oo od n k n k fG fW fR fH fA fS fRs fOt fMi fEn fEb fPy fB fCc (nI 0) fto fpay fcol fnow fthn foth fmnr fwts fmap fnxt (vp_updL fO 0 ((nI (rcA g n k i (n - 1))).toInt64)) fE).flatten := hD
    refine lv_istore (lv' := [(7, .int (nI (rch g n k i n))), (6, .int (nI 0)), (5, .int (nI z0)), (4, .ref od), (3, .ref oo), (2, .ref (a 0)), (1, .ref (b 0)), (0, .ref sc)]) hx hb dL_law__1160 hl (by decide) rfl (fun ls hl => ?_)
    refine lv_aload_n hx hb dL_law__1162 rfl (lv_at hl 5 rfl) ?_
    refine ca_i (CL := [mO a (nI n) (nI k) (nI 0)]) (va_runV (As := []) (rest := []) ⟨hx, hb, hml, hown, hts⟩ (c_X9_thrown l D cY H.size a n k (nI 0)) (cwV 0 hts gL_law__X9_thrown rfl rfl rfl (by decide +kernel) ⟨Nat.le_of_ble_eq_true rfl, Nat.le_of_ble_eq_true rfl⟩) (b_preV hVK hP hD [30] rfl rfl 30 rfl rfl) rfl rfl hl.1 rfl (lv_room (Nat.le_of_ble_eq_true rfl)) dL_law__1163 ⟨by omega, by omega⟩) hP hD hS hA [30] rfl rfl (fun _ => rfl) (fun r1163 uu H locs hq hP hD hS => ?_)
    subst hq
    have hP : va_P D vwCl (LB cY b rr a oo od n k n k fG fW fR fH fA fS fRs fOt fMi fEn fEb fPy fB fCc (nI 0) fto fpay fcol fnow fthn foth fmnr fwts fmap fnxt (vp_updL fO 0 ((nI (rcA g n k i (n - 1))).toInt64)) fE).flatten H := hP
    have hD : va_D A (LB cY b rr a oo od n k n k fG fW fR fH fA fS fRs fOt fMi fEn fEb fPy fB fCc (nI 0) fto fpay fcol fnow fthn foth fmnr fwts fmap fnxt (vp_updL fO 0 ((nI (rcA g n k i (n - 1))).toInt64)) fE).flatten := hD
    refine lv_iload hx hb dL_law__1166 (lv_at hl 1 rfl) ?_
    refine n_icmp_eq (tgt := 1173) hx hb dL_law__1168 (by decide) (by omega) (by omega) (fun h1168 => ?_) (fun h1168 => ?_)
    · -- t
      refine lv_iload hx hb dL_law__1173 (lv_at hl 1 rfl) ?_
      refine n_if_ne (tgt := 1190) hx hb dL_law__1175 (by decide) (by omega) (fun h1175 => ?_) (fun h1175 => ?_)
      · -- t
        exact absurd rfl h1175
      · -- f
        refine lv_aload_n hx hb dL_law__1178 rfl (lv_at hl 4 rfl) ?_
        refine lv_iconst (v := nI 0) hx hb dL_law__1179 (by decide) ?_
        refine b_lald hx hb hK hP 41 1 rfl rfl (by omega) (by omega) dL_law__1180 ?_
        refine eql (x' := (nI (rcA g n k i (n - 1))).toInt64) pk_uLs ?_
        refine lv_iload hx hb dL_law__1181 (lv_at hl 0 rfl) ?_
        refine lv_i2l (v := (nI (rch g n k i n)).toInt64) hx hb dL_law__1183 rfl ?_
        refine W.lcmp hx hb dL_law__1184 ?_
        refine l_if_eq (tgt := 1190) hx hb dL_law__1185 (by decide) (fun h1185 => ?_) (fun h1185 => ?_)
        · -- t
          refine lv_goto (tgt := 1823) hx hb dL_law__1190 (by decide) ?_
          refine W.widen (Nat.le_add_right cells 1) (Nat.le_add_right slots 6) ?_
          exact K n k g col fG fW fR fH fA fS fRs fOt fMi fEn fEb fPy fB fCc (nI 0) fto fpay fcol fnow fthn foth fmnr fwts fmap fnxt (vp_updL fO 0 ((nI (rcA g n k i (n - 1))).toInt64)) fE hI _ _ hP hD hS _ (lv_sub hl [2, 3, 4, 5, 6, 7] rfl)
        · -- f
          exact absurd (congrArg (fun z => (nI z).toInt64) (reach_eq hgn hn6 (by omega))) h1185
    · -- f
      exact absurd rfl h1168
  · -- not
    refine lv_aload_n hx hb dL_law__1137 rfl (lv_at hl 4 rfl) ?_
    refine lv_aload_n hx hb dL_law__1138 rfl (lv_at hl 5 rfl) ?_
    refine lv_iload hx hb dL_law__1139 (lv_at hl 0 rfl) ?_
    refine lv_iconst (v := nI 1) hx hb dL_law__1141 (by decide) ?_
    refine lv_iadd hx hb dL_law__1142 ?_
    refine eqi (x' := nI (z0 + 1)) (nI_add _ _) ?_
    refine s_ld hx hb hsc hscl hscA hS (by omega) hL dL_law__1143 ?_
    refine lv_aload_n hx hb dL_law__1144 rfl (lv_at hl 2 rfl) ?_
    refine hh_i (CL := [hO b, cO b (nI n) (nI k), [(oo, .inl (cY 1, 1, .inr (.inl fO)))]]) (vx_runSX (As := [.ref (b 0), .int (xs (z0 + 1)), .ref oo]) (rest := []) ⟨hx, hb, hml, hown, hts⟩ (c_L_reach_bad l D cY H.size b n k (xs (z0 + 1)) oo fO hlT (by omega) (by omega) (by omega) (by omega) hc1) (vx_cwSW 3 hts gL_law__L_reach rfl rfl rfl (by decide +kernel) ⟨Nat.le_of_ble_eq_true rfl, Nat.le_of_ble_eq_true rfl⟩) (b_preHS hVK hP hD hS hA hX hH [0, 1, 41] rfl rfl) rfl rfl hl.1 rfl (lv_room (Nat.le_of_ble_eq_true rfl)) dL_law__1145 ⟨by omega, by omega⟩) hP hD hS hA [0, 1, 41] rfl rfl (fun _ => rfl) (fun r1145 uu H locs hq hP hD hS => ?_)
    subst hq
    have hP : va_P D vwCl (LB cY b rr a oo od n k n k fG fW fR fH fA fS fRs fOt fMi fEn fEb fPy fB fCc th fto fpay fcol fnow fthn foth fmnr fwts fmap fnxt fO fE).flatten H := hP
    have hD : va_D A (LB cY b rr a oo od n k n k fG fW fR fH fA fS fRs fOt fMi fEn fEb fPy fB fCc th fto fpay fcol fnow fthn foth fmnr fwts fmap fnxt fO fE).flatten := hD
    refine lv_istore (lv' := [(6, .int (nI 1)), (5, .int (nI z0)), (4, .ref od), (3, .ref oo), (2, .ref (a 0)), (1, .ref (b 0)), (0, .ref sc)]) hx hb dL_law__1148 hl (by decide) rfl (fun ls hl => ?_)
    refine lv_aload_n hx hb dL_law__1150 rfl (lv_at hl 4 rfl) ?_
    refine lv_aload_n hx hb dL_law__1151 rfl (lv_at hl 6 rfl) ?_
    refine lv_iload hx hb dL_law__1152 (lv_at hl 1 rfl) ?_
    refine lv_iconst (v := nI 1) hx hb dL_law__1154 (by decide) ?_
    refine lv_iadd hx hb dL_law__1155 ?_
    refine eqi (x' := nI (z0 + 1)) (nI_add _ _) ?_
    refine s_ld hx hb hsc hscl hscA hS (by omega) hL dL_law__1156 ?_
    refine ca_i (CL := [mO a (nI n) (nI k) th]) (va_runV (As := [.int (xs (z0 + 1))]) (rest := []) ⟨hx, hb, hml, hown, hts⟩ (c_X9_reach_bad l D cY H.size a n k th (xs (z0 + 1)) (by omega) (by omega) (by omega) (by omega) hc1) (cwV 1 hts gL_law__X9_reach rfl rfl rfl (by decide +kernel) ⟨Nat.le_of_ble_eq_true rfl, Nat.le_of_ble_eq_true rfl⟩) (b_preV hVK hP hD [30] rfl rfl 30 rfl rfl) rfl rfl hl.1 rfl (lv_room (Nat.le_of_ble_eq_true rfl)) dL_law__1157 ⟨by omega, by omega⟩) hP hD hS hA [30] rfl rfl (fun _ => rfl) (fun r1157 uu H locs hq hP hD hS => ?_)
    subst hq
    have hP : va_P D vwCl (LB cY b rr a oo od n k n k fG fW fR fH fA fS fRs fOt fMi fEn fEb fPy fB fCc (nI 1) fto fpay fcol fnow fthn foth fmnr fwts fmap fnxt fO fE).flatten H := hP
    have hD : va_D A (LB cY b rr a oo od n k n k fG fW fR fH fA fS fRs fOt fMi fEn fEb fPy fB fCc (nI 1) fto fpay fcol fnow fthn foth fmnr fwts fmap fnxt fO fE).flatten := hD
    refine lv_istore (lv' := [(7, .int (nI 0)), (6, .int (nI 1)), (5, .int (nI z0)), (4, .ref od), (3, .ref oo), (2, .ref (a 0)), (1, .ref (b 0)), (0, .ref sc)]) hx hb dL_law__1160 hl (by decide) rfl (fun ls hl => ?_)
    refine lv_aload_n hx hb dL_law__1162 rfl (lv_at hl 5 rfl) ?_
    refine ca_i (CL := [mO a (nI n) (nI k) (nI 1)]) (va_runV (As := []) (rest := []) ⟨hx, hb, hml, hown, hts⟩ (c_X9_thrown l D cY H.size a n k (nI 1)) (cwV 0 hts gL_law__X9_thrown rfl rfl rfl (by decide +kernel) ⟨Nat.le_of_ble_eq_true rfl, Nat.le_of_ble_eq_true rfl⟩) (b_preV hVK hP hD [30] rfl rfl 30 rfl rfl) rfl rfl hl.1 rfl (lv_room (Nat.le_of_ble_eq_true rfl)) dL_law__1163 ⟨by omega, by omega⟩) hP hD hS hA [30] rfl rfl (fun _ => rfl) (fun r1163 uu H locs hq hP hD hS => ?_)
    subst hq
    have hP : va_P D vwCl (LB cY b rr a oo od n k n k fG fW fR fH fA fS fRs fOt fMi fEn fEb fPy fB fCc (nI 1) fto fpay fcol fnow fthn foth fmnr fwts fmap fnxt fO fE).flatten H := hP
    have hD : va_D A (LB cY b rr a oo od n k n k fG fW fR fH fA fS fRs fOt fMi fEn fEb fPy fB fCc (nI 1) fto fpay fcol fnow fthn foth fmnr fwts fmap fnxt fO fE).flatten := hD
    refine lv_iload hx hb dL_law__1166 (lv_at hl 1 rfl) ?_
    refine n_icmp_eq (tgt := 1173) hx hb dL_law__1168 (by decide) (by omega) (by omega) (fun h1168 => ?_) (fun h1168 => ?_)
    · -- t
      refine lv_iload hx hb dL_law__1173 (lv_at hl 1 rfl) ?_
      refine n_if_ne (tgt := 1190) hx hb dL_law__1175 (by decide) (by omega) (fun h1175 => ?_) (fun h1175 => ?_)
      · -- t
        refine lv_goto (tgt := 1823) hx hb dL_law__1190 (by decide) ?_
        exact K n k g col fG fW fR fH fA fS fRs fOt fMi fEn fEb fPy fB fCc (nI 1) fto fpay fcol fnow fthn foth fmnr fwts fmap fnxt fO fE hI _ _ hP hD hS _ (lv_sub hl [2, 3, 4, 5, 6, 7] rfl)
      · -- f
        exact absurd h1175 (by decide)
    · -- f
      exact absurd rfl h1168

set_option maxHeartbeats 8000000 in
set_option maxRecDepth 100000 in
theorem lc_closed {p : Program} {l : Launch} {e : Env} {s : State} {m : MethodId} {below : List Frame} {meth : Method} {c : Code} {H : Heap} {locs : List Loc} {cells slots : Nat} {Q : State → Prop} {D : va_G} {cY : Nat → ClassId} {A : Nat → Prop} {sc L : Nat} {xs : Nat → Int32} {b : Nat → Nat} {rr : Nat → Nat → Nat} {a : Nat → Nat} {oo od z0 : Nat} {ls : Array Slot} (E : LE p s m sc c D cY A L xs) (hlT : l.stackTraces = false) (hi4 : z0 + 4 ≤ L) (hL : L ≤ 2048) (hroom : cells + 1 ≤ room_1.cells ∧ slots + 6 ≤ room_1.slots) {n k : Nat} {g : Nat → Nat → Nat} {col : Nat → Nat} {fG fW : Nat → Nat → Int32} {fR fH fA fS : Nat → Nat → Int64} {fRs : Nat → Int64} {fOt : Nat → Int32} {fMi : Nat → Int64} {fEn fEb fPy : Nat → Int32} {fB : Nat → Nat → Int64} {fCc : Nat → Int32} {th : Int32} {fto fpay fcol : Nat → Int32} {fnow fthn foth fmnr fwts : Nat → Int64} {fmap fnxt : Nat → Int32} {fO : Nat → Int64} {fE : Nat → UInt64} (hI : LV n k g col fG fW fPy fCc fto fpay fcol) (hP : va_P D vwCl (LB cY b rr a oo od n k n k fG fW fR fH fA fS fRs fOt fMi fEn fEb fPy fB fCc th fto fpay fcol fnow fthn foth fmnr fwts fmap fnxt fO fE).flatten H) (hD : va_D A (LB cY b rr a oo od n k n k fG fW fR fH fA fS fRs fOt fMi fEn fEb fPy fB fCc th fto fpay fcol fnow fthn foth fmnr fwts fmap fnxt fO fE).flatten) (hS : va_S A s.heap H locs) (hl : lv_has ls 9 [(5, .int (nI z0)), (4, .ref od), (3, .ref oo), (2, .ref (a 0)), (1, .ref (b 0)), (0, .ref sc)]) (K : LK p l e s m below meth c sc D cY A b rr a oo od z0 cells slots Q) : W p l e room_1 s m #[Value.ref sc] below meth c H locs cells slots Q (F0 m 1193 ls []) := by
  obtain ⟨hx, hb, hml, hts, hown, hK, hVK, hA, hX, hH, hsc, hscl, hscA⟩ := E
  obtain ⟨⟨hn1, hn6, hk1, hk12⟩, hG, hgn, hW, hT, hPy, hC6⟩ := id hI
  refine lv_aload_n hx hb dL_law__1193 rfl (lv_at hl 4 rfl) ?_
  refine ca_i (CL := [hO b, cO b (nI n) (nI k), sO b, oQ (cY 2) (b 3) (rr 1) 6, gI (cY 0) (rr 1) 6 fW 6]) (va_runV (As := []) (rest := []) ⟨hx, hb, hml, hown, hts⟩ (c_X8_closed_ok l D cY H.size b rr n k fW g (by omega) (by omega) (by omega) (by omega) hW) (cwV 0 hts gL_law__X8_closed rfl rfl rfl (by decide +kernel) ⟨Nat.le_of_ble_eq_true rfl, Nat.le_of_ble_eq_true rfl⟩) (b_preV hVK hP hD [0, 1, 16, 4, 5] rfl rfl 0 rfl rfl) rfl rfl hl.1 rfl (lv_room (Nat.le_of_ble_eq_true rfl)) dL_law__1194 ⟨by omega, by omega⟩) hP hD hS hA [0, 1, 16, 4, 5] rfl rfl (fun _ => rfl) (fun r1194 uu H locs hq hP hD hS => ?_)
  subst hq
  have hP : va_P D vwCl (LB cY b rr a oo od n k n k fG fW fR fH fA fS fRs fOt fMi fEn fEb fPy fB fCc th fto fpay fcol fnow fthn foth fmnr fwts fmap fnxt fO fE).flatten H := hP
  have hD : va_D A (LB cY b rr a oo od n k n k fG fW fR fH fA fS fRs fOt fMi fEn fEb fPy fB fCc th fto fpay fcol fnow fthn foth fmnr fwts fmap fnxt fO fE).flatten := hD
  refine lv_aload_n hx hb dL_law__1197 rfl (lv_at hl 3 rfl) ?_
  refine ca_i (CL := [mO a (nI n) (nI k) th, [(a 1, .inl (cY 0, 72, .inl fto))]]) (va_runV (As := []) (rest := [.int (nI (nB (lowB g n k) n))]) ⟨hx, hb, hml, hown, hts⟩ (c_X9_closed l D cY H.size a n k th fto g (by omega) (by omega) (by omega) (by omega) hT hgn) (cwV 0 hts gL_law__X9_closed rfl rfl rfl (by decide +kernel) ⟨Nat.le_of_ble_eq_true rfl, Nat.le_of_ble_eq_true rfl⟩) (b_preV hVK hP hD [30, 31] rfl rfl 30 rfl rfl) rfl rfl hl.1 rfl (lv_room (Nat.le_of_ble_eq_true rfl)) dL_law__1198 ⟨by omega, by omega⟩) hP hD hS hA [30, 31] rfl rfl (fun _ => rfl) (fun r1198 uu H locs hq hP hD hS => ?_)
  subst hq
  have hP : va_P D vwCl (LB cY b rr a oo od n k n k fG fW fR fH fA fS fRs fOt fMi fEn fEb fPy fB fCc (nI 0) fto fpay fcol fnow fthn foth fmnr fwts fmap fnxt fO fE).flatten H := hP
  have hD : va_D A (LB cY b rr a oo od n k n k fG fW fR fH fA fS fRs fOt fMi fEn fEb fPy fB fCc (nI 0) fto fpay fcol fnow fthn foth fmnr fwts fmap fnxt fO fE).flatten := hD
  refine lv_icmp_eq (tgt := 1823) hx hb dL_law__1201 (by decide) (fun h1201 => ?_) (fun h1201 => ?_)
  · -- t
    refine W.widen (Nat.le_add_right cells 1) (Nat.le_add_right slots 6) ?_
    exact K n k g col fG fW fR fH fA fS fRs fOt fMi fEn fEb fPy fB fCc (nI 0) fto fpay fcol fnow fthn foth fmnr fwts fmap fnxt fO fE hI _ _ hP hD hS _ (lv_sub hl [0, 1, 2, 3, 4, 5] rfl)
  · -- f
    exact absurd (congrArg nI (closed_eq hgn hn6)) h1201

set_option maxHeartbeats 8000000 in
set_option maxRecDepth 100000 in
theorem lc_period {p : Program} {l : Launch} {e : Env} {s : State} {m : MethodId} {below : List Frame} {meth : Method} {c : Code} {H : Heap} {locs : List Loc} {cells slots : Nat} {Q : State → Prop} {D : va_G} {cY : Nat → ClassId} {A : Nat → Prop} {sc L : Nat} {xs : Nat → Int32} {b : Nat → Nat} {rr : Nat → Nat → Nat} {a : Nat → Nat} {oo od z0 : Nat} {ls : Array Slot} (E : LE p s m sc c D cY A L xs) (hlT : l.stackTraces = false) (hi4 : z0 + 4 ≤ L) (hL : L ≤ 2048) (hroom : cells + 1 ≤ room_1.cells ∧ slots + 6 ≤ room_1.slots) {n k : Nat} {g : Nat → Nat → Nat} {col : Nat → Nat} {fG fW : Nat → Nat → Int32} {fR fH fA fS : Nat → Nat → Int64} {fRs : Nat → Int64} {fOt : Nat → Int32} {fMi : Nat → Int64} {fEn fEb fPy : Nat → Int32} {fB : Nat → Nat → Int64} {fCc : Nat → Int32} {th : Int32} {fto fpay fcol : Nat → Int32} {fnow fthn foth fmnr fwts : Nat → Int64} {fmap fnxt : Nat → Int32} {fO : Nat → Int64} {fE : Nat → UInt64} (hI : LV n k g col fG fW fPy fCc fto fpay fcol) (hP : va_P D vwCl (LB cY b rr a oo od n k n k fG fW fR fH fA fS fRs fOt fMi fEn fEb fPy fB fCc th fto fpay fcol fnow fthn foth fmnr fwts fmap fnxt fO fE).flatten H) (hD : va_D A (LB cY b rr a oo od n k n k fG fW fR fH fA fS fRs fOt fMi fEn fEb fPy fB fCc th fto fpay fcol fnow fthn foth fmnr fwts fmap fnxt fO fE).flatten) (hS : va_S A s.heap H locs) (hl : lv_has ls 9 [(5, .int (nI z0)), (4, .ref od), (3, .ref oo), (2, .ref (a 0)), (1, .ref (b 0)), (0, .ref sc)]) (K : LK p l e s m below meth c sc D cY A b rr a oo od z0 cells slots Q) : W p l e room_1 s m #[Value.ref sc] below meth c H locs cells slots Q (F0 m 1206 ls []) := by
  obtain ⟨hx, hb, hml, hts, hown, hK, hVK, hA, hX, hH, hsc, hscl, hscA⟩ := E
  obtain ⟨⟨hn1, hn6, hk1, hk12⟩, hG, hgn, hW, hT, hPy, hC6⟩ := id hI
  rcases Bool.eq_false_or_eq_true (inR (xs (z0 + 1)) (nI 0) (nI (n - 1))) with hc1 | hc1
  · -- holds
    obtain ⟨i, hi_, e1⟩ := inR_of (by omega) hc1
    refine lv_aload_n hx hb dL_law__1206 rfl (lv_at hl 4 rfl) ?_
    refine lv_aload_n hx hb dL_law__1207 rfl (lv_at hl 5 rfl) ?_
    refine lv_iload hx hb dL_law__1208 (lv_at hl 0 rfl) ?_
    refine lv_iconst (v := nI 1) hx hb dL_law__1210 (by decide) ?_
    refine lv_iadd hx hb dL_law__1211 ?_
    refine eqi (x' := nI (z0 + 1)) (nI_add _ _) ?_
    refine s_ld hx hb hsc hscl hscA hS (by omega) hL dL_law__1212 ?_
    refine eqi (x' := nI i) e1 ?_
    refine lv_aload_n hx hb dL_law__1213 rfl (lv_at hl 2 rfl) ?_
    refine hh_i (CL := [hO b, cO b (nI n) (nI k), sO b, oQ (cY 2) (b 3) (rr 1) 6, gI (cY 0) (rr 1) 6 fW 6, [(oo, .inl (cY 1, 1, .inr (.inl fO)))]]) (vx_runSX (As := [.ref (b 0), .int (nI i), .ref oo]) (rest := []) ⟨hx, hb, hml, hown, hts⟩ (c_L_period_ok l D cY H.size b rr n k fW g i oo fO (by omega) (by omega) (by omega) (by omega) hW (by omega)) (vx_cwSW 3 hts gL_law__L_period rfl rfl rfl (by decide +kernel) ⟨Nat.le_of_ble_eq_true rfl, Nat.le_of_ble_eq_true rfl⟩) (b_preHS hVK hP hD hS hA hX hH [0, 1, 16, 4, 5, 41] rfl rfl) rfl rfl hl.1 rfl (lv_room (Nat.le_of_ble_eq_true rfl)) dL_law__1214 ⟨by omega, by omega⟩) hP hD hS hA [0, 1, 16, 4, 5, 41] rfl rfl (fun _ => rfl) (fun r1214 uu H locs hq hP hD hS => ?_)
    subst hq
    have hP : va_P D vwCl (LB cY b rr a oo od n k n k fG fW fR fH fA fS fRs fOt fMi fEn fEb fPy fB fCc th fto fpay fcol fnow fthn foth fmnr fwts fmap fnxt (vp_updL fO 0 ((nI (prC g n k i)).toInt64)) fE).flatten H := hP
    have hD : va_D A (LB cY b rr a oo od n k n k fG fW fR fH fA fS fRs fOt fMi fEn fEb fPy fB fCc th fto fpay fcol fnow fthn foth fmnr fwts fmap fnxt (vp_updL fO 0 ((nI (prC g n k i)).toInt64)) fE).flatten := hD
    refine lv_istore (lv' := [(6, .int (nI 0)), (5, .int (nI z0)), (4, .ref od), (3, .ref oo), (2, .ref (a 0)), (1, .ref (b 0)), (0, .ref sc)]) hx hb dL_law__1217 hl (by decide) rfl (fun ls hl => ?_)
    refine lv_aload_n hx hb dL_law__1219 rfl (lv_at hl 4 rfl) ?_
    refine lv_aload_n hx hb dL_law__1220 rfl (lv_at hl 6 rfl) ?_
    refine lv_iload hx hb dL_law__1221 (lv_at hl 1 rfl) ?_
    refine lv_iconst (v := nI 1) hx hb dL_law__1223 (by decide) ?_
    refine lv_iadd hx hb dL_law__1224 ?_
    refine eqi (x' := nI (z0 + 1)) (nI_add _ _) ?_
    refine s_ld hx hb hsc hscl hscA hS (by omega) hL dL_law__1225 ?_
    refine eqi (x' := nI i) e1 ?_
    refine ca_i (CL := [mO a (nI n) (nI k) th, [(a 1, .inl (cY 0, 72, .inl fto))]]) (va_runV (As := [.int (nI i)]) (rest := []) ⟨hx, hb, hml, hown, hts⟩ (c_X9_period l D cY H.size a n k th fto g i (by omega) (by omega) (by omega) (by omega) hT hgn (by omega)) (cwV 1 hts gL_law__X9_period rfl rfl rfl (by decide +kernel) ⟨Nat.le_of_ble_eq_true rfl, Nat.le_of_ble_eq_true rfl⟩) (b_preV hVK hP hD [30, 31] rfl rfl 30 rfl rfl) rfl rfl hl.1 rfl (lv_room (Nat.le_of_ble_eq_true rfl)) dL_law__1226 ⟨by omega, by omega⟩) hP hD hS hA [30, 31] rfl rfl (fun _ => rfl) (fun r1226 uu H locs hq hP hD hS => ?_)
    subst hq
    have hP : va_P D vwCl (LB cY b rr a oo od n k n k fG fW fR fH fA fS fRs fOt fMi fEn fEb fPy fB fCc (nI 0) fto fpay fcol fnow fthn foth fmnr fwts fmap fnxt (vp_updL fO 0 ((nI (prC g n k i)).toInt64)) fE).flatten H := hP
    have hD : va_D A (LB cY b rr a oo od n k n k fG fW fR fH fA fS fRs fOt fMi fEn fEb fPy fB fCc (nI 0) fto fpay fcol fnow fthn foth fmnr fwts fmap fnxt (vp_updL fO 0 ((nI (prC g n k i)).toInt64)) fE).flatten := hD
    refine lv_istore (lv' := [(7, .int (nI (prd g n k i 40))), (6, .int (nI 0)), (5, .int (nI z0)), (4, .ref od), (3, .ref oo), (2, .ref (a 0)), (1, .ref (b 0)), (0, .ref sc)]) hx hb dL_law__1229 hl (by decide) rfl (fun ls hl => ?_)
    refine lv_aload_n hx hb dL_law__1231 rfl (lv_at hl 5 rfl) ?_
    refine ca_i (CL := [mO a (nI n) (nI k) (nI 0)]) (va_runV (As := []) (rest := []) ⟨hx, hb, hml, hown, hts⟩ (c_X9_thrown l D cY H.size a n k (nI 0)) (cwV 0 hts gL_law__X9_thrown rfl rfl rfl (by decide +kernel) ⟨Nat.le_of_ble_eq_true rfl, Nat.le_of_ble_eq_true rfl⟩) (b_preV hVK hP hD [30] rfl rfl 30 rfl rfl) rfl rfl hl.1 rfl (lv_room (Nat.le_of_ble_eq_true rfl)) dL_law__1232 ⟨by omega, by omega⟩) hP hD hS hA [30] rfl rfl (fun _ => rfl) (fun r1232 uu H locs hq hP hD hS => ?_)
    subst hq
    have hP : va_P D vwCl (LB cY b rr a oo od n k n k fG fW fR fH fA fS fRs fOt fMi fEn fEb fPy fB fCc (nI 0) fto fpay fcol fnow fthn foth fmnr fwts fmap fnxt (vp_updL fO 0 ((nI (prC g n k i)).toInt64)) fE).flatten H := hP
    have hD : va_D A (LB cY b rr a oo od n k n k fG fW fR fH fA fS fRs fOt fMi fEn fEb fPy fB fCc (nI 0) fto fpay fcol fnow fthn foth fmnr fwts fmap fnxt (vp_updL fO 0 ((nI (prC g n k i)).toInt64)) fE).flatten := hD
    refine lv_iload hx hb dL_law__1235 (lv_at hl 1 rfl) ?_
    refine n_icmp_eq (tgt := 1242) hx hb dL_law__1237 (by decide) (by omega) (by omega) (fun h1237 => ?_) (fun h1237 => ?_)
    · -- t
      refine lv_iload hx hb dL_law__1242 (lv_at hl 1 rfl) ?_
      refine n_if_ne (tgt := 1259) hx hb dL_law__1244 (by decide) (by omega) (fun h1244 => ?_) (fun h1244 => ?_)
      · -- t
        exact absurd rfl h1244
      · -- f
        refine lv_aload_n hx hb dL_law__1247 rfl (lv_at hl 4 rfl) ?_
        refine lv_iconst (v := nI 0) hx hb dL_law__1248 (by decide) ?_
        refine b_lald hx hb hK hP 41 1 rfl rfl (by omega) (by omega) dL_law__1249 ?_
        refine eql (x' := (nI (prC g n k i)).toInt64) pk_uLs ?_
        refine lv_iload hx hb dL_law__1250 (lv_at hl 0 rfl) ?_
        refine lv_i2l (v := (nI (prd g n k i 40)).toInt64) hx hb dL_law__1252 rfl ?_
        refine W.lcmp hx hb dL_law__1253 ?_
        refine l_if_eq (tgt := 1259) hx hb dL_law__1254 (by decide) (fun h1254 => ?_) (fun h1254 => ?_)
        · -- t
          refine lv_goto (tgt := 1823) hx hb dL_law__1259 (by decide) ?_
          refine W.widen (Nat.le_add_right cells 1) (Nat.le_add_right slots 6) ?_
          exact K n k g col fG fW fR fH fA fS fRs fOt fMi fEn fEb fPy fB fCc (nI 0) fto fpay fcol fnow fthn foth fmnr fwts fmap fnxt (vp_updL fO 0 ((nI (prC g n k i)).toInt64)) fE hI _ _ hP hD hS _ (lv_sub hl [2, 3, 4, 5, 6, 7] rfl)
        · -- f
          exact absurd (congrArg (fun z => (nI z).toInt64) (period_eq hgn hn6 (by omega))) h1254
    · -- f
      exact absurd rfl h1237
  · -- not
    refine lv_aload_n hx hb dL_law__1206 rfl (lv_at hl 4 rfl) ?_
    refine lv_aload_n hx hb dL_law__1207 rfl (lv_at hl 5 rfl) ?_
    refine lv_iload hx hb dL_law__1208 (lv_at hl 0 rfl) ?_
    refine lv_iconst (v := nI 1) hx hb dL_law__1210 (by decide) ?_
    refine lv_iadd hx hb dL_law__1211 ?_
    refine eqi (x' := nI (z0 + 1)) (nI_add _ _) ?_
    refine s_ld hx hb hsc hscl hscA hS (by omega) hL dL_law__1212 ?_
    refine lv_aload_n hx hb dL_law__1213 rfl (lv_at hl 2 rfl) ?_
    refine hh_i (CL := [hO b, cO b (nI n) (nI k), [(oo, .inl (cY 1, 1, .inr (.inl fO)))]]) (vx_runSX (As := [.ref (b 0), .int (xs (z0 + 1)), .ref oo]) (rest := []) ⟨hx, hb, hml, hown, hts⟩ (c_L_period_bad l D cY H.size b n k (xs (z0 + 1)) oo fO hlT (by omega) (by omega) (by omega) (by omega) hc1) (vx_cwSW 3 hts gL_law__L_period rfl rfl rfl (by decide +kernel) ⟨Nat.le_of_ble_eq_true rfl, Nat.le_of_ble_eq_true rfl⟩) (b_preHS hVK hP hD hS hA hX hH [0, 1, 41] rfl rfl) rfl rfl hl.1 rfl (lv_room (Nat.le_of_ble_eq_true rfl)) dL_law__1214 ⟨by omega, by omega⟩) hP hD hS hA [0, 1, 41] rfl rfl (fun _ => rfl) (fun r1214 uu H locs hq hP hD hS => ?_)
    subst hq
    have hP : va_P D vwCl (LB cY b rr a oo od n k n k fG fW fR fH fA fS fRs fOt fMi fEn fEb fPy fB fCc th fto fpay fcol fnow fthn foth fmnr fwts fmap fnxt fO fE).flatten H := hP
    have hD : va_D A (LB cY b rr a oo od n k n k fG fW fR fH fA fS fRs fOt fMi fEn fEb fPy fB fCc th fto fpay fcol fnow fthn foth fmnr fwts fmap fnxt fO fE).flatten := hD
    refine lv_istore (lv' := [(6, .int (nI 1)), (5, .int (nI z0)), (4, .ref od), (3, .ref oo), (2, .ref (a 0)), (1, .ref (b 0)), (0, .ref sc)]) hx hb dL_law__1217 hl (by decide) rfl (fun ls hl => ?_)
    refine lv_aload_n hx hb dL_law__1219 rfl (lv_at hl 4 rfl) ?_
    refine lv_aload_n hx hb dL_law__1220 rfl (lv_at hl 6 rfl) ?_
    refine lv_iload hx hb dL_law__1221 (lv_at hl 1 rfl) ?_
    refine lv_iconst (v := nI 1) hx hb dL_law__1223 (by decide) ?_
    refine lv_iadd hx hb dL_law__1224 ?_
    refine eqi (x' := nI (z0 + 1)) (nI_add _ _) ?_
    refine s_ld hx hb hsc hscl hscA hS (by omega) hL dL_law__1225 ?_
    refine ca_i (CL := [mO a (nI n) (nI k) th]) (va_runV (As := [.int (xs (z0 + 1))]) (rest := []) ⟨hx, hb, hml, hown, hts⟩ (c_X9_period_bad l D cY H.size a n k th (xs (z0 + 1)) (by omega) (by omega) (by omega) (by omega) hc1) (cwV 1 hts gL_law__X9_period rfl rfl rfl (by decide +kernel) ⟨Nat.le_of_ble_eq_true rfl, Nat.le_of_ble_eq_true rfl⟩) (b_preV hVK hP hD [30] rfl rfl 30 rfl rfl) rfl rfl hl.1 rfl (lv_room (Nat.le_of_ble_eq_true rfl)) dL_law__1226 ⟨by omega, by omega⟩) hP hD hS hA [30] rfl rfl (fun _ => rfl) (fun r1226 uu H locs hq hP hD hS => ?_)
    subst hq
    have hP : va_P D vwCl (LB cY b rr a oo od n k n k fG fW fR fH fA fS fRs fOt fMi fEn fEb fPy fB fCc (nI 1) fto fpay fcol fnow fthn foth fmnr fwts fmap fnxt fO fE).flatten H := hP
    have hD : va_D A (LB cY b rr a oo od n k n k fG fW fR fH fA fS fRs fOt fMi fEn fEb fPy fB fCc (nI 1) fto fpay fcol fnow fthn foth fmnr fwts fmap fnxt fO fE).flatten := hD
    refine lv_istore (lv' := [(7, .int (nI 0)), (6, .int (nI 1)), (5, .int (nI z0)), (4, .ref od), (3, .ref oo), (2, .ref (a 0)), (1, .ref (b 0)), (0, .ref sc)]) hx hb dL_law__1229 hl (by decide) rfl (fun ls hl => ?_)
    refine lv_aload_n hx hb dL_law__1231 rfl (lv_at hl 5 rfl) ?_
    refine ca_i (CL := [mO a (nI n) (nI k) (nI 1)]) (va_runV (As := []) (rest := []) ⟨hx, hb, hml, hown, hts⟩ (c_X9_thrown l D cY H.size a n k (nI 1)) (cwV 0 hts gL_law__X9_thrown rfl rfl rfl (by decide +kernel) ⟨Nat.le_of_ble_eq_true rfl, Nat.le_of_ble_eq_true rfl⟩) (b_preV hVK hP hD [30] rfl rfl 30 rfl rfl) rfl rfl hl.1 rfl (lv_room (Nat.le_of_ble_eq_true rfl)) dL_law__1232 ⟨by omega, by omega⟩) hP hD hS hA [30] rfl rfl (fun _ => rfl) (fun r1232 uu H locs hq hP hD hS => ?_)
    subst hq
    have hP : va_P D vwCl (LB cY b rr a oo od n k n k fG fW fR fH fA fS fRs fOt fMi fEn fEb fPy fB fCc (nI 1) fto fpay fcol fnow fthn foth fmnr fwts fmap fnxt fO fE).flatten H := hP
    have hD : va_D A (LB cY b rr a oo od n k n k fG fW fR fH fA fS fRs fOt fMi fEn fEb fPy fB fCc (nI 1) fto fpay fcol fnow fthn foth fmnr fwts fmap fnxt fO fE).flatten := hD
    refine lv_iload hx hb dL_law__1235 (lv_at hl 1 rfl) ?_
    refine n_icmp_eq (tgt := 1242) hx hb dL_law__1237 (by decide) (by omega) (by omega) (fun h1237 => ?_) (fun h1237 => ?_)
    · -- t
      refine lv_iload hx hb dL_law__1242 (lv_at hl 1 rfl) ?_
      refine n_if_ne (tgt := 1259) hx hb dL_law__1244 (by decide) (by omega) (fun h1244 => ?_) (fun h1244 => ?_)
      · -- t
        refine lv_goto (tgt := 1823) hx hb dL_law__1259 (by decide) ?_
        exact K n k g col fG fW fR fH fA fS fRs fOt fMi fEn fEb fPy fB fCc (nI 1) fto fpay fcol fnow fthn foth fmnr fwts fmap fnxt fO fE hI _ _ hP hD hS _ (lv_sub hl [2, 3, 4, 5, 6, 7] rfl)
      · -- f
        exact absurd h1244 (by decide)
    · -- f
      exact absurd rfl h1237

set_option maxHeartbeats 8000000 in
set_option maxRecDepth 100000 in
theorem lc_rest {p : Program} {l : Launch} {e : Env} {s : State} {m : MethodId} {below : List Frame} {meth : Method} {c : Code} {H : Heap} {locs : List Loc} {cells slots : Nat} {Q : State → Prop} {D : va_G} {cY : Nat → ClassId} {A : Nat → Prop} {sc L : Nat} {xs : Nat → Int32} {b : Nat → Nat} {rr : Nat → Nat → Nat} {a : Nat → Nat} {oo od z0 : Nat} {ls : Array Slot} (E : LE p s m sc c D cY A L xs) (hlT : l.stackTraces = false) (hi4 : z0 + 4 ≤ L) (hL : L ≤ 2048) (hroom : cells + 1 ≤ room_1.cells ∧ slots + 6 ≤ room_1.slots) {n k : Nat} {g : Nat → Nat → Nat} {col : Nat → Nat} {fG fW : Nat → Nat → Int32} {fR fH fA fS : Nat → Nat → Int64} {fRs : Nat → Int64} {fOt : Nat → Int32} {fMi : Nat → Int64} {fEn fEb fPy : Nat → Int32} {fB : Nat → Nat → Int64} {fCc : Nat → Int32} {th : Int32} {fto fpay fcol : Nat → Int32} {fnow fthn foth fmnr fwts : Nat → Int64} {fmap fnxt : Nat → Int32} {fO : Nat → Int64} {fE : Nat → UInt64} (hI : LV n k g col fG fW fPy fCc fto fpay fcol) (hP : va_P D vwCl (LB cY b rr a oo od n k n k fG fW fR fH fA fS fRs fOt fMi fEn fEb fPy fB fCc th fto fpay fcol fnow fthn foth fmnr fwts fmap fnxt fO fE).flatten H) (hD : va_D A (LB cY b rr a oo od n k n k fG fW fR fH fA fS fRs fOt fMi fEn fEb fPy fB fCc th fto fpay fcol fnow fthn foth fmnr fwts fmap fnxt fO fE).flatten) (hS : va_S A s.heap H locs) (hl : lv_has ls 9 [(5, .int (nI z0)), (4, .ref od), (3, .ref oo), (2, .ref (a 0)), (1, .ref (b 0)), (0, .ref sc)]) (K : LK p l e s m below meth c sc D cY A b rr a oo od z0 cells slots Q) : W p l e room_1 s m #[Value.ref sc] below meth c H locs cells slots Q (F0 m 1262 ls []) := by
  obtain ⟨hx, hb, hml, hts, hown, hK, hVK, hA, hX, hH, hsc, hscl, hscA⟩ := E
  obtain ⟨⟨hn1, hn6, hk1, hk12⟩, hG, hgn, hW, hT, hPy, hC6⟩ := id hI
  by_cases hm1 : xs (z0 + 1) = (-1)
  · -- t
    refine lv_aload_n hx hb dL_law__1262 rfl (lv_at hl 4 rfl) ?_
    refine lv_aload_n hx hb dL_law__1263 rfl (lv_at hl 5 rfl) ?_
    refine lv_iload hx hb dL_law__1264 (lv_at hl 0 rfl) ?_
    refine lv_iconst (v := nI 1) hx hb dL_law__1266 (by decide) ?_
    refine lv_iadd hx hb dL_law__1267 ?_
    refine eqi (x' := nI (z0 + 1)) (nI_add _ _) ?_
    refine s_ld hx hb hsc hscl hscA hS (by omega) hL dL_law__1268 ?_
    refine eqi (x' := (-1)) hm1 ?_
    refine lv_aload_n hx hb dL_law__1269 rfl (lv_at hl 2 rfl) ?_
    refine hh_i (CL := [hO b, cO b (nI n) (nI k), tO b, oQ (cY 2) (b 3) (rr 1) 6, gI (cY 0) (rr 1) 6 fW 6, [(b 12, .inl (cY 1, 6, .inr (.inl fRs)))], [(b 13, .inl (cY 0, 6, .inl fOt))], [(b 14, .inl (cY 1, 32, .inr (.inl fMi)))], [(oo, .inl (cY 1, 1, .inr (.inl fO)))]]) (vx_runSX (As := [.ref (b 0), .int (-1), .ref oo]) (rest := []) ⟨hx, hb, hml, hown, hts⟩ (c_L_rest_all l D cY H.size b rr n k fW fRs fOt fMi g oo fO (by omega) (by omega) (by omega) (by omega) hW) (vx_cwSW 3 hts gL_law__L_rest rfl rfl rfl (by decide +kernel) ⟨Nat.le_of_ble_eq_true rfl, Nat.le_of_ble_eq_true rfl⟩) (b_preHS hVK hP hD hS hA hX hH [0, 1, 17, 4, 5, 18, 19, 20, 41] rfl rfl) rfl rfl hl.1 rfl (lv_room (Nat.le_of_ble_eq_true rfl)) dL_law__1270 ⟨by omega, by omega⟩) hP hD hS hA [0, 1, 17, 4, 5, 18, 19, 20, 41] rfl rfl (fun _ => rfl) (fun r1270 uu H locs hq hP hD hS => ?_)
    obtain ⟨fRs1_1, fOt1_2, fMi1_3⟩ := uu
    try dsimp only at hq
    subst hq
    have hP : va_P D vwCl (LB cY b rr a oo od n k n k fG fW fR fH fA fS fRs1_1 fOt1_2 fMi1_3 fEn fEb fPy fB fCc th fto fpay fcol fnow fthn foth fmnr fwts fmap fnxt (vp_updL fO 0 (WR g n k)) fE).flatten H := hP
    have hD : va_D A (LB cY b rr a oo od n k n k fG fW fR fH fA fS fRs1_1 fOt1_2 fMi1_3 fEn fEb fPy fB fCc th fto fpay fcol fnow fthn foth fmnr fwts fmap fnxt (vp_updL fO 0 (WR g n k)) fE).flatten := hD
    refine lv_istore (lv' := [(6, .int (nI 0)), (5, .int (nI z0)), (4, .ref od), (3, .ref oo), (2, .ref (a 0)), (1, .ref (b 0)), (0, .ref sc)]) hx hb dL_law__1273 hl (by decide) rfl (fun ls hl => ?_)
    refine lv_aload_n hx hb dL_law__1275 rfl (lv_at hl 4 rfl) ?_
    refine lv_aload_n hx hb dL_law__1276 rfl (lv_at hl 6 rfl) ?_
    refine lv_iload hx hb dL_law__1277 (lv_at hl 1 rfl) ?_
    refine lv_iconst (v := nI 1) hx hb dL_law__1279 (by decide) ?_
    refine lv_iadd hx hb dL_law__1280 ?_
    refine eqi (x' := nI (z0 + 1)) (nI_add _ _) ?_
    refine s_ld hx hb hsc hscl hscA hS (by omega) hL dL_law__1281 ?_
    refine eqi (x' := (-1)) hm1 ?_
    refine ca_l (CL := [mO a (nI n) (nI k) th, [(a 1, .inl (cY 0, 72, .inl fto))], [(a 7, .inl (cY 1, 32, .inr (.inl fmnr)))], [(a 8, .inl (cY 1, 25, .inr (.inl fwts)))]]) (va_runV (As := [.int (-1)]) (rest := []) ⟨hx, hb, hml, hown, hts⟩ (c_X9_rest_all l D cY H.size a n k th fto fmnr fwts g (by omega) (by omega) (by omega) (by omega) hT hgn) (cwV 1 hts gL_law__X9_rest rfl rfl rfl (by decide +kernel) ⟨Nat.le_of_ble_eq_true rfl, Nat.le_of_ble_eq_true rfl⟩) (b_preV hVK hP hD [30, 31, 37, 38] rfl rfl 30 rfl rfl) rfl rfl hl.1 rfl (lv_room (Nat.le_of_ble_eq_true rfl)) dL_law__1282 ⟨by omega, by omega⟩) hP hD hS hA [30, 31, 37, 38] rfl rfl (fun _ => rfl) (fun r1282 uu H locs hq hP hD hS => ?_)
    obtain ⟨fmnr1_4, fwts1_5⟩ := uu
    try dsimp only at hq
    subst hq
    have hP : va_P D vwCl (LB cY b rr a oo od n k n k fG fW fR fH fA fS fRs1_1 fOt1_2 fMi1_3 fEn fEb fPy fB fCc (nI 0) fto fpay fcol fnow fthn foth fmnr1_4 fwts1_5 fmap fnxt (vp_updL fO 0 (WR g n k)) fE).flatten H := hP
    have hD : va_D A (LB cY b rr a oo od n k n k fG fW fR fH fA fS fRs1_1 fOt1_2 fMi1_3 fEn fEb fPy fB fCc (nI 0) fto fpay fcol fnow fthn foth fmnr1_4 fwts1_5 fmap fnxt (vp_updL fO 0 (WR g n k)) fE).flatten := hD
    refine lv_lstore (lv' := [(7, .long (WR g n k)), (6, .int (nI 0)), (5, .int (nI z0)), (4, .ref od), (3, .ref oo), (2, .ref (a 0)), (1, .ref (b 0)), (0, .ref sc)]) hx hb dL_law__1285 hl (by decide) rfl (fun ls hl => ?_)
    refine lv_aload_n hx hb dL_law__1287 rfl (lv_at hl 5 rfl) ?_
    refine ca_i (CL := [mO a (nI n) (nI k) (nI 0)]) (va_runV (As := []) (rest := []) ⟨hx, hb, hml, hown, hts⟩ (c_X9_thrown l D cY H.size a n k (nI 0)) (cwV 0 hts gL_law__X9_thrown rfl rfl rfl (by decide +kernel) ⟨Nat.le_of_ble_eq_true rfl, Nat.le_of_ble_eq_true rfl⟩) (b_preV hVK hP hD [30] rfl rfl 30 rfl rfl) rfl rfl hl.1 rfl (lv_room (Nat.le_of_ble_eq_true rfl)) dL_law__1288 ⟨by omega, by omega⟩) hP hD hS hA [30] rfl rfl (fun _ => rfl) (fun r1288 uu H locs hq hP hD hS => ?_)
    subst hq
    have hP : va_P D vwCl (LB cY b rr a oo od n k n k fG fW fR fH fA fS fRs1_1 fOt1_2 fMi1_3 fEn fEb fPy fB fCc (nI 0) fto fpay fcol fnow fthn foth fmnr1_4 fwts1_5 fmap fnxt (vp_updL fO 0 (WR g n k)) fE).flatten H := hP
    have hD : va_D A (LB cY b rr a oo od n k n k fG fW fR fH fA fS fRs1_1 fOt1_2 fMi1_3 fEn fEb fPy fB fCc (nI 0) fto fpay fcol fnow fthn foth fmnr1_4 fwts1_5 fmap fnxt (vp_updL fO 0 (WR g n k)) fE).flatten := hD
    refine lv_iload hx hb dL_law__1291 (lv_at hl 1 rfl) ?_
    refine n_icmp_eq (tgt := 1298) hx hb dL_law__1293 (by decide) (by omega) (by omega) (fun h1293 => ?_) (fun h1293 => ?_)
    · -- t
      refine lv_iload hx hb dL_law__1298 (lv_at hl 1 rfl) ?_
      refine n_if_ne (tgt := 1314) hx hb dL_law__1300 (by decide) (by omega) (fun h1300 => ?_) (fun h1300 => ?_)
      · -- t
        exact absurd rfl h1300
      · -- f
        refine lv_aload_n hx hb dL_law__1303 rfl (lv_at hl 4 rfl) ?_
        refine lv_iconst (v := nI 0) hx hb dL_law__1304 (by decide) ?_
        refine b_lald hx hb hK hP 41 1 rfl rfl (by omega) (by omega) dL_law__1305 ?_
        refine eql (x' := WR g n k) pk_uLs ?_
        refine lv_lload hx hb dL_law__1306 (lv_at hl 0 rfl) ?_
        refine W.lcmp hx hb dL_law__1308 ?_
        refine l_if_eq (tgt := 1314) hx hb dL_law__1309 (by decide) (fun h1309 => ?_) (fun h1309 => ?_)
        · -- t
          refine lv_goto (tgt := 1823) hx hb dL_law__1314 (by decide) ?_
          refine W.widen (Nat.le_add_right cells 1) (Nat.le_add_right slots 6) ?_
          exact K n k g col fG fW fR fH fA fS fRs1_1 fOt1_2 fMi1_3 fEn fEb fPy fB fCc (nI 0) fto fpay fcol fnow fthn foth fmnr1_4 fwts1_5 fmap fnxt (vp_updL fO 0 (WR g n k)) fE hI _ _ hP hD hS _ (lv_sub hl [2, 3, 4, 5, 6, 7] rfl)
        · -- f
          exact absurd (rfl) h1309
    · -- f
      exact absurd rfl h1293
  · -- f
    rcases Bool.eq_false_or_eq_true (inR (xs (z0 + 1)) (nI 0) (nI (n - 1))) with hc1 | hc1
    · -- ok
      obtain ⟨i, hi_, e1⟩ := inR_of (by omega) hc1
      refine lv_aload_n hx hb dL_law__1262 rfl (lv_at hl 4 rfl) ?_
      refine lv_aload_n hx hb dL_law__1263 rfl (lv_at hl 5 rfl) ?_
      refine lv_iload hx hb dL_law__1264 (lv_at hl 0 rfl) ?_
      refine lv_iconst (v := nI 1) hx hb dL_law__1266 (by decide) ?_
      refine lv_iadd hx hb dL_law__1267 ?_
      refine eqi (x' := nI (z0 + 1)) (nI_add _ _) ?_
      refine s_ld hx hb hsc hscl hscA hS (by omega) hL dL_law__1268 ?_
      refine eqi (x' := nI i) e1 ?_
      refine lv_aload_n hx hb dL_law__1269 rfl (lv_at hl 2 rfl) ?_
      refine hh_i (CL := [hO b, cO b (nI n) (nI k), tO b, oQ (cY 2) (b 3) (rr 1) 6, gI (cY 0) (rr 1) 6 fW 6, [(b 13, .inl (cY 0, 6, .inl fOt))], [(b 14, .inl (cY 1, 32, .inr (.inl fMi)))], [(oo, .inl (cY 1, 1, .inr (.inl fO)))]]) (vx_runSX (As := [.ref (b 0), .int (nI i), .ref oo]) (rest := []) ⟨hx, hb, hml, hown, hts⟩ (c_L_rest_ok l D cY H.size b rr n k fW fOt fMi g i oo fO (by omega) (by omega) (by omega) (by omega) hW (by omega)) (vx_cwSW 3 hts gL_law__L_rest rfl rfl rfl (by decide +kernel) ⟨Nat.le_of_ble_eq_true rfl, Nat.le_of_ble_eq_true rfl⟩) (b_preHS hVK hP hD hS hA hX hH [0, 1, 17, 4, 5, 19, 20, 41] rfl rfl) rfl rfl hl.1 rfl (lv_room (Nat.le_of_ble_eq_true rfl)) dL_law__1270 ⟨by omega, by omega⟩) hP hD hS hA [0, 1, 17, 4, 5, 19, 20, 41] rfl rfl (fun _ => rfl) (fun r1270 uu H locs hq hP hD hS => ?_)
      obtain ⟨fOt1_6, fMi1_7⟩ := uu
      try dsimp only at hq
      subst hq
      have hP : va_P D vwCl (LB cY b rr a oo od n k n k fG fW fR fH fA fS fRs fOt1_6 fMi1_7 fEn fEb fPy fB fCc th fto fpay fcol fnow fthn foth fmnr fwts fmap fnxt (vp_updL fO 0 (RV g n k i)) fE).flatten H := hP
      have hD : va_D A (LB cY b rr a oo od n k n k fG fW fR fH fA fS fRs fOt1_6 fMi1_7 fEn fEb fPy fB fCc th fto fpay fcol fnow fthn foth fmnr fwts fmap fnxt (vp_updL fO 0 (RV g n k i)) fE).flatten := hD
      refine lv_istore (lv' := [(6, .int (nI 0)), (5, .int (nI z0)), (4, .ref od), (3, .ref oo), (2, .ref (a 0)), (1, .ref (b 0)), (0, .ref sc)]) hx hb dL_law__1273 hl (by decide) rfl (fun ls hl => ?_)
      refine lv_aload_n hx hb dL_law__1275 rfl (lv_at hl 4 rfl) ?_
      refine lv_aload_n hx hb dL_law__1276 rfl (lv_at hl 6 rfl) ?_
      refine lv_iload hx hb dL_law__1277 (lv_at hl 1 rfl) ?_
      refine lv_iconst (v := nI 1) hx hb dL_law__1279 (by decide) ?_
      refine lv_iadd hx hb dL_law__1280 ?_
      refine eqi (x' := nI (z0 + 1)) (nI_add _ _) ?_
      refine s_ld hx hb hsc hscl hscA hS (by omega) hL dL_law__1281 ?_
      refine eqi (x' := nI i) e1 ?_
      refine ca_l (CL := [mO a (nI n) (nI k) th, [(a 1, .inl (cY 0, 72, .inl fto))], [(a 7, .inl (cY 1, 32, .inr (.inl fmnr)))], [(a 8, .inl (cY 1, 25, .inr (.inl fwts)))]]) (va_runV (As := [.int (nI i)]) (rest := []) ⟨hx, hb, hml, hown, hts⟩ (c_X9_rest_ok l D cY H.size a n k th fto fmnr fwts g i (by omega) (by omega) (by omega) (by omega) hT hgn (by omega)) (cwV 1 hts gL_law__X9_rest rfl rfl rfl (by decide +kernel) ⟨Nat.le_of_ble_eq_true rfl, Nat.le_of_ble_eq_true rfl⟩) (b_preV hVK hP hD [30, 31, 37, 38] rfl rfl 30 rfl rfl) rfl rfl hl.1 rfl (lv_room (Nat.le_of_ble_eq_true rfl)) dL_law__1282 ⟨by omega, by omega⟩) hP hD hS hA [30, 31, 37, 38] rfl rfl (fun _ => rfl) (fun r1282 uu H locs hq hP hD hS => ?_)
      obtain ⟨fmnr1_8, fwts1_9⟩ := uu
      try dsimp only at hq
      subst hq
      have hP : va_P D vwCl (LB cY b rr a oo od n k n k fG fW fR fH fA fS fRs fOt1_6 fMi1_7 fEn fEb fPy fB fCc (nI 0) fto fpay fcol fnow fthn foth fmnr1_8 fwts1_9 fmap fnxt (vp_updL fO 0 (RV g n k i)) fE).flatten H := hP
      have hD : va_D A (LB cY b rr a oo od n k n k fG fW fR fH fA fS fRs fOt1_6 fMi1_7 fEn fEb fPy fB fCc (nI 0) fto fpay fcol fnow fthn foth fmnr1_8 fwts1_9 fmap fnxt (vp_updL fO 0 (RV g n k i)) fE).flatten := hD
      refine lv_lstore (lv' := [(7, .long (RV g n k i)), (6, .int (nI 0)), (5, .int (nI z0)), (4, .ref od), (3, .ref oo), (2, .ref (a 0)), (1, .ref (b 0)), (0, .ref sc)]) hx hb dL_law__1285 hl (by decide) rfl (fun ls hl => ?_)
      refine lv_aload_n hx hb dL_law__1287 rfl (lv_at hl 5 rfl) ?_
      refine ca_i (CL := [mO a (nI n) (nI k) (nI 0)]) (va_runV (As := []) (rest := []) ⟨hx, hb, hml, hown, hts⟩ (c_X9_thrown l D cY H.size a n k (nI 0)) (cwV 0 hts gL_law__X9_thrown rfl rfl rfl (by decide +kernel) ⟨Nat.le_of_ble_eq_true rfl, Nat.le_of_ble_eq_true rfl⟩) (b_preV hVK hP hD [30] rfl rfl 30 rfl rfl) rfl rfl hl.1 rfl (lv_room (Nat.le_of_ble_eq_true rfl)) dL_law__1288 ⟨by omega, by omega⟩) hP hD hS hA [30] rfl rfl (fun _ => rfl) (fun r1288 uu H locs hq hP hD hS => ?_)
      subst hq
      have hP : va_P D vwCl (LB cY b rr a oo od n k n k fG fW fR fH fA fS fRs fOt1_6 fMi1_7 fEn fEb fPy fB fCc (nI 0) fto fpay fcol fnow fthn foth fmnr1_8 fwts1_9 fmap fnxt (vp_updL fO 0 (RV g n k i)) fE).flatten H := hP
      have hD : va_D A (LB cY b rr a oo od n k n k fG fW fR fH fA fS fRs fOt1_6 fMi1_7 fEn fEb fPy fB fCc (nI 0) fto fpay fcol fnow fthn foth fmnr1_8 fwts1_9 fmap fnxt (vp_updL fO 0 (RV g n k i)) fE).flatten := hD
      refine lv_iload hx hb dL_law__1291 (lv_at hl 1 rfl) ?_
      refine n_icmp_eq (tgt := 1298) hx hb dL_law__1293 (by decide) (by omega) (by omega) (fun h1293 => ?_) (fun h1293 => ?_)
      · -- t
        refine lv_iload hx hb dL_law__1298 (lv_at hl 1 rfl) ?_
        refine n_if_ne (tgt := 1314) hx hb dL_law__1300 (by decide) (by omega) (fun h1300 => ?_) (fun h1300 => ?_)
        · -- t
          exact absurd rfl h1300
        · -- f
          refine lv_aload_n hx hb dL_law__1303 rfl (lv_at hl 4 rfl) ?_
          refine lv_iconst (v := nI 0) hx hb dL_law__1304 (by decide) ?_
          refine b_lald hx hb hK hP 41 1 rfl rfl (by omega) (by omega) dL_law__1305 ?_
          refine eql (x' := RV g n k i) pk_uLs ?_
          refine lv_lload hx hb dL_law__1306 (lv_at hl 0 rfl) ?_
          refine W.lcmp hx hb dL_law__1308 ?_
          refine l_if_eq (tgt := 1314) hx hb dL_law__1309 (by decide) (fun h1309 => ?_) (fun h1309 => ?_)
          · -- t
            refine lv_goto (tgt := 1823) hx hb dL_law__1314 (by decide) ?_
            refine W.widen (Nat.le_add_right cells 1) (Nat.le_add_right slots 6) ?_
            exact K n k g col fG fW fR fH fA fS fRs fOt1_6 fMi1_7 fEn fEb fPy fB fCc (nI 0) fto fpay fcol fnow fthn foth fmnr1_8 fwts1_9 fmap fnxt (vp_updL fO 0 (RV g n k i)) fE hI _ _ hP hD hS _ (lv_sub hl [2, 3, 4, 5, 6, 7] rfl)
          · -- f
            exact absurd (rfl) h1309
      · -- f
        exact absurd rfl h1293
    · -- bad
      refine lv_aload_n hx hb dL_law__1262 rfl (lv_at hl 4 rfl) ?_
      refine lv_aload_n hx hb dL_law__1263 rfl (lv_at hl 5 rfl) ?_
      refine lv_iload hx hb dL_law__1264 (lv_at hl 0 rfl) ?_
      refine lv_iconst (v := nI 1) hx hb dL_law__1266 (by decide) ?_
      refine lv_iadd hx hb dL_law__1267 ?_
      refine eqi (x' := nI (z0 + 1)) (nI_add _ _) ?_
      refine s_ld hx hb hsc hscl hscA hS (by omega) hL dL_law__1268 ?_
      refine lv_aload_n hx hb dL_law__1269 rfl (lv_at hl 2 rfl) ?_
      refine hh_i (CL := [hO b, cO b (nI n) (nI k), [(oo, .inl (cY 1, 1, .inr (.inl fO)))]]) (vx_runSX (As := [.ref (b 0), .int (xs (z0 + 1)), .ref oo]) (rest := []) ⟨hx, hb, hml, hown, hts⟩ (c_L_rest_bad l D cY H.size b n k (xs (z0 + 1)) oo fO hlT (by omega) (by omega) (by omega) (by omega) hm1 hc1) (vx_cwSW 3 hts gL_law__L_rest rfl rfl rfl (by decide +kernel) ⟨Nat.le_of_ble_eq_true rfl, Nat.le_of_ble_eq_true rfl⟩) (b_preHS hVK hP hD hS hA hX hH [0, 1, 41] rfl rfl) rfl rfl hl.1 rfl (lv_room (Nat.le_of_ble_eq_true rfl)) dL_law__1270 ⟨by omega, by omega⟩) hP hD hS hA [0, 1, 41] rfl rfl (fun _ => rfl) (fun r1270 uu H locs hq hP hD hS => ?_)
      subst hq
      have hP : va_P D vwCl (LB cY b rr a oo od n k n k fG fW fR fH fA fS fRs fOt fMi fEn fEb fPy fB fCc th fto fpay fcol fnow fthn foth fmnr fwts fmap fnxt fO fE).flatten H := hP
      have hD : va_D A (LB cY b rr a oo od n k n k fG fW fR fH fA fS fRs fOt fMi fEn fEb fPy fB fCc th fto fpay fcol fnow fthn foth fmnr fwts fmap fnxt fO fE).flatten := hD
      refine lv_istore (lv' := [(6, .int (nI 1)), (5, .int (nI z0)), (4, .ref od), (3, .ref oo), (2, .ref (a 0)), (1, .ref (b 0)), (0, .ref sc)]) hx hb dL_law__1273 hl (by decide) rfl (fun ls hl => ?_)
      refine lv_aload_n hx hb dL_law__1275 rfl (lv_at hl 4 rfl) ?_
      refine lv_aload_n hx hb dL_law__1276 rfl (lv_at hl 6 rfl) ?_
      refine lv_iload hx hb dL_law__1277 (lv_at hl 1 rfl) ?_
      refine lv_iconst (v := nI 1) hx hb dL_law__1279 (by decide) ?_
      refine lv_iadd hx hb dL_law__1280 ?_
      refine eqi (x' := nI (z0 + 1)) (nI_add _ _) ?_
      refine s_ld hx hb hsc hscl hscA hS (by omega) hL dL_law__1281 ?_
      refine ca_l (CL := [mO a (nI n) (nI k) th]) (va_runV (As := [.int (xs (z0 + 1))]) (rest := []) ⟨hx, hb, hml, hown, hts⟩ (c_X9_rest_bad l D cY H.size a n k th (xs (z0 + 1)) (by omega) (by omega) (by omega) (by omega) hm1 hc1) (cwV 1 hts gL_law__X9_rest rfl rfl rfl (by decide +kernel) ⟨Nat.le_of_ble_eq_true rfl, Nat.le_of_ble_eq_true rfl⟩) (b_preV hVK hP hD [30] rfl rfl 30 rfl rfl) rfl rfl hl.1 rfl (lv_room (Nat.le_of_ble_eq_true rfl)) dL_law__1282 ⟨by omega, by omega⟩) hP hD hS hA [30] rfl rfl (fun _ => rfl) (fun r1282 uu H locs hq hP hD hS => ?_)
      subst hq
      have hP : va_P D vwCl (LB cY b rr a oo od n k n k fG fW fR fH fA fS fRs fOt fMi fEn fEb fPy fB fCc (nI 1) fto fpay fcol fnow fthn foth fmnr fwts fmap fnxt fO fE).flatten H := hP
      have hD : va_D A (LB cY b rr a oo od n k n k fG fW fR fH fA fS fRs fOt fMi fEn fEb fPy fB fCc (nI 1) fto fpay fcol fnow fthn foth fmnr fwts fmap fnxt fO fE).flatten := hD
      refine lv_lstore (lv' := [(7, .long (lN 0)), (6, .int (nI 1)), (5, .int (nI z0)), (4, .ref od), (3, .ref oo), (2, .ref (a 0)), (1, .ref (b 0)), (0, .ref sc)]) hx hb dL_law__1285 hl (by decide) rfl (fun ls hl => ?_)
      refine lv_aload_n hx hb dL_law__1287 rfl (lv_at hl 5 rfl) ?_
      refine ca_i (CL := [mO a (nI n) (nI k) (nI 1)]) (va_runV (As := []) (rest := []) ⟨hx, hb, hml, hown, hts⟩ (c_X9_thrown l D cY H.size a n k (nI 1)) (cwV 0 hts gL_law__X9_thrown rfl rfl rfl (by decide +kernel) ⟨Nat.le_of_ble_eq_true rfl, Nat.le_of_ble_eq_true rfl⟩) (b_preV hVK hP hD [30] rfl rfl 30 rfl rfl) rfl rfl hl.1 rfl (lv_room (Nat.le_of_ble_eq_true rfl)) dL_law__1288 ⟨by omega, by omega⟩) hP hD hS hA [30] rfl rfl (fun _ => rfl) (fun r1288 uu H locs hq hP hD hS => ?_)
      subst hq
      have hP : va_P D vwCl (LB cY b rr a oo od n k n k fG fW fR fH fA fS fRs fOt fMi fEn fEb fPy fB fCc (nI 1) fto fpay fcol fnow fthn foth fmnr fwts fmap fnxt fO fE).flatten H := hP
      have hD : va_D A (LB cY b rr a oo od n k n k fG fW fR fH fA fS fRs fOt fMi fEn fEb fPy fB fCc (nI 1) fto fpay fcol fnow fthn foth fmnr fwts fmap fnxt fO fE).flatten := hD
      refine lv_iload hx hb dL_law__1291 (lv_at hl 1 rfl) ?_
      refine n_icmp_eq (tgt := 1298) hx hb dL_law__1293 (by decide) (by omega) (by omega) (fun h1293 => ?_) (fun h1293 => ?_)
      · -- t
        refine lv_iload hx hb dL_law__1298 (lv_at hl 1 rfl) ?_
        refine n_if_ne (tgt := 1314) hx hb dL_law__1300 (by decide) (by omega) (fun h1300 => ?_) (fun h1300 => ?_)
        · -- t
          refine lv_goto (tgt := 1823) hx hb dL_law__1314 (by decide) ?_
          exact K n k g col fG fW fR fH fA fS fRs fOt fMi fEn fEb fPy fB fCc (nI 1) fto fpay fcol fnow fthn foth fmnr fwts fmap fnxt fO fE hI _ _ hP hD hS _ (lv_sub hl [2, 3, 4, 5, 6, 7] rfl)
        · -- f
          exact absurd h1300 (by decide)
      · -- f
        exact absurd rfl h1293

set_option maxHeartbeats 8000000 in
set_option maxRecDepth 100000 in
theorem lc_share {p : Program} {l : Launch} {e : Env} {s : State} {m : MethodId} {below : List Frame} {meth : Method} {c : Code} {H : Heap} {locs : List Loc} {cells slots : Nat} {Q : State → Prop} {D : va_G} {cY : Nat → ClassId} {A : Nat → Prop} {sc L : Nat} {xs : Nat → Int32} {b : Nat → Nat} {rr : Nat → Nat → Nat} {a : Nat → Nat} {oo od z0 : Nat} {ls : Array Slot} (E : LE p s m sc c D cY A L xs) (hlT : l.stackTraces = false) (hi4 : z0 + 4 ≤ L) (hL : L ≤ 2048) (hroom : cells + 1 ≤ room_1.cells ∧ slots + 6 ≤ room_1.slots) {n k : Nat} {g : Nat → Nat → Nat} {col : Nat → Nat} {fG fW : Nat → Nat → Int32} {fR fH fA fS : Nat → Nat → Int64} {fRs : Nat → Int64} {fOt : Nat → Int32} {fMi : Nat → Int64} {fEn fEb fPy : Nat → Int32} {fB : Nat → Nat → Int64} {fCc : Nat → Int32} {th : Int32} {fto fpay fcol : Nat → Int32} {fnow fthn foth fmnr fwts : Nat → Int64} {fmap fnxt : Nat → Int32} {fO : Nat → Int64} {fE : Nat → UInt64} (hI : LV n k g col fG fW fPy fCc fto fpay fcol) (hP : va_P D vwCl (LB cY b rr a oo od n k n k fG fW fR fH fA fS fRs fOt fMi fEn fEb fPy fB fCc th fto fpay fcol fnow fthn foth fmnr fwts fmap fnxt fO fE).flatten H) (hD : va_D A (LB cY b rr a oo od n k n k fG fW fR fH fA fS fRs fOt fMi fEn fEb fPy fB fCc th fto fpay fcol fnow fthn foth fmnr fwts fmap fnxt fO fE).flatten) (hS : va_S A s.heap H locs) (hl : lv_has ls 9 [(5, .int (nI z0)), (4, .ref od), (3, .ref oo), (2, .ref (a 0)), (1, .ref (b 0)), (0, .ref sc)]) (K : LK p l e s m below meth c sc D cY A b rr a oo od z0 cells slots Q) : W p l e room_1 s m #[Value.ref sc] below meth c H locs cells slots Q (F0 m 1317 ls []) := by
  obtain ⟨hx, hb, hml, hts, hown, hK, hVK, hA, hX, hH, hsc, hscl, hscA⟩ := E
  obtain ⟨⟨hn1, hn6, hk1, hk12⟩, hG, hgn, hW, hT, hPy, hC6⟩ := id hI
  rcases Bool.eq_false_or_eq_true (inR (xs (z0 + 1)) (nI 0) (nI (n - 1))) with hc1 | hc1
  · -- ok
    obtain ⟨i, hi_, e1⟩ := inR_of (by omega) hc1
    by_cases hw0 : WR g n k = lN 0
    · -- none
      refine lv_aload_n hx hb dL_law__1317 rfl (lv_at hl 4 rfl) ?_
      refine lv_aload_n hx hb dL_law__1318 rfl (lv_at hl 5 rfl) ?_
      refine lv_iload hx hb dL_law__1319 (lv_at hl 0 rfl) ?_
      refine lv_iconst (v := nI 1) hx hb dL_law__1321 (by decide) ?_
      refine lv_iadd hx hb dL_law__1322 ?_
      refine eqi (x' := nI (z0 + 1)) (nI_add _ _) ?_
      refine s_ld hx hb hsc hscl hscA hS (by omega) hL dL_law__1323 ?_
      refine eqi (x' := nI i) e1 ?_
      refine lv_aload hx hb dL_law__1324 (lv_at hl 1 rfl) ?_
      refine hh_i (CL := [hO b, cO b (nI n) (nI k), tO b, oQ (cY 2) (b 3) (rr 1) 6, gI (cY 0) (rr 1) 6 fW 6, [(b 12, .inl (cY 1, 6, .inr (.inl fRs)))], [(b 13, .inl (cY 0, 6, .inl fOt))], [(b 14, .inl (cY 1, 32, .inr (.inl fMi)))], [(od, .inl (cY 4, 1, .inr (.inr (.inr (.inl fE)))))]]) (vx_runSX (As := [.ref (b 0), .int (nI i), .ref od]) (rest := []) ⟨hx, hb, hml, hown, hts⟩ (c_L_share_b2 l D cY H.size b rr n k fW fRs fOt fMi g i od fE hlT (by omega) (by omega) (by omega) (by omega) hW (by omega) hw0) (vx_cwSW 3 hts gL_law__L_share rfl rfl rfl (by decide +kernel) ⟨Nat.le_of_ble_eq_true rfl, Nat.le_of_ble_eq_true rfl⟩) (b_preHS hVK hP hD hS hA hX hH [0, 1, 17, 4, 5, 18, 19, 20, 42] rfl rfl) rfl rfl hl.1 rfl (lv_room (Nat.le_of_ble_eq_true rfl)) dL_law__1326 ⟨by omega, by omega⟩) hP hD hS hA [0, 1, 17, 4, 5, 18, 19, 20, 42] rfl rfl (fun _ => rfl) (fun r1326 uu H locs hq hP hD hS => ?_)
      obtain ⟨fRs1_1, fOt1_2, fMi1_3⟩ := uu
      try dsimp only at hq
      subst hq
      have hP : va_P D vwCl (LB cY b rr a oo od n k n k fG fW fR fH fA fS fRs1_1 fOt1_2 fMi1_3 fEn fEb fPy fB fCc th fto fpay fcol fnow fthn foth fmnr fwts fmap fnxt fO fE).flatten H := hP
      have hD : va_D A (LB cY b rr a oo od n k n k fG fW fR fH fA fS fRs1_1 fOt1_2 fMi1_3 fEn fEb fPy fB fCc th fto fpay fcol fnow fthn foth fmnr fwts fmap fnxt fO fE).flatten := hD
      refine lv_istore (lv' := [(6, .int (nI 2)), (5, .int (nI z0)), (4, .ref od), (3, .ref oo), (2, .ref (a 0)), (1, .ref (b 0)), (0, .ref sc)]) hx hb dL_law__1329 hl (by decide) rfl (fun ls hl => ?_)
      refine lv_aload_n hx hb dL_law__1331 rfl (lv_at hl 4 rfl) ?_
      refine lv_aload_n hx hb dL_law__1332 rfl (lv_at hl 6 rfl) ?_
      refine lv_iload hx hb dL_law__1333 (lv_at hl 1 rfl) ?_
      refine lv_iconst (v := nI 1) hx hb dL_law__1335 (by decide) ?_
      refine lv_iadd hx hb dL_law__1336 ?_
      refine eqi (x' := nI (z0 + 1)) (nI_add _ _) ?_
      refine s_ld hx hb hsc hscl hscA hS (by omega) hL dL_law__1337 ?_
      refine eqi (x' := nI i) e1 ?_
      refine ca_f (CL := [mO a (nI n) (nI k) th, [(a 1, .inl (cY 0, 72, .inl fto))], [(a 7, .inl (cY 1, 32, .inr (.inl fmnr)))], [(a 8, .inl (cY 1, 25, .inr (.inl fwts)))]]) (va_runV (As := [.int (nI i)]) (rest := []) ⟨hx, hb, hml, hown, hts⟩ (c_X9_share_b2 l D cY H.size a n k th fto fmnr fwts g i (by omega) (by omega) (by omega) (by omega) hT hgn (by omega) hw0) (cwV 1 hts gL_law__X9_share rfl rfl rfl (by decide +kernel) ⟨Nat.le_of_ble_eq_true rfl, Nat.le_of_ble_eq_true rfl⟩) (b_preV hVK hP hD [30, 31, 37, 38] rfl rfl 30 rfl rfl) rfl rfl hl.1 rfl (lv_room (Nat.le_of_ble_eq_true rfl)) dL_law__1338 ⟨by omega, by omega⟩) hP hD hS hA [30, 31, 37, 38] rfl rfl (fun _ => rfl) (fun r1338 uu H locs hq hP hD hS => ?_)
      obtain ⟨fmnr1_4, fwts1_5⟩ := uu
      try dsimp only at hq
      subst hq
      have hP : va_P D vwCl (LB cY b rr a oo od n k n k fG fW fR fH fA fS fRs1_1 fOt1_2 fMi1_3 fEn fEb fPy fB fCc (nI 2) fto fpay fcol fnow fthn foth fmnr1_4 fwts1_5 fmap fnxt fO fE).flatten H := hP
      have hD : va_D A (LB cY b rr a oo od n k n k fG fW fR fH fA fS fRs1_1 fOt1_2 fMi1_3 fEn fEb fPy fB fCc (nI 2) fto fpay fcol fnow fthn foth fmnr1_4 fwts1_5 fmap fnxt fO fE).flatten := hD
      refine lv_fstore (lv' := [(7, .float 0), (6, .int (nI 2)), (5, .int (nI z0)), (4, .ref od), (3, .ref oo), (2, .ref (a 0)), (1, .ref (b 0)), (0, .ref sc)]) hx hb dL_law__1341 hl (by decide) rfl (fun ls hl => ?_)
      refine lv_aload_n hx hb dL_law__1343 rfl (lv_at hl 5 rfl) ?_
      refine ca_i (CL := [mO a (nI n) (nI k) (nI 2)]) (va_runV (As := []) (rest := []) ⟨hx, hb, hml, hown, hts⟩ (c_X9_thrown l D cY H.size a n k (nI 2)) (cwV 0 hts gL_law__X9_thrown rfl rfl rfl (by decide +kernel) ⟨Nat.le_of_ble_eq_true rfl, Nat.le_of_ble_eq_true rfl⟩) (b_preV hVK hP hD [30] rfl rfl 30 rfl rfl) rfl rfl hl.1 rfl (lv_room (Nat.le_of_ble_eq_true rfl)) dL_law__1344 ⟨by omega, by omega⟩) hP hD hS hA [30] rfl rfl (fun _ => rfl) (fun r1344 uu H locs hq hP hD hS => ?_)
      subst hq
      have hP : va_P D vwCl (LB cY b rr a oo od n k n k fG fW fR fH fA fS fRs1_1 fOt1_2 fMi1_3 fEn fEb fPy fB fCc (nI 2) fto fpay fcol fnow fthn foth fmnr1_4 fwts1_5 fmap fnxt fO fE).flatten H := hP
      have hD : va_D A (LB cY b rr a oo od n k n k fG fW fR fH fA fS fRs1_1 fOt1_2 fMi1_3 fEn fEb fPy fB fCc (nI 2) fto fpay fcol fnow fthn foth fmnr1_4 fwts1_5 fmap fnxt fO fE).flatten := hD
      refine lv_iload hx hb dL_law__1347 (lv_at hl 1 rfl) ?_
      refine n_icmp_eq (tgt := 1354) hx hb dL_law__1349 (by decide) (by omega) (by omega) (fun h1349 => ?_) (fun h1349 => ?_)
      · -- t
        refine lv_iload hx hb dL_law__1354 (lv_at hl 1 rfl) ?_
        refine n_if_ne (tgt := 1392) hx hb dL_law__1356 (by decide) (by omega) (fun h1356 => ?_) (fun h1356 => ?_)
        · -- t
          refine lv_goto (tgt := 1823) hx hb dL_law__1392 (by decide) ?_
          exact K n k g col fG fW fR fH fA fS fRs1_1 fOt1_2 fMi1_3 fEn fEb fPy fB fCc (nI 2) fto fpay fcol fnow fthn foth fmnr1_4 fwts1_5 fmap fnxt fO fE hI _ _ hP hD hS _ (lv_sub hl [2, 3, 4, 5, 6, 7] rfl)
        · -- f
          exact absurd h1356 (by decide)
      · -- f
        exact absurd rfl h1349
    · -- some
      refine lv_aload_n hx hb dL_law__1317 rfl (lv_at hl 4 rfl) ?_
      refine lv_aload_n hx hb dL_law__1318 rfl (lv_at hl 5 rfl) ?_
      refine lv_iload hx hb dL_law__1319 (lv_at hl 0 rfl) ?_
      refine lv_iconst (v := nI 1) hx hb dL_law__1321 (by decide) ?_
      refine lv_iadd hx hb dL_law__1322 ?_
      refine eqi (x' := nI (z0 + 1)) (nI_add _ _) ?_
      refine s_ld hx hb hsc hscl hscA hS (by omega) hL dL_law__1323 ?_
      refine eqi (x' := nI i) e1 ?_
      refine lv_aload hx hb dL_law__1324 (lv_at hl 1 rfl) ?_
      refine hh_i (CL := [hO b, cO b (nI n) (nI k), tO b, oQ (cY 2) (b 3) (rr 1) 6, gI (cY 0) (rr 1) 6 fW 6, [(b 12, .inl (cY 1, 6, .inr (.inl fRs)))], [(b 13, .inl (cY 0, 6, .inl fOt))], [(b 14, .inl (cY 1, 32, .inr (.inl fMi)))], [(od, .inl (cY 4, 1, .inr (.inr (.inr (.inl fE)))))]]) (vx_runSX (As := [.ref (b 0), .int (nI i), .ref od]) (rest := []) ⟨hx, hb, hml, hown, hts⟩ (c_L_share_ok l D cY H.size b rr n k fW fRs fOt fMi g i od fE (by omega) (by omega) (by omega) (by omega) hW (by omega) hw0) (vx_cwSW 3 hts gL_law__L_share rfl rfl rfl (by decide +kernel) ⟨Nat.le_of_ble_eq_true rfl, Nat.le_of_ble_eq_true rfl⟩) (b_preHS hVK hP hD hS hA hX hH [0, 1, 17, 4, 5, 18, 19, 20, 42] rfl rfl) rfl rfl hl.1 rfl (lv_room (Nat.le_of_ble_eq_true rfl)) dL_law__1326 ⟨by omega, by omega⟩) hP hD hS hA [0, 1, 17, 4, 5, 18, 19, 20, 42] rfl rfl (fun _ => rfl) (fun r1326 uu H locs hq hP hD hS => ?_)
      obtain ⟨fRs1_6, fOt1_7, fMi1_8⟩ := uu
      try dsimp only at hq
      subst hq
      have hP : va_P D vwCl (LB cY b rr a oo od n k n k fG fW fR fH fA fS fRs1_6 fOt1_7 fMi1_8 fEn fEb fPy fB fCc th fto fpay fcol fnow fthn foth fmnr fwts fmap fnxt fO (vf_upd fE 0 (FP.f2d (FP.fdiv (FP.l2f (RV g n k i)) (FP.l2f (WR g n k)))))).flatten H := hP
      have hD : va_D A (LB cY b rr a oo od n k n k fG fW fR fH fA fS fRs1_6 fOt1_7 fMi1_8 fEn fEb fPy fB fCc th fto fpay fcol fnow fthn foth fmnr fwts fmap fnxt fO (vf_upd fE 0 (FP.f2d (FP.fdiv (FP.l2f (RV g n k i)) (FP.l2f (WR g n k)))))).flatten := hD
      refine lv_istore (lv' := [(6, .int (nI 0)), (5, .int (nI z0)), (4, .ref od), (3, .ref oo), (2, .ref (a 0)), (1, .ref (b 0)), (0, .ref sc)]) hx hb dL_law__1329 hl (by decide) rfl (fun ls hl => ?_)
      refine lv_aload_n hx hb dL_law__1331 rfl (lv_at hl 4 rfl) ?_
      refine lv_aload_n hx hb dL_law__1332 rfl (lv_at hl 6 rfl) ?_
      refine lv_iload hx hb dL_law__1333 (lv_at hl 1 rfl) ?_
      refine lv_iconst (v := nI 1) hx hb dL_law__1335 (by decide) ?_
      refine lv_iadd hx hb dL_law__1336 ?_
      refine eqi (x' := nI (z0 + 1)) (nI_add _ _) ?_
      refine s_ld hx hb hsc hscl hscA hS (by omega) hL dL_law__1337 ?_
      refine eqi (x' := nI i) e1 ?_
      refine ca_f (CL := [mO a (nI n) (nI k) th, [(a 1, .inl (cY 0, 72, .inl fto))], [(a 7, .inl (cY 1, 32, .inr (.inl fmnr)))], [(a 8, .inl (cY 1, 25, .inr (.inl fwts)))]]) (va_runV (As := [.int (nI i)]) (rest := []) ⟨hx, hb, hml, hown, hts⟩ (c_X9_share_ok l D cY H.size a n k th fto fmnr fwts g i (by omega) (by omega) (by omega) (by omega) hT hgn (by omega) hw0) (cwV 1 hts gL_law__X9_share rfl rfl rfl (by decide +kernel) ⟨Nat.le_of_ble_eq_true rfl, Nat.le_of_ble_eq_true rfl⟩) (b_preV hVK hP hD [30, 31, 37, 38] rfl rfl 30 rfl rfl) rfl rfl hl.1 rfl (lv_room (Nat.le_of_ble_eq_true rfl)) dL_law__1338 ⟨by omega, by omega⟩) hP hD hS hA [30, 31, 37, 38] rfl rfl (fun _ => rfl) (fun r1338 uu H locs hq hP hD hS => ?_)
      obtain ⟨fmnr1_9, fwts1_10⟩ := uu
      try dsimp only at hq
      subst hq
      have hP : va_P D vwCl (LB cY b rr a oo od n k n k fG fW fR fH fA fS fRs1_6 fOt1_7 fMi1_8 fEn fEb fPy fB fCc (nI 0) fto fpay fcol fnow fthn foth fmnr1_9 fwts1_10 fmap fnxt fO (vf_upd fE 0 (FP.f2d (FP.fdiv (FP.l2f (RV g n k i)) (FP.l2f (WR g n k)))))).flatten H := hP
      have hD : va_D A (LB cY b rr a oo od n k n k fG fW fR fH fA fS fRs1_6 fOt1_7 fMi1_8 fEn fEb fPy fB fCc (nI 0) fto fpay fcol fnow fthn foth fmnr1_9 fwts1_10 fmap fnxt fO (vf_upd fE 0 (FP.f2d (FP.fdiv (FP.l2f (RV g n k i)) (FP.l2f (WR g n k)))))).flatten := hD
      refine lv_fstore (lv' := [(7, .float (FP.fdiv (FP.l2f (RV g n k i)) (FP.l2f (WR g n k)))), (6, .int (nI 0)), (5, .int (nI z0)), (4, .ref od), (3, .ref oo), (2, .ref (a 0)), (1, .ref (b 0)), (0, .ref sc)]) hx hb dL_law__1341 hl (by decide) rfl (fun ls hl => ?_)
      refine lv_aload_n hx hb dL_law__1343 rfl (lv_at hl 5 rfl) ?_
      refine ca_i (CL := [mO a (nI n) (nI k) (nI 0)]) (va_runV (As := []) (rest := []) ⟨hx, hb, hml, hown, hts⟩ (c_X9_thrown l D cY H.size a n k (nI 0)) (cwV 0 hts gL_law__X9_thrown rfl rfl rfl (by decide +kernel) ⟨Nat.le_of_ble_eq_true rfl, Nat.le_of_ble_eq_true rfl⟩) (b_preV hVK hP hD [30] rfl rfl 30 rfl rfl) rfl rfl hl.1 rfl (lv_room (Nat.le_of_ble_eq_true rfl)) dL_law__1344 ⟨by omega, by omega⟩) hP hD hS hA [30] rfl rfl (fun _ => rfl) (fun r1344 uu H locs hq hP hD hS => ?_)
      subst hq
      have hP : va_P D vwCl (LB cY b rr a oo od n k n k fG fW fR fH fA fS fRs1_6 fOt1_7 fMi1_8 fEn fEb fPy fB fCc (nI 0) fto fpay fcol fnow fthn foth fmnr1_9 fwts1_10 fmap fnxt fO (vf_upd fE 0 (FP.f2d (FP.fdiv (FP.l2f (RV g n k i)) (FP.l2f (WR g n k)))))).flatten H := hP
      have hD : va_D A (LB cY b rr a oo od n k n k fG fW fR fH fA fS fRs1_6 fOt1_7 fMi1_8 fEn fEb fPy fB fCc (nI 0) fto fpay fcol fnow fthn foth fmnr1_9 fwts1_10 fmap fnxt fO (vf_upd fE 0 (FP.f2d (FP.fdiv (FP.l2f (RV g n k i)) (FP.l2f (WR g n k)))))).flatten := hD
      refine lv_iload hx hb dL_law__1347 (lv_at hl 1 rfl) ?_
      refine n_icmp_eq (tgt := 1354) hx hb dL_law__1349 (by decide) (by omega) (by omega) (fun h1349 => ?_) (fun h1349 => ?_)
      · -- t
        refine lv_iload hx hb dL_law__1354 (lv_at hl 1 rfl) ?_
        refine n_if_ne (tgt := 1392) hx hb dL_law__1356 (by decide) (by omega) (fun h1356 => ?_) (fun h1356 => ?_)
        · -- t
          exact absurd rfl h1356
        · -- f
          refine lv_aload hx hb dL_law__1359 (lv_at hl 3 rfl) ?_
          refine lv_iconst (v := nI 0) hx hb dL_law__1361 (by decide) ?_
          refine b_dald hx hb hK hP 42 4 rfl rfl (by omega) (by omega) dL_law__1362 ?_
          refine eqd (x' := FP.f2d (FP.fdiv (FP.l2f (RV g n k i)) (FP.l2f (WR g n k)))) vfu_s ?_
          refine lv_fload hx hb dL_law__1363 (lv_at hl 0 rfl) ?_
          refine lv_f2d hx hb dL_law__1365 (f2d_n (fdiv_v hw0)) ?_
          refine lv_dcmp hx hb dL_law__1366 ?_
          refine eqi (x' := 0) (by rw [d_self (f2d_v (fdiv_v hw0))]; rfl) ?_
          refine lv_if_eq (tgt := 1392) hx hb dL_law__1367 (by decide) (fun h1367 => ?_) (fun h1367 => ?_)
          · -- t
            refine lv_goto (tgt := 1823) hx hb dL_law__1392 (by decide) ?_
            refine W.widen (Nat.le_add_right cells 1) (Nat.le_add_right slots 6) ?_
            exact K n k g col fG fW fR fH fA fS fRs1_6 fOt1_7 fMi1_8 fEn fEb fPy fB fCc (nI 0) fto fpay fcol fnow fthn foth fmnr1_9 fwts1_10 fmap fnxt fO (vf_upd fE 0 (FP.f2d (FP.fdiv (FP.l2f (RV g n k i)) (FP.l2f (WR g n k))))) hI _ _ hP hD hS _ (lv_sub hl [2, 3, 4, 5, 6, 7] rfl)
          · -- f
            exact absurd rfl h1367
      · -- f
        exact absurd rfl h1349
  · -- bad
    refine lv_aload_n hx hb dL_law__1317 rfl (lv_at hl 4 rfl) ?_
    refine lv_aload_n hx hb dL_law__1318 rfl (lv_at hl 5 rfl) ?_
    refine lv_iload hx hb dL_law__1319 (lv_at hl 0 rfl) ?_
    refine lv_iconst (v := nI 1) hx hb dL_law__1321 (by decide) ?_
    refine lv_iadd hx hb dL_law__1322 ?_
    refine eqi (x' := nI (z0 + 1)) (nI_add _ _) ?_
    refine s_ld hx hb hsc hscl hscA hS (by omega) hL dL_law__1323 ?_
    refine lv_aload hx hb dL_law__1324 (lv_at hl 1 rfl) ?_
    refine hh_i (CL := [hO b, cO b (nI n) (nI k), [(od, .inl (cY 4, 1, .inr (.inr (.inr (.inl fE)))))]]) (vx_runSX (As := [.ref (b 0), .int (xs (z0 + 1)), .ref od]) (rest := []) ⟨hx, hb, hml, hown, hts⟩ (c_L_share_b1 l D cY H.size b n k (xs (z0 + 1)) od fE hlT (by omega) (by omega) (by omega) (by omega) hc1) (vx_cwSW 3 hts gL_law__L_share rfl rfl rfl (by decide +kernel) ⟨Nat.le_of_ble_eq_true rfl, Nat.le_of_ble_eq_true rfl⟩) (b_preHS hVK hP hD hS hA hX hH [0, 1, 42] rfl rfl) rfl rfl hl.1 rfl (lv_room (Nat.le_of_ble_eq_true rfl)) dL_law__1326 ⟨by omega, by omega⟩) hP hD hS hA [0, 1, 42] rfl rfl (fun _ => rfl) (fun r1326 uu H locs hq hP hD hS => ?_)
    subst hq
    have hP : va_P D vwCl (LB cY b rr a oo od n k n k fG fW fR fH fA fS fRs fOt fMi fEn fEb fPy fB fCc th fto fpay fcol fnow fthn foth fmnr fwts fmap fnxt fO fE).flatten H := hP
    have hD : va_D A (LB cY b rr a oo od n k n k fG fW fR fH fA fS fRs fOt fMi fEn fEb fPy fB fCc th fto fpay fcol fnow fthn foth fmnr fwts fmap fnxt fO fE).flatten := hD
    refine lv_istore (lv' := [(6, .int (nI 1)), (5, .int (nI z0)), (4, .ref od), (3, .ref oo), (2, .ref (a 0)), (1, .ref (b 0)), (0, .ref sc)]) hx hb dL_law__1329 hl (by decide) rfl (fun ls hl => ?_)
    refine lv_aload_n hx hb dL_law__1331 rfl (lv_at hl 4 rfl) ?_
    refine lv_aload_n hx hb dL_law__1332 rfl (lv_at hl 6 rfl) ?_
    refine lv_iload hx hb dL_law__1333 (lv_at hl 1 rfl) ?_
    refine lv_iconst (v := nI 1) hx hb dL_law__1335 (by decide) ?_
    refine lv_iadd hx hb dL_law__1336 ?_
    refine eqi (x' := nI (z0 + 1)) (nI_add _ _) ?_
    refine s_ld hx hb hsc hscl hscA hS (by omega) hL dL_law__1337 ?_
    refine ca_f (CL := [mO a (nI n) (nI k) th]) (va_runV (As := [.int (xs (z0 + 1))]) (rest := []) ⟨hx, hb, hml, hown, hts⟩ (c_X9_share_b1 l D cY H.size a n k th (xs (z0 + 1)) (by omega) (by omega) (by omega) (by omega) hc1) (cwV 1 hts gL_law__X9_share rfl rfl rfl (by decide +kernel) ⟨Nat.le_of_ble_eq_true rfl, Nat.le_of_ble_eq_true rfl⟩) (b_preV hVK hP hD [30] rfl rfl 30 rfl rfl) rfl rfl hl.1 rfl (lv_room (Nat.le_of_ble_eq_true rfl)) dL_law__1338 ⟨by omega, by omega⟩) hP hD hS hA [30] rfl rfl (fun _ => rfl) (fun r1338 uu H locs hq hP hD hS => ?_)
    subst hq
    have hP : va_P D vwCl (LB cY b rr a oo od n k n k fG fW fR fH fA fS fRs fOt fMi fEn fEb fPy fB fCc (nI 1) fto fpay fcol fnow fthn foth fmnr fwts fmap fnxt fO fE).flatten H := hP
    have hD : va_D A (LB cY b rr a oo od n k n k fG fW fR fH fA fS fRs fOt fMi fEn fEb fPy fB fCc (nI 1) fto fpay fcol fnow fthn foth fmnr fwts fmap fnxt fO fE).flatten := hD
    refine lv_fstore (lv' := [(7, .float 0), (6, .int (nI 1)), (5, .int (nI z0)), (4, .ref od), (3, .ref oo), (2, .ref (a 0)), (1, .ref (b 0)), (0, .ref sc)]) hx hb dL_law__1341 hl (by decide) rfl (fun ls hl => ?_)
    refine lv_aload_n hx hb dL_law__1343 rfl (lv_at hl 5 rfl) ?_
    refine ca_i (CL := [mO a (nI n) (nI k) (nI 1)]) (va_runV (As := []) (rest := []) ⟨hx, hb, hml, hown, hts⟩ (c_X9_thrown l D cY H.size a n k (nI 1)) (cwV 0 hts gL_law__X9_thrown rfl rfl rfl (by decide +kernel) ⟨Nat.le_of_ble_eq_true rfl, Nat.le_of_ble_eq_true rfl⟩) (b_preV hVK hP hD [30] rfl rfl 30 rfl rfl) rfl rfl hl.1 rfl (lv_room (Nat.le_of_ble_eq_true rfl)) dL_law__1344 ⟨by omega, by omega⟩) hP hD hS hA [30] rfl rfl (fun _ => rfl) (fun r1344 uu H locs hq hP hD hS => ?_)
    subst hq
    have hP : va_P D vwCl (LB cY b rr a oo od n k n k fG fW fR fH fA fS fRs fOt fMi fEn fEb fPy fB fCc (nI 1) fto fpay fcol fnow fthn foth fmnr fwts fmap fnxt fO fE).flatten H := hP
    have hD : va_D A (LB cY b rr a oo od n k n k fG fW fR fH fA fS fRs fOt fMi fEn fEb fPy fB fCc (nI 1) fto fpay fcol fnow fthn foth fmnr fwts fmap fnxt fO fE).flatten := hD
    refine lv_iload hx hb dL_law__1347 (lv_at hl 1 rfl) ?_
    refine n_icmp_eq (tgt := 1354) hx hb dL_law__1349 (by decide) (by omega) (by omega) (fun h1349 => ?_) (fun h1349 => ?_)
    · -- t
      refine lv_iload hx hb dL_law__1354 (lv_at hl 1 rfl) ?_
      refine n_if_ne (tgt := 1392) hx hb dL_law__1356 (by decide) (by omega) (fun h1356 => ?_) (fun h1356 => ?_)
      · -- t
        refine lv_goto (tgt := 1823) hx hb dL_law__1392 (by decide) ?_
        exact K n k g col fG fW fR fH fA fS fRs fOt fMi fEn fEb fPy fB fCc (nI 1) fto fpay fcol fnow fthn foth fmnr fwts fmap fnxt fO fE hI _ _ hP hD hS _ (lv_sub hl [2, 3, 4, 5, 6, 7] rfl)
      · -- f
        exact absurd h1356 (by decide)
    · -- f
      exact absurd rfl h1349

set_option maxHeartbeats 8000000 in
set_option maxRecDepth 100000 in
theorem lc_ranked {p : Program} {l : Launch} {e : Env} {s : State} {m : MethodId} {below : List Frame} {meth : Method} {c : Code} {H : Heap} {locs : List Loc} {cells slots : Nat} {Q : State → Prop} {D : va_G} {cY : Nat → ClassId} {A : Nat → Prop} {sc L : Nat} {xs : Nat → Int32} {b : Nat → Nat} {rr : Nat → Nat → Nat} {a : Nat → Nat} {oo od z0 : Nat} {ls : Array Slot} (E : LE p s m sc c D cY A L xs) (hlT : l.stackTraces = false) (hi4 : z0 + 4 ≤ L) (hL : L ≤ 2048) (hroom : cells + 1 ≤ room_1.cells ∧ slots + 6 ≤ room_1.slots) {n k : Nat} {g : Nat → Nat → Nat} {col : Nat → Nat} {fG fW : Nat → Nat → Int32} {fR fH fA fS : Nat → Nat → Int64} {fRs : Nat → Int64} {fOt : Nat → Int32} {fMi : Nat → Int64} {fEn fEb fPy : Nat → Int32} {fB : Nat → Nat → Int64} {fCc : Nat → Int32} {th : Int32} {fto fpay fcol : Nat → Int32} {fnow fthn foth fmnr fwts : Nat → Int64} {fmap fnxt : Nat → Int32} {fO : Nat → Int64} {fE : Nat → UInt64} (hI : LV n k g col fG fW fPy fCc fto fpay fcol) (hP : va_P D vwCl (LB cY b rr a oo od n k n k fG fW fR fH fA fS fRs fOt fMi fEn fEb fPy fB fCc th fto fpay fcol fnow fthn foth fmnr fwts fmap fnxt fO fE).flatten H) (hD : va_D A (LB cY b rr a oo od n k n k fG fW fR fH fA fS fRs fOt fMi fEn fEb fPy fB fCc th fto fpay fcol fnow fthn foth fmnr fwts fmap fnxt fO fE).flatten) (hS : va_S A s.heap H locs) (hl : lv_has ls 9 [(5, .int (nI z0)), (4, .ref od), (3, .ref oo), (2, .ref (a 0)), (1, .ref (b 0)), (0, .ref sc)]) (K : LK p l e s m below meth c sc D cY A b rr a oo od z0 cells slots Q) : W p l e room_1 s m #[Value.ref sc] below meth c H locs cells slots Q (F0 m 1395 ls []) := by
  obtain ⟨hx, hb, hml, hts, hown, hK, hVK, hA, hX, hH, hsc, hscl, hscA⟩ := E
  obtain ⟨⟨hn1, hn6, hk1, hk12⟩, hG, hgn, hW, hT, hPy, hC6⟩ := id hI
  by_cases hbad : xs (z0 + 1) < 0
  · -- t
    refine lv_aload_n hx hb dL_law__1395 rfl (lv_at hl 4 rfl) ?_
    refine lv_aload_n hx hb dL_law__1396 rfl (lv_at hl 5 rfl) ?_
    refine lv_iload hx hb dL_law__1397 (lv_at hl 0 rfl) ?_
    refine lv_iconst (v := nI 1) hx hb dL_law__1399 (by decide) ?_
    refine lv_iadd hx hb dL_law__1400 ?_
    refine eqi (x' := nI (z0 + 1)) (nI_add _ _) ?_
    refine s_ld hx hb hsc hscl hscA hS (by omega) hL dL_law__1401 ?_
    refine lv_aload_n hx hb dL_law__1402 rfl (lv_at hl 2 rfl) ?_
    refine hh_i (CL := [hO b, cO b (nI n) (nI k), [(oo, .inl (cY 1, 1, .inr (.inl fO)))]]) (vx_runSX (As := [.ref (b 0), .int (xs (z0 + 1)), .ref oo]) (rest := []) ⟨hx, hb, hml, hown, hts⟩ (c_L_ranked_bad l D cY H.size b n k (xs (z0 + 1)) oo fO hlT (by omega) (by omega) (by omega) (by omega) hbad) (vx_cwSW 3 hts gL_law__L_ranked rfl rfl rfl (by decide +kernel) ⟨Nat.le_of_ble_eq_true rfl, Nat.le_of_ble_eq_true rfl⟩) (b_preHS hVK hP hD hS hA hX hH [0, 1, 41] rfl rfl) rfl rfl hl.1 rfl (lv_room (Nat.le_of_ble_eq_true rfl)) dL_law__1403 ⟨by omega, by omega⟩) hP hD hS hA [0, 1, 41] rfl rfl (fun _ => rfl) (fun r1403 uu H locs hq hP hD hS => ?_)
    subst hq
    have hP : va_P D vwCl (LB cY b rr a oo od n k n k fG fW fR fH fA fS fRs fOt fMi fEn fEb fPy fB fCc th fto fpay fcol fnow fthn foth fmnr fwts fmap fnxt fO fE).flatten H := hP
    have hD : va_D A (LB cY b rr a oo od n k n k fG fW fR fH fA fS fRs fOt fMi fEn fEb fPy fB fCc th fto fpay fcol fnow fthn foth fmnr fwts fmap fnxt fO fE).flatten := hD
    refine lv_istore (lv' := [(6, .int (nI 1)), (5, .int (nI z0)), (4, .ref od), (3, .ref oo), (2, .ref (a 0)), (1, .ref (b 0)), (0, .ref sc)]) hx hb dL_law__1406 hl (by decide) rfl (fun ls hl => ?_)
    refine lv_aload_n hx hb dL_law__1408 rfl (lv_at hl 4 rfl) ?_
    refine lv_aload_n hx hb dL_law__1409 rfl (lv_at hl 6 rfl) ?_
    refine lv_iload hx hb dL_law__1410 (lv_at hl 1 rfl) ?_
    refine lv_iconst (v := nI 1) hx hb dL_law__1412 (by decide) ?_
    refine lv_iadd hx hb dL_law__1413 ?_
    refine eqi (x' := nI (z0 + 1)) (nI_add _ _) ?_
    refine s_ld hx hb hsc hscl hscA hS (by omega) hL dL_law__1414 ?_
    refine ca_i (CL := [mO a (nI n) (nI k) th]) (va_runV (As := [.int (xs (z0 + 1))]) (rest := []) ⟨hx, hb, hml, hown, hts⟩ (c_X9_ranked_bad l D cY H.size a n k th (xs (z0 + 1)) (by omega) (by omega) (by omega) (by omega) hbad) (cwV 1 hts gL_law__X9_ranked rfl rfl rfl (by decide +kernel) ⟨Nat.le_of_ble_eq_true rfl, Nat.le_of_ble_eq_true rfl⟩) (b_preV hVK hP hD [30] rfl rfl 30 rfl rfl) rfl rfl hl.1 rfl (lv_room (Nat.le_of_ble_eq_true rfl)) dL_law__1415 ⟨by omega, by omega⟩) hP hD hS hA [30] rfl rfl (fun _ => rfl) (fun r1415 uu H locs hq hP hD hS => ?_)
    subst hq
    have hP : va_P D vwCl (LB cY b rr a oo od n k n k fG fW fR fH fA fS fRs fOt fMi fEn fEb fPy fB fCc (nI 1) fto fpay fcol fnow fthn foth fmnr fwts fmap fnxt fO fE).flatten H := hP
    have hD : va_D A (LB cY b rr a oo od n k n k fG fW fR fH fA fS fRs fOt fMi fEn fEb fPy fB fCc (nI 1) fto fpay fcol fnow fthn foth fmnr fwts fmap fnxt fO fE).flatten := hD
    refine lv_istore (lv' := [(7, .int (nI 0)), (6, .int (nI 1)), (5, .int (nI z0)), (4, .ref od), (3, .ref oo), (2, .ref (a 0)), (1, .ref (b 0)), (0, .ref sc)]) hx hb dL_law__1418 hl (by decide) rfl (fun ls hl => ?_)
    refine lv_aload_n hx hb dL_law__1420 rfl (lv_at hl 5 rfl) ?_
    refine ca_i (CL := [mO a (nI n) (nI k) (nI 1)]) (va_runV (As := []) (rest := []) ⟨hx, hb, hml, hown, hts⟩ (c_X9_thrown l D cY H.size a n k (nI 1)) (cwV 0 hts gL_law__X9_thrown rfl rfl rfl (by decide +kernel) ⟨Nat.le_of_ble_eq_true rfl, Nat.le_of_ble_eq_true rfl⟩) (b_preV hVK hP hD [30] rfl rfl 30 rfl rfl) rfl rfl hl.1 rfl (lv_room (Nat.le_of_ble_eq_true rfl)) dL_law__1421 ⟨by omega, by omega⟩) hP hD hS hA [30] rfl rfl (fun _ => rfl) (fun r1421 uu H locs hq hP hD hS => ?_)
    subst hq
    have hP : va_P D vwCl (LB cY b rr a oo od n k n k fG fW fR fH fA fS fRs fOt fMi fEn fEb fPy fB fCc (nI 1) fto fpay fcol fnow fthn foth fmnr fwts fmap fnxt fO fE).flatten H := hP
    have hD : va_D A (LB cY b rr a oo od n k n k fG fW fR fH fA fS fRs fOt fMi fEn fEb fPy fB fCc (nI 1) fto fpay fcol fnow fthn foth fmnr fwts fmap fnxt fO fE).flatten := hD
    refine lv_iload hx hb dL_law__1424 (lv_at hl 1 rfl) ?_
    refine n_icmp_eq (tgt := 1431) hx hb dL_law__1426 (by decide) (by omega) (by omega) (fun h1426 => ?_) (fun h1426 => ?_)
    · -- t
      refine lv_iload hx hb dL_law__1431 (lv_at hl 1 rfl) ?_
      refine n_if_ne (tgt := 1448) hx hb dL_law__1433 (by decide) (by omega) (fun h1433 => ?_) (fun h1433 => ?_)
      · -- t
        refine lv_goto (tgt := 1823) hx hb dL_law__1448 (by decide) ?_
        exact K n k g col fG fW fR fH fA fS fRs fOt fMi fEn fEb fPy fB fCc (nI 1) fto fpay fcol fnow fthn foth fmnr fwts fmap fnxt fO fE hI _ _ hP hD hS _ (lv_sub hl [2, 3, 4, 5, 6, 7] rfl)
      · -- f
        exact absurd h1433 (by decide)
    · -- f
      exact absurd rfl h1426
  · -- f
    obtain ⟨r0, hr0_, e1⟩ := nn_of hbad
    refine lv_aload_n hx hb dL_law__1395 rfl (lv_at hl 4 rfl) ?_
    refine lv_aload_n hx hb dL_law__1396 rfl (lv_at hl 5 rfl) ?_
    refine lv_iload hx hb dL_law__1397 (lv_at hl 0 rfl) ?_
    refine lv_iconst (v := nI 1) hx hb dL_law__1399 (by decide) ?_
    refine lv_iadd hx hb dL_law__1400 ?_
    refine eqi (x' := nI (z0 + 1)) (nI_add _ _) ?_
    refine s_ld hx hb hsc hscl hscA hS (by omega) hL dL_law__1401 ?_
    refine eqi (x' := nI r0) e1 ?_
    refine lv_aload_n hx hb dL_law__1402 rfl (lv_at hl 2 rfl) ?_
    refine hh_i (CL := [hO b, cO b (nI n) (nI k), tO b, oQ (cY 2) (b 3) (rr 1) 6, gI (cY 0) (rr 1) 6 fW 6, [(b 12, .inl (cY 1, 6, .inr (.inl fRs)))], [(b 13, .inl (cY 0, 6, .inl fOt))], [(b 14, .inl (cY 1, 32, .inr (.inl fMi)))], [(oo, .inl (cY 1, 1, .inr (.inl fO)))]]) (vx_runSX (As := [.ref (b 0), .int (nI r0), .ref oo]) (rest := []) ⟨hx, hb, hml, hown, hts⟩ (c_L_ranked_ok l D cY H.size b rr n k fW fRs fOt fMi g r0 oo fO (by omega) (by omega) (by omega) (by omega) hW (by omega)) (vx_cwSW 3 hts gL_law__L_ranked rfl rfl rfl (by decide +kernel) ⟨Nat.le_of_ble_eq_true rfl, Nat.le_of_ble_eq_true rfl⟩) (b_preHS hVK hP hD hS hA hX hH [0, 1, 17, 4, 5, 18, 19, 20, 41] rfl rfl) rfl rfl hl.1 rfl (lv_room (Nat.le_of_ble_eq_true rfl)) dL_law__1403 ⟨by omega, by omega⟩) hP hD hS hA [0, 1, 17, 4, 5, 18, 19, 20, 41] rfl rfl (fun _ => rfl) (fun r1403 uu H locs hq hP hD hS => ?_)
    obtain ⟨fRs1_1, fOt1_2, fMi1_3⟩ := uu
    try dsimp only at hq
    subst hq
    have hP : va_P D vwCl (LB cY b rr a oo od n k n k fG fW fR fH fA fS fRs1_1 fOt1_2 fMi1_3 fEn fEb fPy fB fCc th fto fpay fcol fnow fthn foth fmnr fwts fmap fnxt (vp_updL fO 0 ((mxs (fun i => decide (plc (RV g n k) i n = r0)) n 0).toInt64)) fE).flatten H := hP
    have hD : va_D A (LB cY b rr a oo od n k n k fG fW fR fH fA fS fRs1_1 fOt1_2 fMi1_3 fEn fEb fPy fB fCc th fto fpay fcol fnow fthn foth fmnr fwts fmap fnxt (vp_updL fO 0 ((mxs (fun i => decide (plc (RV g n k) i n = r0)) n 0).toInt64)) fE).flatten := hD
    refine lv_istore (lv' := [(6, .int (nI 0)), (5, .int (nI z0)), (4, .ref od), (3, .ref oo), (2, .ref (a 0)), (1, .ref (b 0)), (0, .ref sc)]) hx hb dL_law__1406 hl (by decide) rfl (fun ls hl => ?_)
    refine lv_aload_n hx hb dL_law__1408 rfl (lv_at hl 4 rfl) ?_
    refine lv_aload_n hx hb dL_law__1409 rfl (lv_at hl 6 rfl) ?_
    refine lv_iload hx hb dL_law__1410 (lv_at hl 1 rfl) ?_
    refine lv_iconst (v := nI 1) hx hb dL_law__1412 (by decide) ?_
    refine lv_iadd hx hb dL_law__1413 ?_
    refine eqi (x' := nI (z0 + 1)) (nI_add _ _) ?_
    refine s_ld hx hb hsc hscl hscA hS (by omega) hL dL_law__1414 ?_
    refine eqi (x' := nI r0) e1 ?_
    refine ca_i (CL := [mO a (nI n) (nI k) th, [(a 1, .inl (cY 0, 72, .inl fto))], [(a 7, .inl (cY 1, 32, .inr (.inl fmnr)))], [(a 8, .inl (cY 1, 25, .inr (.inl fwts)))]]) (va_runV (As := [.int (nI r0)]) (rest := []) ⟨hx, hb, hml, hown, hts⟩ (c_X9_ranked_ok l D cY H.size a n k th fto fmnr fwts g r0 (by omega) (by omega) (by omega) (by omega) hT hgn (by omega)) (cwV 1 hts gL_law__X9_ranked rfl rfl rfl (by decide +kernel) ⟨Nat.le_of_ble_eq_true rfl, Nat.le_of_ble_eq_true rfl⟩) (b_preV hVK hP hD [30, 31, 37, 38] rfl rfl 30 rfl rfl) rfl rfl hl.1 rfl (lv_room (Nat.le_of_ble_eq_true rfl)) dL_law__1415 ⟨by omega, by omega⟩) hP hD hS hA [30, 31, 37, 38] rfl rfl (fun _ => rfl) (fun r1415 uu H locs hq hP hD hS => ?_)
    obtain ⟨fmnr1_4, fwts1_5⟩ := uu
    try dsimp only at hq
    subst hq
    have hP : va_P D vwCl (LB cY b rr a oo od n k n k fG fW fR fH fA fS fRs1_1 fOt1_2 fMi1_3 fEn fEb fPy fB fCc (nI 0) fto fpay fcol fnow fthn foth fmnr1_4 fwts1_5 fmap fnxt (vp_updL fO 0 ((mxs (fun i => decide (plc (RV g n k) i n = r0)) n 0).toInt64)) fE).flatten H := hP
    have hD : va_D A (LB cY b rr a oo od n k n k fG fW fR fH fA fS fRs1_1 fOt1_2 fMi1_3 fEn fEb fPy fB fCc (nI 0) fto fpay fcol fnow fthn foth fmnr1_4 fwts1_5 fmap fnxt (vp_updL fO 0 ((mxs (fun i => decide (plc (RV g n k) i n = r0)) n 0).toInt64)) fE).flatten := hD
    refine lv_istore (lv' := [(7, .int (lastP (fun i => decide (plc (RV g n k) i n = r0)) n)), (6, .int (nI 0)), (5, .int (nI z0)), (4, .ref od), (3, .ref oo), (2, .ref (a 0)), (1, .ref (b 0)), (0, .ref sc)]) hx hb dL_law__1418 hl (by decide) rfl (fun ls hl => ?_)
    refine lv_aload_n hx hb dL_law__1420 rfl (lv_at hl 5 rfl) ?_
    refine ca_i (CL := [mO a (nI n) (nI k) (nI 0)]) (va_runV (As := []) (rest := []) ⟨hx, hb, hml, hown, hts⟩ (c_X9_thrown l D cY H.size a n k (nI 0)) (cwV 0 hts gL_law__X9_thrown rfl rfl rfl (by decide +kernel) ⟨Nat.le_of_ble_eq_true rfl, Nat.le_of_ble_eq_true rfl⟩) (b_preV hVK hP hD [30] rfl rfl 30 rfl rfl) rfl rfl hl.1 rfl (lv_room (Nat.le_of_ble_eq_true rfl)) dL_law__1421 ⟨by omega, by omega⟩) hP hD hS hA [30] rfl rfl (fun _ => rfl) (fun r1421 uu H locs hq hP hD hS => ?_)
    subst hq
    have hP : va_P D vwCl (LB cY b rr a oo od n k n k fG fW fR fH fA fS fRs1_1 fOt1_2 fMi1_3 fEn fEb fPy fB fCc (nI 0) fto fpay fcol fnow fthn foth fmnr1_4 fwts1_5 fmap fnxt (vp_updL fO 0 ((mxs (fun i => decide (plc (RV g n k) i n = r0)) n 0).toInt64)) fE).flatten H := hP
    have hD : va_D A (LB cY b rr a oo od n k n k fG fW fR fH fA fS fRs1_1 fOt1_2 fMi1_3 fEn fEb fPy fB fCc (nI 0) fto fpay fcol fnow fthn foth fmnr1_4 fwts1_5 fmap fnxt (vp_updL fO 0 ((mxs (fun i => decide (plc (RV g n k) i n = r0)) n 0).toInt64)) fE).flatten := hD
    refine lv_iload hx hb dL_law__1424 (lv_at hl 1 rfl) ?_
    refine n_icmp_eq (tgt := 1431) hx hb dL_law__1426 (by decide) (by omega) (by omega) (fun h1426 => ?_) (fun h1426 => ?_)
    · -- t
      refine lv_iload hx hb dL_law__1431 (lv_at hl 1 rfl) ?_
      refine n_if_ne (tgt := 1448) hx hb dL_law__1433 (by decide) (by omega) (fun h1433 => ?_) (fun h1433 => ?_)
      · -- t
        exact absurd rfl h1433
      · -- f
        refine lv_aload_n hx hb dL_law__1436 rfl (lv_at hl 4 rfl) ?_
        refine lv_iconst (v := nI 0) hx hb dL_law__1437 (by decide) ?_
        refine b_lald hx hb hK hP 41 1 rfl rfl (by omega) (by omega) dL_law__1438 ?_
        refine eql (x' := (mxs (fun i => decide (plc (RV g n k) i n = r0)) n 0).toInt64) pk_uLs ?_
        refine lv_iload hx hb dL_law__1439 (lv_at hl 0 rfl) ?_
        refine lv_i2l (v := (lastP (fun i => decide (plc (RV g n k) i n = r0)) n).toInt64) hx hb dL_law__1441 rfl ?_
        refine W.lcmp hx hb dL_law__1442 ?_
        refine l_if_eq (tgt := 1448) hx hb dL_law__1443 (by decide) (fun h1443 => ?_) (fun h1443 => ?_)
        · -- t
          refine lv_goto (tgt := 1823) hx hb dL_law__1448 (by decide) ?_
          refine W.widen (Nat.le_add_right cells 1) (Nat.le_add_right slots 6) ?_
          exact K n k g col fG fW fR fH fA fS fRs1_1 fOt1_2 fMi1_3 fEn fEb fPy fB fCc (nI 0) fto fpay fcol fnow fthn foth fmnr1_4 fwts1_5 fmap fnxt (vp_updL fO 0 ((mxs (fun i => decide (plc (RV g n k) i n = r0)) n 0).toInt64)) fE hI _ _ hP hD hS _ (lv_sub hl [2, 3, 4, 5, 6, 7] rfl)
        · -- f
          exact absurd (congrArg Int32.toInt64 ranked_eq) h1443
    · -- f
      exact absurd rfl h1426

set_option maxHeartbeats 8000000 in
set_option maxRecDepth 100000 in
theorem lc_walk {p : Program} {l : Launch} {e : Env} {s : State} {m : MethodId} {below : List Frame} {meth : Method} {c : Code} {H : Heap} {locs : List Loc} {cells slots : Nat} {Q : State → Prop} {D : va_G} {cY : Nat → ClassId} {A : Nat → Prop} {sc L : Nat} {xs : Nat → Int32} {b : Nat → Nat} {rr : Nat → Nat → Nat} {a : Nat → Nat} {oo od z0 : Nat} {ls : Array Slot} (E : LE p s m sc c D cY A L xs) (hlT : l.stackTraces = false) (hi4 : z0 + 4 ≤ L) (hL : L ≤ 2048) (hroom : cells + 1 ≤ room_1.cells ∧ slots + 6 ≤ room_1.slots) {n k : Nat} {g : Nat → Nat → Nat} {col : Nat → Nat} {fG fW : Nat → Nat → Int32} {fR fH fA fS : Nat → Nat → Int64} {fRs : Nat → Int64} {fOt : Nat → Int32} {fMi : Nat → Int64} {fEn fEb fPy : Nat → Int32} {fB : Nat → Nat → Int64} {fCc : Nat → Int32} {th : Int32} {fto fpay fcol : Nat → Int32} {fnow fthn foth fmnr fwts : Nat → Int64} {fmap fnxt : Nat → Int32} {fO : Nat → Int64} {fE : Nat → UInt64} (hI : LV n k g col fG fW fPy fCc fto fpay fcol) (hP : va_P D vwCl (LB cY b rr a oo od n k n k fG fW fR fH fA fS fRs fOt fMi fEn fEb fPy fB fCc th fto fpay fcol fnow fthn foth fmnr fwts fmap fnxt fO fE).flatten H) (hD : va_D A (LB cY b rr a oo od n k n k fG fW fR fH fA fS fRs fOt fMi fEn fEb fPy fB fCc th fto fpay fcol fnow fthn foth fmnr fwts fmap fnxt fO fE).flatten) (hS : va_S A s.heap H locs) (hl : lv_has ls 9 [(5, .int (nI z0)), (4, .ref od), (3, .ref oo), (2, .ref (a 0)), (1, .ref (b 0)), (0, .ref sc)]) (K : LK p l e s m below meth c sc D cY A b rr a oo od z0 cells slots Q) : W p l e room_1 s m #[Value.ref sc] below meth c H locs cells slots Q (F0 m 1451 ls []) := by
  obtain ⟨hx, hb, hml, hts, hown, hK, hVK, hA, hX, hH, hsc, hscl, hscA⟩ := E
  obtain ⟨⟨hn1, hn6, hk1, hk12⟩, hG, hgn, hW, hT, hPy, hC6⟩ := id hI
  rcases Bool.eq_false_or_eq_true (inR (xs (z0 + 1)) (nI 0) (nI (n - 1))) with hc1 | hc1
  · -- holds
    rcases Bool.eq_false_or_eq_true (inR (xs (z0 + 2)) (nI 0) (nI 65520) && inR (xs (z0 + 3)) (nI 0) (nI 1000)) with hc2 | hc2
    · -- holds
      obtain ⟨hca, hcb⟩ := two_ hc2
      obtain ⟨i, hi_, e1⟩ := inR_of (by omega) hc1
      obtain ⟨x, hx_, e2⟩ := inR_of (by omega) hca
      obtain ⟨t, ht_, e3⟩ := inR_of (by omega) hcb
      refine lv_aload_n hx hb dL_law__1451 rfl (lv_at hl 4 rfl) ?_
      refine lv_aload_n hx hb dL_law__1452 rfl (lv_at hl 5 rfl) ?_
      refine lv_iload hx hb dL_law__1453 (lv_at hl 0 rfl) ?_
      refine lv_iconst (v := nI 1) hx hb dL_law__1455 (by decide) ?_
      refine lv_iadd hx hb dL_law__1456 ?_
      refine eqi (x' := nI (z0 + 1)) (nI_add _ _) ?_
      refine s_ld hx hb hsc hscl hscA hS (by omega) hL dL_law__1457 ?_
      refine eqi (x' := nI i) e1 ?_
      refine lv_aload_n hx hb dL_law__1458 rfl (lv_at hl 5 rfl) ?_
      refine lv_iload hx hb dL_law__1459 (lv_at hl 0 rfl) ?_
      refine lv_iconst (v := nI 2) hx hb dL_law__1461 (by decide) ?_
      refine lv_iadd hx hb dL_law__1462 ?_
      refine eqi (x' := nI (z0 + 2)) (nI_add _ _) ?_
      refine s_ld hx hb hsc hscl hscA hS (by omega) hL dL_law__1463 ?_
      refine eqi (x' := nI x) e2 ?_
      refine lv_aload_n hx hb dL_law__1464 rfl (lv_at hl 5 rfl) ?_
      refine lv_iload hx hb dL_law__1465 (lv_at hl 0 rfl) ?_
      refine lv_iconst (v := nI 3) hx hb dL_law__1467 (by decide) ?_
      refine lv_iadd hx hb dL_law__1468 ?_
      refine eqi (x' := nI (z0 + 3)) (nI_add _ _) ?_
      refine s_ld hx hb hsc hscl hscA hS (by omega) hL dL_law__1469 ?_
      refine eqi (x' := nI t) e3 ?_
      refine lv_aload_n hx hb dL_law__1470 rfl (lv_at hl 2 rfl) ?_
      refine hh_i (CL := [hO b, cO b (nI n) (nI k), dO b, oQ (cY 2) (b 2) (rr 0) 6, gI (cY 0) (rr 0) 12 fG 6, [(oo, .inl (cY 1, 1, .inr (.inl fO)))]]) (vx_runSX (As := [.ref (b 0), .int (nI i), .int (nI x), .int (nI t), .ref oo]) (rest := []) ⟨hx, hb, hml, hown, hts⟩ (c_L_walk_ok l D cY H.size b rr n k fG g i x t oo fO (by omega) (by omega) (by omega) (by omega) hG hgn (by omega) (by omega) (by omega)) (vx_cwSW 5 hts gL_law__L_walk rfl rfl rfl (by decide +kernel) ⟨Nat.le_of_ble_eq_true rfl, Nat.le_of_ble_eq_true rfl⟩) (b_preHS hVK hP hD hS hA hX hH [0, 1, 21, 2, 3, 41] rfl rfl) rfl rfl hl.1 rfl (lv_room (Nat.le_of_ble_eq_true rfl)) dL_law__1471 ⟨by omega, by omega⟩) hP hD hS hA [0, 1, 21, 2, 3, 41] rfl rfl (fun _ => rfl) (fun r1471 uu H locs hq hP hD hS => ?_)
      subst hq
      have hP : va_P D vwCl (LB cY b rr a oo od n k n k fG fW fR fH fA fS fRs fOt fMi fEn fEb fPy fB fCc th fto fpay fcol fnow fthn foth fmnr fwts fmap fnxt (vp_updL fO 0 ((nI (wk g k i x t)).toInt64)) fE).flatten H := hP
      have hD : va_D A (LB cY b rr a oo od n k n k fG fW fR fH fA fS fRs fOt fMi fEn fEb fPy fB fCc th fto fpay fcol fnow fthn foth fmnr fwts fmap fnxt (vp_updL fO 0 ((nI (wk g k i x t)).toInt64)) fE).flatten := hD
      refine lv_istore (lv' := [(6, .int (nI 0)), (5, .int (nI z0)), (4, .ref od), (3, .ref oo), (2, .ref (a 0)), (1, .ref (b 0)), (0, .ref sc)]) hx hb dL_law__1474 hl (by decide) rfl (fun ls hl => ?_)
      refine lv_aload_n hx hb dL_law__1476 rfl (lv_at hl 4 rfl) ?_
      refine lv_aload_n hx hb dL_law__1477 rfl (lv_at hl 6 rfl) ?_
      refine lv_iload hx hb dL_law__1478 (lv_at hl 1 rfl) ?_
      refine lv_iconst (v := nI 1) hx hb dL_law__1480 (by decide) ?_
      refine lv_iadd hx hb dL_law__1481 ?_
      refine eqi (x' := nI (z0 + 1)) (nI_add _ _) ?_
      refine s_ld hx hb hsc hscl hscA hS (by omega) hL dL_law__1482 ?_
      refine eqi (x' := nI i) e1 ?_
      refine lv_aload_n hx hb dL_law__1483 rfl (lv_at hl 6 rfl) ?_
      refine lv_iload hx hb dL_law__1484 (lv_at hl 1 rfl) ?_
      refine lv_iconst (v := nI 2) hx hb dL_law__1486 (by decide) ?_
      refine lv_iadd hx hb dL_law__1487 ?_
      refine eqi (x' := nI (z0 + 2)) (nI_add _ _) ?_
      refine s_ld hx hb hsc hscl hscA hS (by omega) hL dL_law__1488 ?_
      refine eqi (x' := nI x) e2 ?_
      refine lv_aload_n hx hb dL_law__1489 rfl (lv_at hl 6 rfl) ?_
      refine lv_iload hx hb dL_law__1490 (lv_at hl 1 rfl) ?_
      refine lv_iconst (v := nI 3) hx hb dL_law__1492 (by decide) ?_
      refine lv_iadd hx hb dL_law__1493 ?_
      refine eqi (x' := nI (z0 + 3)) (nI_add _ _) ?_
      refine s_ld hx hb hsc hscl hscA hS (by omega) hL dL_law__1494 ?_
      refine eqi (x' := nI t) e3 ?_
      refine ca_i (CL := [mO a (nI n) (nI k) th, [(a 1, .inl (cY 0, 72, .inl fto))]]) (va_runV (As := [.int (nI i), .int (nI x), .int (nI t)]) (rest := []) ⟨hx, hb, hml, hown, hts⟩ (c_X9_walk l D cY H.size a n k th fto g i x t (by omega) (by omega) (by omega) (by omega) hT hgn (by omega) (by omega) (by omega)) (cwV 3 hts gL_law__X9_walk rfl rfl rfl (by decide +kernel) ⟨Nat.le_of_ble_eq_true rfl, Nat.le_of_ble_eq_true rfl⟩) (b_preV hVK hP hD [30, 31] rfl rfl 30 rfl rfl) rfl rfl hl.1 rfl (lv_room (Nat.le_of_ble_eq_true rfl)) dL_law__1495 ⟨by omega, by omega⟩) hP hD hS hA [30, 31] rfl rfl (fun _ => rfl) (fun r1495 uu H locs hq hP hD hS => ?_)
      subst hq
      have hP : va_P D vwCl (LB cY b rr a oo od n k n k fG fW fR fH fA fS fRs fOt fMi fEn fEb fPy fB fCc (nI 0) fto fpay fcol fnow fthn foth fmnr fwts fmap fnxt (vp_updL fO 0 ((nI (wk g k i x t)).toInt64)) fE).flatten H := hP
      have hD : va_D A (LB cY b rr a oo od n k n k fG fW fR fH fA fS fRs fOt fMi fEn fEb fPy fB fCc (nI 0) fto fpay fcol fnow fthn foth fmnr fwts fmap fnxt (vp_updL fO 0 ((nI (wk g k i x t)).toInt64)) fE).flatten := hD
      refine lv_istore (lv' := [(7, .int (nI (wk g k i x t))), (6, .int (nI 0)), (5, .int (nI z0)), (4, .ref od), (3, .ref oo), (2, .ref (a 0)), (1, .ref (b 0)), (0, .ref sc)]) hx hb dL_law__1498 hl (by decide) rfl (fun ls hl => ?_)
      refine lv_aload_n hx hb dL_law__1500 rfl (lv_at hl 5 rfl) ?_
      refine ca_i (CL := [mO a (nI n) (nI k) (nI 0)]) (va_runV (As := []) (rest := []) ⟨hx, hb, hml, hown, hts⟩ (c_X9_thrown l D cY H.size a n k (nI 0)) (cwV 0 hts gL_law__X9_thrown rfl rfl rfl (by decide +kernel) ⟨Nat.le_of_ble_eq_true rfl, Nat.le_of_ble_eq_true rfl⟩) (b_preV hVK hP hD [30] rfl rfl 30 rfl rfl) rfl rfl hl.1 rfl (lv_room (Nat.le_of_ble_eq_true rfl)) dL_law__1501 ⟨by omega, by omega⟩) hP hD hS hA [30] rfl rfl (fun _ => rfl) (fun r1501 uu H locs hq hP hD hS => ?_)
      subst hq
      have hP : va_P D vwCl (LB cY b rr a oo od n k n k fG fW fR fH fA fS fRs fOt fMi fEn fEb fPy fB fCc (nI 0) fto fpay fcol fnow fthn foth fmnr fwts fmap fnxt (vp_updL fO 0 ((nI (wk g k i x t)).toInt64)) fE).flatten H := hP
      have hD : va_D A (LB cY b rr a oo od n k n k fG fW fR fH fA fS fRs fOt fMi fEn fEb fPy fB fCc (nI 0) fto fpay fcol fnow fthn foth fmnr fwts fmap fnxt (vp_updL fO 0 ((nI (wk g k i x t)).toInt64)) fE).flatten := hD
      refine lv_iload hx hb dL_law__1504 (lv_at hl 1 rfl) ?_
      refine n_icmp_eq (tgt := 1511) hx hb dL_law__1506 (by decide) (by omega) (by omega) (fun h1506 => ?_) (fun h1506 => ?_)
      · -- t
        refine lv_iload hx hb dL_law__1511 (lv_at hl 1 rfl) ?_
        refine n_if_ne (tgt := 1528) hx hb dL_law__1513 (by decide) (by omega) (fun h1513 => ?_) (fun h1513 => ?_)
        · -- t
          exact absurd rfl h1513
        · -- f
          refine lv_aload_n hx hb dL_law__1516 rfl (lv_at hl 4 rfl) ?_
          refine lv_iconst (v := nI 0) hx hb dL_law__1517 (by decide) ?_
          refine b_lald hx hb hK hP 41 1 rfl rfl (by omega) (by omega) dL_law__1518 ?_
          refine eql (x' := (nI (wk g k i x t)).toInt64) pk_uLs ?_
          refine lv_iload hx hb dL_law__1519 (lv_at hl 0 rfl) ?_
          refine lv_i2l (v := (nI (wk g k i x t)).toInt64) hx hb dL_law__1521 rfl ?_
          refine W.lcmp hx hb dL_law__1522 ?_
          refine l_if_eq (tgt := 1528) hx hb dL_law__1523 (by decide) (fun h1523 => ?_) (fun h1523 => ?_)
          · -- t
            refine lv_goto (tgt := 1823) hx hb dL_law__1528 (by decide) ?_
            refine W.widen (Nat.le_add_right cells 1) (Nat.le_add_right slots 6) ?_
            exact K n k g col fG fW fR fH fA fS fRs fOt fMi fEn fEb fPy fB fCc (nI 0) fto fpay fcol fnow fthn foth fmnr fwts fmap fnxt (vp_updL fO 0 ((nI (wk g k i x t)).toInt64)) fE hI _ _ hP hD hS _ (lv_sub hl [2, 3, 4, 5, 6, 7] rfl)
          · -- f
            exact absurd (rfl) h1523
      · -- f
        exact absurd rfl h1506
    · -- not
      refine lv_aload_n hx hb dL_law__1451 rfl (lv_at hl 4 rfl) ?_
      refine lv_aload_n hx hb dL_law__1452 rfl (lv_at hl 5 rfl) ?_
      refine lv_iload hx hb dL_law__1453 (lv_at hl 0 rfl) ?_
      refine lv_iconst (v := nI 1) hx hb dL_law__1455 (by decide) ?_
      refine lv_iadd hx hb dL_law__1456 ?_
      refine eqi (x' := nI (z0 + 1)) (nI_add _ _) ?_
      refine s_ld hx hb hsc hscl hscA hS (by omega) hL dL_law__1457 ?_
      refine lv_aload_n hx hb dL_law__1458 rfl (lv_at hl 5 rfl) ?_
      refine lv_iload hx hb dL_law__1459 (lv_at hl 0 rfl) ?_
      refine lv_iconst (v := nI 2) hx hb dL_law__1461 (by decide) ?_
      refine lv_iadd hx hb dL_law__1462 ?_
      refine eqi (x' := nI (z0 + 2)) (nI_add _ _) ?_
      refine s_ld hx hb hsc hscl hscA hS (by omega) hL dL_law__1463 ?_
      refine lv_aload_n hx hb dL_law__1464 rfl (lv_at hl 5 rfl) ?_
      refine lv_iload hx hb dL_law__1465 (lv_at hl 0 rfl) ?_
      refine lv_iconst (v := nI 3) hx hb dL_law__1467 (by decide) ?_
      refine lv_iadd hx hb dL_law__1468 ?_
      refine eqi (x' := nI (z0 + 3)) (nI_add _ _) ?_
      refine s_ld hx hb hsc hscl hscA hS (by omega) hL dL_law__1469 ?_
      refine lv_aload_n hx hb dL_law__1470 rfl (lv_at hl 2 rfl) ?_
      refine hh_i (CL := [hO b, cO b (nI n) (nI k), [(oo, .inl (cY 1, 1, .inr (.inl fO)))]]) (vx_runSX (As := [.ref (b 0), .int (xs (z0 + 1)), .int (xs (z0 + 2)), .int (xs (z0 + 3)), .ref oo]) (rest := []) ⟨hx, hb, hml, hown, hts⟩ (c_L_walk_b2 l D cY H.size b n k (xs (z0 + 1)) (xs (z0 + 2)) (xs (z0 + 3)) oo fO hlT (by omega) (by omega) (by omega) (by omega) hc1 hc2) (vx_cwSW 5 hts gL_law__L_walk rfl rfl rfl (by decide +kernel) ⟨Nat.le_of_ble_eq_true rfl, Nat.le_of_ble_eq_true rfl⟩) (b_preHS hVK hP hD hS hA hX hH [0, 1, 41] rfl rfl) rfl rfl hl.1 rfl (lv_room (Nat.le_of_ble_eq_true rfl)) dL_law__1471 ⟨by omega, by omega⟩) hP hD hS hA [0, 1, 41] rfl rfl (fun _ => rfl) (fun r1471 uu H locs hq hP hD hS => ?_)
      subst hq
      have hP : va_P D vwCl (LB cY b rr a oo od n k n k fG fW fR fH fA fS fRs fOt fMi fEn fEb fPy fB fCc th fto fpay fcol fnow fthn foth fmnr fwts fmap fnxt fO fE).flatten H := hP
      have hD : va_D A (LB cY b rr a oo od n k n k fG fW fR fH fA fS fRs fOt fMi fEn fEb fPy fB fCc th fto fpay fcol fnow fthn foth fmnr fwts fmap fnxt fO fE).flatten := hD
      refine lv_istore (lv' := [(6, .int (nI 2)), (5, .int (nI z0)), (4, .ref od), (3, .ref oo), (2, .ref (a 0)), (1, .ref (b 0)), (0, .ref sc)]) hx hb dL_law__1474 hl (by decide) rfl (fun ls hl => ?_)
      refine lv_aload_n hx hb dL_law__1476 rfl (lv_at hl 4 rfl) ?_
      refine lv_aload_n hx hb dL_law__1477 rfl (lv_at hl 6 rfl) ?_
      refine lv_iload hx hb dL_law__1478 (lv_at hl 1 rfl) ?_
      refine lv_iconst (v := nI 1) hx hb dL_law__1480 (by decide) ?_
      refine lv_iadd hx hb dL_law__1481 ?_
      refine eqi (x' := nI (z0 + 1)) (nI_add _ _) ?_
      refine s_ld hx hb hsc hscl hscA hS (by omega) hL dL_law__1482 ?_
      refine lv_aload_n hx hb dL_law__1483 rfl (lv_at hl 6 rfl) ?_
      refine lv_iload hx hb dL_law__1484 (lv_at hl 1 rfl) ?_
      refine lv_iconst (v := nI 2) hx hb dL_law__1486 (by decide) ?_
      refine lv_iadd hx hb dL_law__1487 ?_
      refine eqi (x' := nI (z0 + 2)) (nI_add _ _) ?_
      refine s_ld hx hb hsc hscl hscA hS (by omega) hL dL_law__1488 ?_
      refine lv_aload_n hx hb dL_law__1489 rfl (lv_at hl 6 rfl) ?_
      refine lv_iload hx hb dL_law__1490 (lv_at hl 1 rfl) ?_
      refine lv_iconst (v := nI 3) hx hb dL_law__1492 (by decide) ?_
      refine lv_iadd hx hb dL_law__1493 ?_
      refine eqi (x' := nI (z0 + 3)) (nI_add _ _) ?_
      refine s_ld hx hb hsc hscl hscA hS (by omega) hL dL_law__1494 ?_
      refine ca_i (CL := [mO a (nI n) (nI k) th]) (va_runV (As := [.int (xs (z0 + 1)), .int (xs (z0 + 2)), .int (xs (z0 + 3))]) (rest := []) ⟨hx, hb, hml, hown, hts⟩ (c_X9_walk_b2 l D cY H.size a n k th (xs (z0 + 1)) (xs (z0 + 2)) (xs (z0 + 3)) (by omega) (by omega) (by omega) (by omega) hc1 hc2) (cwV 3 hts gL_law__X9_walk rfl rfl rfl (by decide +kernel) ⟨Nat.le_of_ble_eq_true rfl, Nat.le_of_ble_eq_true rfl⟩) (b_preV hVK hP hD [30] rfl rfl 30 rfl rfl) rfl rfl hl.1 rfl (lv_room (Nat.le_of_ble_eq_true rfl)) dL_law__1495 ⟨by omega, by omega⟩) hP hD hS hA [30] rfl rfl (fun _ => rfl) (fun r1495 uu H locs hq hP hD hS => ?_)
      subst hq
      have hP : va_P D vwCl (LB cY b rr a oo od n k n k fG fW fR fH fA fS fRs fOt fMi fEn fEb fPy fB fCc (nI 2) fto fpay fcol fnow fthn foth fmnr fwts fmap fnxt fO fE).flatten H := hP
      have hD : va_D A (LB cY b rr a oo od n k n k fG fW fR fH fA fS fRs fOt fMi fEn fEb fPy fB fCc (nI 2) fto fpay fcol fnow fthn foth fmnr fwts fmap fnxt fO fE).flatten := hD
      refine lv_istore (lv' := [(7, .int (nI 0)), (6, .int (nI 2)), (5, .int (nI z0)), (4, .ref od), (3, .ref oo), (2, .ref (a 0)), (1, .ref (b 0)), (0, .ref sc)]) hx hb dL_law__1498 hl (by decide) rfl (fun ls hl => ?_)
      refine lv_aload_n hx hb dL_law__1500 rfl (lv_at hl 5 rfl) ?_
      refine ca_i (CL := [mO a (nI n) (nI k) (nI 2)]) (va_runV (As := []) (rest := []) ⟨hx, hb, hml, hown, hts⟩ (c_X9_thrown l D cY H.size a n k (nI 2)) (cwV 0 hts gL_law__X9_thrown rfl rfl rfl (by decide +kernel) ⟨Nat.le_of_ble_eq_true rfl, Nat.le_of_ble_eq_true rfl⟩) (b_preV hVK hP hD [30] rfl rfl 30 rfl rfl) rfl rfl hl.1 rfl (lv_room (Nat.le_of_ble_eq_true rfl)) dL_law__1501 ⟨by omega, by omega⟩) hP hD hS hA [30] rfl rfl (fun _ => rfl) (fun r1501 uu H locs hq hP hD hS => ?_)
      subst hq
      have hP : va_P D vwCl (LB cY b rr a oo od n k n k fG fW fR fH fA fS fRs fOt fMi fEn fEb fPy fB fCc (nI 2) fto fpay fcol fnow fthn foth fmnr fwts fmap fnxt fO fE).flatten H := hP
      have hD : va_D A (LB cY b rr a oo od n k n k fG fW fR fH fA fS fRs fOt fMi fEn fEb fPy fB fCc (nI 2) fto fpay fcol fnow fthn foth fmnr fwts fmap fnxt fO fE).flatten := hD
      refine lv_iload hx hb dL_law__1504 (lv_at hl 1 rfl) ?_
      refine n_icmp_eq (tgt := 1511) hx hb dL_law__1506 (by decide) (by omega) (by omega) (fun h1506 => ?_) (fun h1506 => ?_)
      · -- t
        refine lv_iload hx hb dL_law__1511 (lv_at hl 1 rfl) ?_
        refine n_if_ne (tgt := 1528) hx hb dL_law__1513 (by decide) (by omega) (fun h1513 => ?_) (fun h1513 => ?_)
        · -- t
          refine lv_goto (tgt := 1823) hx hb dL_law__1528 (by decide) ?_
          exact K n k g col fG fW fR fH fA fS fRs fOt fMi fEn fEb fPy fB fCc (nI 2) fto fpay fcol fnow fthn foth fmnr fwts fmap fnxt fO fE hI _ _ hP hD hS _ (lv_sub hl [2, 3, 4, 5, 6, 7] rfl)
        · -- f
          exact absurd h1513 (by decide)
      · -- f
        exact absurd rfl h1506
  · -- not
    refine lv_aload_n hx hb dL_law__1451 rfl (lv_at hl 4 rfl) ?_
    refine lv_aload_n hx hb dL_law__1452 rfl (lv_at hl 5 rfl) ?_
    refine lv_iload hx hb dL_law__1453 (lv_at hl 0 rfl) ?_
    refine lv_iconst (v := nI 1) hx hb dL_law__1455 (by decide) ?_
    refine lv_iadd hx hb dL_law__1456 ?_
    refine eqi (x' := nI (z0 + 1)) (nI_add _ _) ?_
    refine s_ld hx hb hsc hscl hscA hS (by omega) hL dL_law__1457 ?_
    refine lv_aload_n hx hb dL_law__1458 rfl (lv_at hl 5 rfl) ?_
    refine lv_iload hx hb dL_law__1459 (lv_at hl 0 rfl) ?_
    refine lv_iconst (v := nI 2) hx hb dL_law__1461 (by decide) ?_
    refine lv_iadd hx hb dL_law__1462 ?_
    refine eqi (x' := nI (z0 + 2)) (nI_add _ _) ?_
    refine s_ld hx hb hsc hscl hscA hS (by omega) hL dL_law__1463 ?_
    refine lv_aload_n hx hb dL_law__1464 rfl (lv_at hl 5 rfl) ?_
    refine lv_iload hx hb dL_law__1465 (lv_at hl 0 rfl) ?_
    refine lv_iconst (v := nI 3) hx hb dL_law__1467 (by decide) ?_
    refine lv_iadd hx hb dL_law__1468 ?_
    refine eqi (x' := nI (z0 + 3)) (nI_add _ _) ?_
    refine s_ld hx hb hsc hscl hscA hS (by omega) hL dL_law__1469 ?_
    refine lv_aload_n hx hb dL_law__1470 rfl (lv_at hl 2 rfl) ?_
    refine hh_i (CL := [hO b, cO b (nI n) (nI k), [(oo, .inl (cY 1, 1, .inr (.inl fO)))]]) (vx_runSX (As := [.ref (b 0), .int (xs (z0 + 1)), .int (xs (z0 + 2)), .int (xs (z0 + 3)), .ref oo]) (rest := []) ⟨hx, hb, hml, hown, hts⟩ (c_L_walk_b1 l D cY H.size b n k (xs (z0 + 1)) (xs (z0 + 2)) (xs (z0 + 3)) oo fO hlT (by omega) (by omega) (by omega) (by omega) hc1) (vx_cwSW 5 hts gL_law__L_walk rfl rfl rfl (by decide +kernel) ⟨Nat.le_of_ble_eq_true rfl, Nat.le_of_ble_eq_true rfl⟩) (b_preHS hVK hP hD hS hA hX hH [0, 1, 41] rfl rfl) rfl rfl hl.1 rfl (lv_room (Nat.le_of_ble_eq_true rfl)) dL_law__1471 ⟨by omega, by omega⟩) hP hD hS hA [0, 1, 41] rfl rfl (fun _ => rfl) (fun r1471 uu H locs hq hP hD hS => ?_)
    subst hq
    have hP : va_P D vwCl (LB cY b rr a oo od n k n k fG fW fR fH fA fS fRs fOt fMi fEn fEb fPy fB fCc th fto fpay fcol fnow fthn foth fmnr fwts fmap fnxt fO fE).flatten H := hP
    have hD : va_D A (LB cY b rr a oo od n k n k fG fW fR fH fA fS fRs fOt fMi fEn fEb fPy fB fCc th fto fpay fcol fnow fthn foth fmnr fwts fmap fnxt fO fE).flatten := hD
    refine lv_istore (lv' := [(6, .int (nI 1)), (5, .int (nI z0)), (4, .ref od), (3, .ref oo), (2, .ref (a 0)), (1, .ref (b 0)), (0, .ref sc)]) hx hb dL_law__1474 hl (by decide) rfl (fun ls hl => ?_)
    refine lv_aload_n hx hb dL_law__1476 rfl (lv_at hl 4 rfl) ?_
    refine lv_aload_n hx hb dL_law__1477 rfl (lv_at hl 6 rfl) ?_
    refine lv_iload hx hb dL_law__1478 (lv_at hl 1 rfl) ?_
    refine lv_iconst (v := nI 1) hx hb dL_law__1480 (by decide) ?_
    refine lv_iadd hx hb dL_law__1481 ?_
    refine eqi (x' := nI (z0 + 1)) (nI_add _ _) ?_
    refine s_ld hx hb hsc hscl hscA hS (by omega) hL dL_law__1482 ?_
    refine lv_aload_n hx hb dL_law__1483 rfl (lv_at hl 6 rfl) ?_
    refine lv_iload hx hb dL_law__1484 (lv_at hl 1 rfl) ?_
    refine lv_iconst (v := nI 2) hx hb dL_law__1486 (by decide) ?_
    refine lv_iadd hx hb dL_law__1487 ?_
    refine eqi (x' := nI (z0 + 2)) (nI_add _ _) ?_
    refine s_ld hx hb hsc hscl hscA hS (by omega) hL dL_law__1488 ?_
    refine lv_aload_n hx hb dL_law__1489 rfl (lv_at hl 6 rfl) ?_
    refine lv_iload hx hb dL_law__1490 (lv_at hl 1 rfl) ?_
    refine lv_iconst (v := nI 3) hx hb dL_law__1492 (by decide) ?_
    refine lv_iadd hx hb dL_law__1493 ?_
    refine eqi (x' := nI (z0 + 3)) (nI_add _ _) ?_
    refine s_ld hx hb hsc hscl hscA hS (by omega) hL dL_law__1494 ?_
    refine ca_i (CL := [mO a (nI n) (nI k) th]) (va_runV (As := [.int (xs (z0 + 1)), .int (xs (z0 + 2)), .int (xs (z0 + 3))]) (rest := []) ⟨hx, hb, hml, hown, hts⟩ (c_X9_walk_b1 l D cY H.size a n k th (xs (z0 + 1)) (xs (z0 + 2)) (xs (z0 + 3)) (by omega) (by omega) (by omega) (by omega) hc1) (cwV 3 hts gL_law__X9_walk rfl rfl rfl (by decide +kernel) ⟨Nat.le_of_ble_eq_true rfl, Nat.le_of_ble_eq_true rfl⟩) (b_preV hVK hP hD [30] rfl rfl 30 rfl rfl) rfl rfl hl.1 rfl (lv_room (Nat.le_of_ble_eq_true rfl)) dL_law__1495 ⟨by omega, by omega⟩) hP hD hS hA [30] rfl rfl (fun _ => rfl) (fun r1495 uu H locs hq hP hD hS => ?_)
    subst hq
    have hP : va_P D vwCl (LB cY b rr a oo od n k n k fG fW fR fH fA fS fRs fOt fMi fEn fEb fPy fB fCc (nI 1) fto fpay fcol fnow fthn foth fmnr fwts fmap fnxt fO fE).flatten H := hP
    have hD : va_D A (LB cY b rr a oo od n k n k fG fW fR fH fA fS fRs fOt fMi fEn fEb fPy fB fCc (nI 1) fto fpay fcol fnow fthn foth fmnr fwts fmap fnxt fO fE).flatten := hD
    refine lv_istore (lv' := [(7, .int (nI 0)), (6, .int (nI 1)), (5, .int (nI z0)), (4, .ref od), (3, .ref oo), (2, .ref (a 0)), (1, .ref (b 0)), (0, .ref sc)]) hx hb dL_law__1498 hl (by decide) rfl (fun ls hl => ?_)
    refine lv_aload_n hx hb dL_law__1500 rfl (lv_at hl 5 rfl) ?_
    refine ca_i (CL := [mO a (nI n) (nI k) (nI 1)]) (va_runV (As := []) (rest := []) ⟨hx, hb, hml, hown, hts⟩ (c_X9_thrown l D cY H.size a n k (nI 1)) (cwV 0 hts gL_law__X9_thrown rfl rfl rfl (by decide +kernel) ⟨Nat.le_of_ble_eq_true rfl, Nat.le_of_ble_eq_true rfl⟩) (b_preV hVK hP hD [30] rfl rfl 30 rfl rfl) rfl rfl hl.1 rfl (lv_room (Nat.le_of_ble_eq_true rfl)) dL_law__1501 ⟨by omega, by omega⟩) hP hD hS hA [30] rfl rfl (fun _ => rfl) (fun r1501 uu H locs hq hP hD hS => ?_)
    subst hq
    have hP : va_P D vwCl (LB cY b rr a oo od n k n k fG fW fR fH fA fS fRs fOt fMi fEn fEb fPy fB fCc (nI 1) fto fpay fcol fnow fthn foth fmnr fwts fmap fnxt fO fE).flatten H := hP
    have hD : va_D A (LB cY b rr a oo od n k n k fG fW fR fH fA fS fRs fOt fMi fEn fEb fPy fB fCc (nI 1) fto fpay fcol fnow fthn foth fmnr fwts fmap fnxt fO fE).flatten := hD
    refine lv_iload hx hb dL_law__1504 (lv_at hl 1 rfl) ?_
    refine n_icmp_eq (tgt := 1511) hx hb dL_law__1506 (by decide) (by omega) (by omega) (fun h1506 => ?_) (fun h1506 => ?_)
    · -- t
      refine lv_iload hx hb dL_law__1511 (lv_at hl 1 rfl) ?_
      refine n_if_ne (tgt := 1528) hx hb dL_law__1513 (by decide) (by omega) (fun h1513 => ?_) (fun h1513 => ?_)
      · -- t
        refine lv_goto (tgt := 1823) hx hb dL_law__1528 (by decide) ?_
        exact K n k g col fG fW fR fH fA fS fRs fOt fMi fEn fEb fPy fB fCc (nI 1) fto fpay fcol fnow fthn foth fmnr fwts fmap fnxt fO fE hI _ _ hP hD hS _ (lv_sub hl [2, 3, 4, 5, 6, 7] rfl)
      · -- f
        exact absurd h1513 (by decide)
    · -- f
      exact absurd rfl h1506

