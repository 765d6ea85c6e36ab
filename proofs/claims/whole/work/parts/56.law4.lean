set_option maxHeartbeats 8000000 in
set_option maxRecDepth 100000 in
theorem lc_begin {p : Program} {l : Launch} {e : Env} {s : State} {m : MethodId} {below : List Frame} {meth : Method} {c : Code} {H : Heap} {locs : List Loc} {cells slots : Nat} {Q : State → Prop} {D : va_G} {cY : Nat → ClassId} {A : Nat → Prop} {sc L : Nat} {xs : Nat → Int32} {b : Nat → Nat} {rr : Nat → Nat → Nat} {a : Nat → Nat} {oo od z0 : Nat} {ls : Array Slot} (E : LE p s m sc c D cY A L xs) (hlT : l.stackTraces = false) (hi4 : z0 + 4 ≤ L) (hL : L ≤ 2048) (hroom : cells + 1 ≤ room_1.cells ∧ slots + 6 ≤ room_1.slots) {n k : Nat} {g : Nat → Nat → Nat} {col : Nat → Nat} {fG fW : Nat → Nat → Int32} {fR fH fA fS : Nat → Nat → Int64} {fRs : Nat → Int64} {fOt : Nat → Int32} {fMi : Nat → Int64} {fEn fEb fPy : Nat → Int32} {fB : Nat → Nat → Int64} {fCc : Nat → Int32} {th : Int32} {fto fpay fcol : Nat → Int32} {fnow fthn foth fmnr fwts : Nat → Int64} {fmap fnxt : Nat → Int32} {fO : Nat → Int64} {fE : Nat → UInt64} (hI : LV n k g col fG fW fPy fCc fto fpay fcol) (hP : va_P D vwCl (LB cY b rr a oo od n k n k fG fW fR fH fA fS fRs fOt fMi fEn fEb fPy fB fCc th fto fpay fcol fnow fthn foth fmnr fwts fmap fnxt fO fE).flatten H) (hD : va_D A (LB cY b rr a oo od n k n k fG fW fR fH fA fS fRs fOt fMi fEn fEb fPy fB fCc th fto fpay fcol fnow fthn foth fmnr fwts fmap fnxt fO fE).flatten) (hS : va_S A s.heap H locs) (hl : lv_has ls 9 [(5, .int (nI z0)), (4, .ref od), (3, .ref oo), (2, .ref (a 0)), (1, .ref (b 0)), (0, .ref sc)]) (K : LK p l e s m below meth c sc D cY A b rr a oo od z0 cells slots Q) : W p l e room_1 s m #[Value.ref sc] below meth c H locs cells slots Q (F0 m 172 ls []) := by
  obtain ⟨hx, hb, hml, hts, hown, hK, hVK, hA, hX, hH, hsc, hscl, hscA⟩ := E
  obtain ⟨⟨hn1, hn6, hk1, hk12⟩, hG, hgn, hW, hT, hPy, hC6⟩ := id hI
  rcases Bool.eq_false_or_eq_true (inR (xs (z0 + 1)) (nI 1) (nI 6) && inR (xs (z0 + 2)) (nI 1) (nI 12)) with hc1 | hc1
  · -- holds
    obtain ⟨hca, hcb⟩ := two_ hc1
    obtain ⟨n2, hn2a, hn2b, e1⟩ := inR_of1 (by omega) hca
    obtain ⟨k2, hk2a, hk2b, e2⟩ := inR_of1 (by omega) hcb
    refine lv_aload_n hx hb dL_law__172 rfl (lv_at hl 4 rfl) ?_
    refine lv_aload_n hx hb dL_law__173 rfl (lv_at hl 5 rfl) ?_
    refine lv_iload hx hb dL_law__174 (lv_at hl 0 rfl) ?_
    refine lv_iconst (v := nI 1) hx hb dL_law__176 (by decide) ?_
    refine lv_iadd hx hb dL_law__177 ?_
    refine eqi (x' := nI (z0 + 1)) (nI_add _ _) ?_
    refine s_ld hx hb hsc hscl hscA hS (by omega) hL dL_law__178 ?_
    refine eqi (x' := nI n2) e1 ?_
    refine lv_aload_n hx hb dL_law__179 rfl (lv_at hl 5 rfl) ?_
    refine lv_iload hx hb dL_law__180 (lv_at hl 0 rfl) ?_
    refine lv_iconst (v := nI 2) hx hb dL_law__182 (by decide) ?_
    refine lv_iadd hx hb dL_law__183 ?_
    refine eqi (x' := nI (z0 + 2)) (nI_add _ _) ?_
    refine s_ld hx hb hsc hscl hscA hS (by omega) hL dL_law__184 ?_
    refine eqi (x' := nI k2) e2 ?_
    refine hh_i (CL := [hO b, cO b (nI n) (nI k), oQ (cY 2) (b 2) (rr 0) 6, gI (cY 0) (rr 0) 12 fG 6, oQ (cY 2) (b 3) (rr 1) 6, gI (cY 0) (rr 1) 6 fW 6, gO b, [(b 19, .inl (cY 0, 6, .inl fPy))], uO b, [(b 22, .inl (cY 0, 6, .inl fCc))]]) (vx_runSX (As := [.ref (b 0), .int (nI n2), .int (nI k2)]) (rest := []) ⟨hx, hb, hml, hown, hts⟩ (c_L_begin_ok l D cY H.size b rr (nI n) (nI k) fG fW fPy fCc n2 k2 (by omega) (by omega) (by omega) (by omega)) (vx_cwSW 3 hts gL_law__L_begin rfl rfl rfl (by decide +kernel) ⟨Nat.le_of_ble_eq_true rfl, Nat.le_of_ble_eq_true rfl⟩) (b_preHS hVK hP hD hS hA hX hH [0, 1, 2, 3, 4, 5, 24, 25, 28, 29] rfl rfl) rfl rfl hl.1 rfl (lv_room (Nat.le_of_ble_eq_true rfl)) dL_law__185 ⟨by omega, by omega⟩) hP hD hS hA [0, 1, 2, 3, 4, 5, 24, 25, 28, 29] rfl rfl (fun _ => rfl) (fun r185 uu H locs hq hP hD hS => ?_)
    obtain ⟨fG1_1, fW1_2, fPy1_3, fCc1_4⟩ := uu
    try dsimp only at hq
    obtain ⟨rfl, q185⟩ := hq
    have hP : va_P D vwCl (LB cY b rr a oo od n2 k2 n k fG1_1 fW1_2 fR fH fA fS fRs fOt fMi fEn fEb fPy1_3 fB fCc1_4 th fto fpay fcol fnow fthn foth fmnr fwts fmap fnxt fO fE).flatten H := hP
    have hD : va_D A (LB cY b rr a oo od n2 k2 n k fG1_1 fW1_2 fR fH fA fS fRs fOt fMi fEn fEb fPy1_3 fB fCc1_4 th fto fpay fcol fnow fthn foth fmnr fwts fmap fnxt fO fE).flatten := hD
    refine lv_istore (lv' := [(6, .int (nI 0)), (5, .int (nI z0)), (4, .ref od), (3, .ref oo), (2, .ref (a 0)), (1, .ref (b 0)), (0, .ref sc)]) hx hb dL_law__188 hl (by decide) rfl (fun ls hl => ?_)
    refine lv_aload_n hx hb dL_law__190 rfl (lv_at hl 4 rfl) ?_
    refine lv_aload_n hx hb dL_law__191 rfl (lv_at hl 6 rfl) ?_
    refine lv_iload hx hb dL_law__192 (lv_at hl 1 rfl) ?_
    refine lv_iconst (v := nI 1) hx hb dL_law__194 (by decide) ?_
    refine lv_iadd hx hb dL_law__195 ?_
    refine eqi (x' := nI (z0 + 1)) (nI_add _ _) ?_
    refine s_ld hx hb hsc hscl hscA hS (by omega) hL dL_law__196 ?_
    refine eqi (x' := nI n2) e1 ?_
    refine lv_aload_n hx hb dL_law__197 rfl (lv_at hl 6 rfl) ?_
    refine lv_iload hx hb dL_law__198 (lv_at hl 1 rfl) ?_
    refine lv_iconst (v := nI 2) hx hb dL_law__200 (by decide) ?_
    refine lv_iadd hx hb dL_law__201 ?_
    refine eqi (x' := nI (z0 + 2)) (nI_add _ _) ?_
    refine s_ld hx hb hsc hscl hscA hS (by omega) hL dL_law__202 ?_
    refine eqi (x' := nI k2) e2 ?_
    refine ca_v (CL := [mO a (nI n) (nI k) th, [(a 1, .inl (cY 0, 72, .inl fto))], [(a 2, .inl (cY 0, 6, .inl fpay))], [(a 3, .inl (cY 0, 6, .inl fcol))]]) (va_runV (As := [.int (nI n2), .int (nI k2)]) (rest := []) ⟨hx, hb, hml, hown, hts⟩ (c_X9_begin_ok l D cY H.size a n k th fto fpay fcol n2 k2 (by omega) (by omega) (by omega) (by omega)) (cwV 2 hts gL_law__X9_begin rfl rfl rfl (by decide +kernel) ⟨Nat.le_of_ble_eq_true rfl, Nat.le_of_ble_eq_true rfl⟩) (b_preV hVK hP hD [30, 31, 32, 33] rfl rfl 30 rfl rfl) rfl rfl hl.1 rfl (lv_room (Nat.le_of_ble_eq_true rfl)) dL_law__203 ⟨by omega, by omega⟩) hP hD hS hA [30, 31, 32, 33] rfl rfl (fun _ => rfl) (fun uu H locs hq hP hD hS => ?_)
    obtain ⟨fto1_5, fpay1_6, fcol1_7⟩ := uu
    try dsimp only at hq
    have q203 := hq
    have hP : va_P D vwCl (LB cY b rr a oo od n2 k2 n2 k2 fG1_1 fW1_2 fR fH fA fS fRs fOt fMi fEn fEb fPy1_3 fB fCc1_4 (nI 0) fto1_5 fpay1_6 fcol1_7 fnow fthn foth fmnr fwts fmap fnxt fO fE).flatten H := hP
    have hD : va_D A (LB cY b rr a oo od n2 k2 n2 k2 fG1_1 fW1_2 fR fH fA fS fRs fOt fMi fEn fEb fPy1_3 fB fCc1_4 (nI 0) fto1_5 fpay1_6 fcol1_7 fnow fthn foth fmnr fwts fmap fnxt fO fE).flatten := hD
    refine lv_aload_n hx hb dL_law__206 rfl (lv_at hl 4 rfl) ?_
    refine ca_i (CL := [mO a (nI n2) (nI k2) (nI 0)]) (va_runV (As := []) (rest := []) ⟨hx, hb, hml, hown, hts⟩ (c_X9_thrown l D cY H.size a n2 k2 (nI 0)) (cwV 0 hts gL_law__X9_thrown rfl rfl rfl (by decide +kernel) ⟨Nat.le_of_ble_eq_true rfl, Nat.le_of_ble_eq_true rfl⟩) (b_preV hVK hP hD [30] rfl rfl 30 rfl rfl) rfl rfl hl.1 rfl (lv_room (Nat.le_of_ble_eq_true rfl)) dL_law__207 ⟨by omega, by omega⟩) hP hD hS hA [30] rfl rfl (fun _ => rfl) (fun r207 uu H locs hq hP hD hS => ?_)
    subst hq
    have hP : va_P D vwCl (LB cY b rr a oo od n2 k2 n2 k2 fG1_1 fW1_2 fR fH fA fS fRs fOt fMi fEn fEb fPy1_3 fB fCc1_4 (nI 0) fto1_5 fpay1_6 fcol1_7 fnow fthn foth fmnr fwts fmap fnxt fO fE).flatten H := hP
    have hD : va_D A (LB cY b rr a oo od n2 k2 n2 k2 fG1_1 fW1_2 fR fH fA fS fRs fOt fMi fEn fEb fPy1_3 fB fCc1_4 (nI 0) fto1_5 fpay1_6 fcol1_7 fnow fthn foth fmnr fwts fmap fnxt fO fE).flatten := hD
    refine lv_iload hx hb dL_law__210 (lv_at hl 0 rfl) ?_
    refine n_icmp_eq (tgt := 217) hx hb dL_law__212 (by decide) (by omega) (by omega) (fun h212 => ?_) (fun h212 => ?_)
    · -- t
      refine lv_goto (tgt := 1823) hx hb dL_law__217 (by decide) ?_
      refine W.widen (Nat.le_add_right cells 1) (Nat.le_add_right slots 6) ?_
      exact K n2 k2 (fun i _ => i) (fun _ => 0) fG1_1 fW1_2 fR fH fA fS fRs fOt fMi fEn fEb fPy1_3 fB fCc1_4 (nI 0) fto1_5 fpay1_6 fcol1_7 fnow fthn foth fmnr fwts fmap fnxt fO fE (LV_begin hn2a hn2b hk2a hk2b q185.1.1 q185.1.2 q185.2.1 q185.2.2 q203.1 q203.2.1 q203.2.2) _ _ hP hD hS _ (lv_sub hl [1, 2, 3, 4, 5, 6] rfl)
    · -- f
      exact absurd rfl h212
  · -- not
    refine lv_aload_n hx hb dL_law__172 rfl (lv_at hl 4 rfl) ?_
    refine lv_aload_n hx hb dL_law__173 rfl (lv_at hl 5 rfl) ?_
    refine lv_iload hx hb dL_law__174 (lv_at hl 0 rfl) ?_
    refine lv_iconst (v := nI 1) hx hb dL_law__176 (by decide) ?_
    refine lv_iadd hx hb dL_law__177 ?_
    refine eqi (x' := nI (z0 + 1)) (nI_add _ _) ?_
    refine s_ld hx hb hsc hscl hscA hS (by omega) hL dL_law__178 ?_
    refine lv_aload_n hx hb dL_law__179 rfl (lv_at hl 5 rfl) ?_
    refine lv_iload hx hb dL_law__180 (lv_at hl 0 rfl) ?_
    refine lv_iconst (v := nI 2) hx hb dL_law__182 (by decide) ?_
    refine lv_iadd hx hb dL_law__183 ?_
    refine eqi (x' := nI (z0 + 2)) (nI_add _ _) ?_
    refine s_ld hx hb hsc hscl hscA hS (by omega) hL dL_law__184 ?_
    refine hh_i (CL := [hO b, cO b (nI n) (nI k)]) (vx_runSX (As := [.ref (b 0), .int (xs (z0 + 1)), .int (xs (z0 + 2))]) (rest := []) ⟨hx, hb, hml, hown, hts⟩ (c_L_begin_bad l D cY H.size b n k (xs (z0 + 1)) (xs (z0 + 2)) hlT (by omega) (by omega) (by omega) (by omega) hc1) (vx_cwSW 3 hts gL_law__L_begin rfl rfl rfl (by decide +kernel) ⟨Nat.le_of_ble_eq_true rfl, Nat.le_of_ble_eq_true rfl⟩) (b_preHS hVK hP hD hS hA hX hH [0, 1] rfl rfl) rfl rfl hl.1 rfl (lv_room (Nat.le_of_ble_eq_true rfl)) dL_law__185 ⟨by omega, by omega⟩) hP hD hS hA [0, 1] rfl rfl (fun _ => rfl) (fun r185 uu H locs hq hP hD hS => ?_)
    subst hq
    have hP : va_P D vwCl (LB cY b rr a oo od n k n k fG fW fR fH fA fS fRs fOt fMi fEn fEb fPy fB fCc th fto fpay fcol fnow fthn foth fmnr fwts fmap fnxt fO fE).flatten H := hP
    have hD : va_D A (LB cY b rr a oo od n k n k fG fW fR fH fA fS fRs fOt fMi fEn fEb fPy fB fCc th fto fpay fcol fnow fthn foth fmnr fwts fmap fnxt fO fE).flatten := hD
    refine lv_istore (lv' := [(6, .int (nI 1)), (5, .int (nI z0)), (4, .ref od), (3, .ref oo), (2, .ref (a 0)), (1, .ref (b 0)), (0, .ref sc)]) hx hb dL_law__188 hl (by decide) rfl (fun ls hl => ?_)
    refine lv_aload_n hx hb dL_law__190 rfl (lv_at hl 4 rfl) ?_
    refine lv_aload_n hx hb dL_law__191 rfl (lv_at hl 6 rfl) ?_
    refine lv_iload hx hb dL_law__192 (lv_at hl 1 rfl) ?_
    refine lv_iconst (v := nI 1) hx hb dL_law__194 (by decide) ?_
    refine lv_iadd hx hb dL_law__195 ?_
    refine eqi (x' := nI (z0 + 1)) (nI_add _ _) ?_
    refine s_ld hx hb hsc hscl hscA hS (by omega) hL dL_law__196 ?_
    refine lv_aload_n hx hb dL_law__197 rfl (lv_at hl 6 rfl) ?_
    refine lv_iload hx hb dL_law__198 (lv_at hl 1 rfl) ?_
    refine lv_iconst (v := nI 2) hx hb dL_law__200 (by decide) ?_
    refine lv_iadd hx hb dL_law__201 ?_
    refine eqi (x' := nI (z0 + 2)) (nI_add _ _) ?_
    refine s_ld hx hb hsc hscl hscA hS (by omega) hL dL_law__202 ?_
    refine ca_v (CL := [mO a (nI n) (nI k) th]) (va_runV (As := [.int (xs (z0 + 1)), .int (xs (z0 + 2))]) (rest := []) ⟨hx, hb, hml, hown, hts⟩ (c_X9_begin_bad l D cY H.size a n k th (xs (z0 + 1)) (xs (z0 + 2)) hc1) (cwV 2 hts gL_law__X9_begin rfl rfl rfl (by decide +kernel) ⟨Nat.le_of_ble_eq_true rfl, Nat.le_of_ble_eq_true rfl⟩) (b_preV hVK hP hD [30] rfl rfl 30 rfl rfl) rfl rfl hl.1 rfl (lv_room (Nat.le_of_ble_eq_true rfl)) dL_law__203 ⟨by omega, by omega⟩) hP hD hS hA [30] rfl rfl (fun _ => rfl) (fun uu H locs hq hP hD hS => ?_)
    have hP : va_P D vwCl (LB cY b rr a oo od n k n k fG fW fR fH fA fS fRs fOt fMi fEn fEb fPy fB fCc (nI 1) fto fpay fcol fnow fthn foth fmnr fwts fmap fnxt fO fE).flatten H := hP
    have hD : va_D A (LB cY b rr a oo od n k n k fG fW fR fH fA fS fRs fOt fMi fEn fEb fPy fB fCc (nI 1) fto fpay fcol fnow fthn foth fmnr fwts fmap fnxt fO fE).flatten := hD
    refine lv_aload_n hx hb dL_law__206 rfl (lv_at hl 4 rfl) ?_
    refine ca_i (CL := [mO a (nI n) (nI k) (nI 1)]) (va_runV (As := []) (rest := []) ⟨hx, hb, hml, hown, hts⟩ (c_X9_thrown l D cY H.size a n k (nI 1)) (cwV 0 hts gL_law__X9_thrown rfl rfl rfl (by decide +kernel) ⟨Nat.le_of_ble_eq_true rfl, Nat.le_of_ble_eq_true rfl⟩) (b_preV hVK hP hD [30] rfl rfl 30 rfl rfl) rfl rfl hl.1 rfl (lv_room (Nat.le_of_ble_eq_true rfl)) dL_law__207 ⟨by omega, by omega⟩) hP hD hS hA [30] rfl rfl (fun _ => rfl) (fun r207 uu H locs hq hP hD hS => ?_)
    subst hq
    have hP : va_P D vwCl (LB cY b rr a oo od n k n k fG fW fR fH fA fS fRs fOt fMi fEn fEb fPy fB fCc (nI 1) fto fpay fcol fnow fthn foth fmnr fwts fmap fnxt fO fE).flatten H := hP
    have hD : va_D A (LB cY b rr a oo od n k n k fG fW fR fH fA fS fRs fOt fMi fEn fEb fPy fB fCc (nI 1) fto fpay fcol fnow fthn foth fmnr fwts fmap fnxt fO fE).flatten := hD
    refine lv_iload hx hb dL_law__210 (lv_at hl 0 rfl) ?_
    refine n_icmp_eq (tgt := 217) hx hb dL_law__212 (by decide) (by omega) (by omega) (fun h212 => ?_) (fun h212 => ?_)
    · -- t
      refine lv_goto (tgt := 1823) hx hb dL_law__217 (by decide) ?_
      exact K n k g col fG fW fR fH fA fS fRs fOt fMi fEn fEb fPy fB fCc (nI 1) fto fpay fcol fnow fthn foth fmnr fwts fmap fnxt fO fE hI _ _ hP hD hS _ (lv_sub hl [1, 2, 3, 4, 5, 6] rfl)
    · -- f
      exact absurd rfl h212

set_option maxHeartbeats 8000000 in
set_option maxRecDepth 100000 in
theorem lc_lead {p : Program} {l : Launch} {e : Env} {s : State} {m : MethodId} {below : List Frame} {meth : Method} {c : Code} {H : Heap} {locs : List Loc} {cells slots : Nat} {Q : State → Prop} {D : va_G} {cY : Nat → ClassId} {A : Nat → Prop} {sc L : Nat} {xs : Nat → Int32} {b : Nat → Nat} {rr : Nat → Nat → Nat} {a : Nat → Nat} {oo od z0 : Nat} {ls : Array Slot} (E : LE p s m sc c D cY A L xs) (hlT : l.stackTraces = false) (hi4 : z0 + 4 ≤ L) (hL : L ≤ 2048) (hroom : cells + 1 ≤ room_1.cells ∧ slots + 6 ≤ room_1.slots) {n k : Nat} {g : Nat → Nat → Nat} {col : Nat → Nat} {fG fW : Nat → Nat → Int32} {fR fH fA fS : Nat → Nat → Int64} {fRs : Nat → Int64} {fOt : Nat → Int32} {fMi : Nat → Int64} {fEn fEb fPy : Nat → Int32} {fB : Nat → Nat → Int64} {fCc : Nat → Int32} {th : Int32} {fto fpay fcol : Nat → Int32} {fnow fthn foth fmnr fwts : Nat → Int64} {fmap fnxt : Nat → Int32} {fO : Nat → Int64} {fE : Nat → UInt64} (hI : LV n k g col fG fW fPy fCc fto fpay fcol) (hP : va_P D vwCl (LB cY b rr a oo od n k n k fG fW fR fH fA fS fRs fOt fMi fEn fEb fPy fB fCc th fto fpay fcol fnow fthn foth fmnr fwts fmap fnxt fO fE).flatten H) (hD : va_D A (LB cY b rr a oo od n k n k fG fW fR fH fA fS fRs fOt fMi fEn fEb fPy fB fCc th fto fpay fcol fnow fthn foth fmnr fwts fmap fnxt fO fE).flatten) (hS : va_S A s.heap H locs) (hl : lv_has ls 9 [(5, .int (nI z0)), (4, .ref od), (3, .ref oo), (2, .ref (a 0)), (1, .ref (b 0)), (0, .ref sc)]) (K : LK p l e s m below meth c sc D cY A b rr a oo od z0 cells slots Q) : W p l e room_1 s m #[Value.ref sc] below meth c H locs cells slots Q (F0 m 220 ls []) := by
  obtain ⟨hx, hb, hml, hts, hown, hK, hVK, hA, hX, hH, hsc, hscl, hscA⟩ := E
  obtain ⟨⟨hn1, hn6, hk1, hk12⟩, hG, hgn, hW, hT, hPy, hC6⟩ := id hI
  rcases Bool.eq_false_or_eq_true (inR (xs (z0 + 1)) (nI 0) (nI (n - 1)) && inR (xs (z0 + 3)) (nI 0) (nI (n - 1)) && inR (xs (z0 + 2)) (nI 0) (nI (k - 1))) with hc1 | hc1
  · -- holds
    obtain ⟨hca, hcb, hcc⟩ := three_ hc1
    obtain ⟨i, hi_, e1⟩ := inR_of (by omega) hca
    obtain ⟨j, hj_, e2⟩ := inR_of (by omega) hcc
    obtain ⟨w, hw_, e3⟩ := inR_of (by omega) hcb
    refine lv_aload_n hx hb dL_law__220 rfl (lv_at hl 4 rfl) ?_
    refine lv_aload_n hx hb dL_law__221 rfl (lv_at hl 5 rfl) ?_
    refine lv_iload hx hb dL_law__222 (lv_at hl 0 rfl) ?_
    refine lv_iconst (v := nI 1) hx hb dL_law__224 (by decide) ?_
    refine lv_iadd hx hb dL_law__225 ?_
    refine eqi (x' := nI (z0 + 1)) (nI_add _ _) ?_
    refine s_ld hx hb hsc hscl hscA hS (by omega) hL dL_law__226 ?_
    refine eqi (x' := nI i) e1 ?_
    refine lv_aload_n hx hb dL_law__227 rfl (lv_at hl 5 rfl) ?_
    refine lv_iload hx hb dL_law__228 (lv_at hl 0 rfl) ?_
    refine lv_iconst (v := nI 2) hx hb dL_law__230 (by decide) ?_
    refine lv_iadd hx hb dL_law__231 ?_
    refine eqi (x' := nI (z0 + 2)) (nI_add _ _) ?_
    refine s_ld hx hb hsc hscl hscA hS (by omega) hL dL_law__232 ?_
    refine eqi (x' := nI j) e2 ?_
    refine lv_aload_n hx hb dL_law__233 rfl (lv_at hl 5 rfl) ?_
    refine lv_iload hx hb dL_law__234 (lv_at hl 0 rfl) ?_
    refine lv_iconst (v := nI 3) hx hb dL_law__236 (by decide) ?_
    refine lv_iadd hx hb dL_law__237 ?_
    refine eqi (x' := nI (z0 + 3)) (nI_add _ _) ?_
    refine s_ld hx hb hsc hscl hscA hS (by omega) hL dL_law__238 ?_
    refine eqi (x' := nI w) e3 ?_
    refine lv_aload_n hx hb dL_law__239 rfl (lv_at hl 2 rfl) ?_
    refine hh_i (CL := [hO b, cO b (nI n) (nI k), oQ (cY 2) (b 2) (rr 0) 6, gI (cY 0) (rr 0) 12 fG 6, oQ (cY 2) (b 3) (rr 1) 6, gI (cY 0) (rr 1) 6 fW 6, [(oo, .inl (cY 1, 1, .inr (.inl fO)))]]) (vx_runSX (As := [.ref (b 0), .int (nI i), .int (nI j), .int (nI w), .ref oo]) (rest := []) ⟨hx, hb, hml, hown, hts⟩ (c_L_lead_ok l D cY H.size b rr n k fG fW g i j w oo fO (by omega) (by omega) (by omega) (by omega) hG hgn hW (by omega) (by omega) (by omega)) (vx_cwSW 5 hts gL_law__L_lead rfl rfl rfl (by decide +kernel) ⟨Nat.le_of_ble_eq_true rfl, Nat.le_of_ble_eq_true rfl⟩) (b_preHS hVK hP hD hS hA hX hH [0, 1, 2, 3, 4, 5, 41] rfl rfl) rfl rfl hl.1 rfl (lv_room (Nat.le_of_ble_eq_true rfl)) dL_law__240 ⟨by omega, by omega⟩) hP hD hS hA [0, 1, 2, 3, 4, 5, 41] rfl rfl (fun _ => rfl) (fun r240 uu H locs hq hP hD hS => ?_)
    subst hq
    have hP : va_P D vwCl (LB cY b rr a oo od n k n k (va_up fG i (upd (fG i) j (nI w))) (va_up (va_up fW i (upd (fW i) (g i j) (fW i (g i j) - nI 1))) i (upd ((va_up fW i (upd (fW i) (g i j) (fW i (g i j) - nI 1))) i) w (((va_up fW i (upd (fW i) (g i j) (fW i (g i j) - nI 1))) i w) + nI 1))) fR fH fA fS fRs fOt fMi fEn fEb fPy fB fCc th fto fpay fcol fnow fthn foth fmnr fwts fmap fnxt (vp_updL fO 0 ((nI (g i j)).toInt64)) fE).flatten H := hP
    have hD : va_D A (LB cY b rr a oo od n k n k (va_up fG i (upd (fG i) j (nI w))) (va_up (va_up fW i (upd (fW i) (g i j) (fW i (g i j) - nI 1))) i (upd ((va_up fW i (upd (fW i) (g i j) (fW i (g i j) - nI 1))) i) w (((va_up fW i (upd (fW i) (g i j) (fW i (g i j) - nI 1))) i w) + nI 1))) fR fH fA fS fRs fOt fMi fEn fEb fPy fB fCc th fto fpay fcol fnow fthn foth fmnr fwts fmap fnxt (vp_updL fO 0 ((nI (g i j)).toInt64)) fE).flatten := hD
    refine lv_istore (lv' := [(6, .int (nI 0)), (5, .int (nI z0)), (4, .ref od), (3, .ref oo), (2, .ref (a 0)), (1, .ref (b 0)), (0, .ref sc)]) hx hb dL_law__243 hl (by decide) rfl (fun ls hl => ?_)
    refine lv_aload_n hx hb dL_law__245 rfl (lv_at hl 4 rfl) ?_
    refine lv_aload_n hx hb dL_law__246 rfl (lv_at hl 6 rfl) ?_
    refine lv_iload hx hb dL_law__247 (lv_at hl 1 rfl) ?_
    refine lv_iconst (v := nI 1) hx hb dL_law__249 (by decide) ?_
    refine lv_iadd hx hb dL_law__250 ?_
    refine eqi (x' := nI (z0 + 1)) (nI_add _ _) ?_
    refine s_ld hx hb hsc hscl hscA hS (by omega) hL dL_law__251 ?_
    refine eqi (x' := nI i) e1 ?_
    refine lv_aload_n hx hb dL_law__252 rfl (lv_at hl 6 rfl) ?_
    refine lv_iload hx hb dL_law__253 (lv_at hl 1 rfl) ?_
    refine lv_iconst (v := nI 2) hx hb dL_law__255 (by decide) ?_
    refine lv_iadd hx hb dL_law__256 ?_
    refine eqi (x' := nI (z0 + 2)) (nI_add _ _) ?_
    refine s_ld hx hb hsc hscl hscA hS (by omega) hL dL_law__257 ?_
    refine eqi (x' := nI j) e2 ?_
    refine lv_aload_n hx hb dL_law__258 rfl (lv_at hl 6 rfl) ?_
    refine lv_iload hx hb dL_law__259 (lv_at hl 1 rfl) ?_
    refine lv_iconst (v := nI 3) hx hb dL_law__261 (by decide) ?_
    refine lv_iadd hx hb dL_law__262 ?_
    refine eqi (x' := nI (z0 + 3)) (nI_add _ _) ?_
    refine s_ld hx hb hsc hscl hscA hS (by omega) hL dL_law__263 ?_
    refine eqi (x' := nI w) e3 ?_
    refine ca_i (CL := [mO a (nI n) (nI k) th, [(a 1, .inl (cY 0, 72, .inl fto))]]) (va_runV (As := [.int (nI i), .int (nI j), .int (nI w)]) (rest := []) ⟨hx, hb, hml, hown, hts⟩ (c_X9_lead_ok l D cY H.size a n k th fto g i j w (by omega) (by omega) (by omega) (by omega) hT hgn (by omega) (by omega) (by omega)) (cwV 3 hts gL_law__X9_lead rfl rfl rfl (by decide +kernel) ⟨Nat.le_of_ble_eq_true rfl, Nat.le_of_ble_eq_true rfl⟩) (b_preV hVK hP hD [30, 31] rfl rfl 30 rfl rfl) rfl rfl hl.1 rfl (lv_room (Nat.le_of_ble_eq_true rfl)) dL_law__264 ⟨by omega, by omega⟩) hP hD hS hA [30, 31] rfl rfl (fun _ => rfl) (fun r264 uu H locs hq hP hD hS => ?_)
    subst hq
    have hP : va_P D vwCl (LB cY b rr a oo od n k n k (va_up fG i (upd (fG i) j (nI w))) (va_up (va_up fW i (upd (fW i) (g i j) (fW i (g i j) - nI 1))) i (upd ((va_up fW i (upd (fW i) (g i j) (fW i (g i j) - nI 1))) i) w (((va_up fW i (upd (fW i) (g i j) (fW i (g i j) - nI 1))) i w) + nI 1))) fR fH fA fS fRs fOt fMi fEn fEb fPy fB fCc (nI 0) (upd fto (12 * i + j) (nI w)) fpay fcol fnow fthn foth fmnr fwts fmap fnxt (vp_updL fO 0 ((nI (g i j)).toInt64)) fE).flatten H := hP
    have hD : va_D A (LB cY b rr a oo od n k n k (va_up fG i (upd (fG i) j (nI w))) (va_up (va_up fW i (upd (fW i) (g i j) (fW i (g i j) - nI 1))) i (upd ((va_up fW i (upd (fW i) (g i j) (fW i (g i j) - nI 1))) i) w (((va_up fW i (upd (fW i) (g i j) (fW i (g i j) - nI 1))) i w) + nI 1))) fR fH fA fS fRs fOt fMi fEn fEb fPy fB fCc (nI 0) (upd fto (12 * i + j) (nI w)) fpay fcol fnow fthn foth fmnr fwts fmap fnxt (vp_updL fO 0 ((nI (g i j)).toInt64)) fE).flatten := hD
    refine lv_istore (lv' := [(7, .int (nI (g i j))), (6, .int (nI 0)), (5, .int (nI z0)), (4, .ref od), (3, .ref oo), (2, .ref (a 0)), (1, .ref (b 0)), (0, .ref sc)]) hx hb dL_law__267 hl (by decide) rfl (fun ls hl => ?_)
    refine lv_aload_n hx hb dL_law__269 rfl (lv_at hl 5 rfl) ?_
    refine ca_i (CL := [mO a (nI n) (nI k) (nI 0)]) (va_runV (As := []) (rest := []) ⟨hx, hb, hml, hown, hts⟩ (c_X9_thrown l D cY H.size a n k (nI 0)) (cwV 0 hts gL_law__X9_thrown rfl rfl rfl (by decide +kernel) ⟨Nat.le_of_ble_eq_true rfl, Nat.le_of_ble_eq_true rfl⟩) (b_preV hVK hP hD [30] rfl rfl 30 rfl rfl) rfl rfl hl.1 rfl (lv_room (Nat.le_of_ble_eq_true rfl)) dL_law__270 ⟨by omega, by omega⟩) hP hD hS hA [30] rfl rfl (fun _ => rfl) (fun r270 uu H locs hq hP hD hS => ?_)
    subst hq
    have hP : va_P D vwCl (LB cY b rr a oo od n k n k (va_up fG i (upd (fG i) j (nI w))) (va_up (va_up fW i (upd (fW i) (g i j) (fW i (g i j) - nI 1))) i (upd ((va_up fW i (upd (fW i) (g i j) (fW i (g i j) - nI 1))) i) w (((va_up fW i (upd (fW i) (g i j) (fW i (g i j) - nI 1))) i w) + nI 1))) fR fH fA fS fRs fOt fMi fEn fEb fPy fB fCc (nI 0) (upd fto (12 * i + j) (nI w)) fpay fcol fnow fthn foth fmnr fwts fmap fnxt (vp_updL fO 0 ((nI (g i j)).toInt64)) fE).flatten H := hP
    have hD : va_D A (LB cY b rr a oo od n k n k (va_up fG i (upd (fG i) j (nI w))) (va_up (va_up fW i (upd (fW i) (g i j) (fW i (g i j) - nI 1))) i (upd ((va_up fW i (upd (fW i) (g i j) (fW i (g i j) - nI 1))) i) w (((va_up fW i (upd (fW i) (g i j) (fW i (g i j) - nI 1))) i w) + nI 1))) fR fH fA fS fRs fOt fMi fEn fEb fPy fB fCc (nI 0) (upd fto (12 * i + j) (nI w)) fpay fcol fnow fthn foth fmnr fwts fmap fnxt (vp_updL fO 0 ((nI (g i j)).toInt64)) fE).flatten := hD
    refine lv_iload hx hb dL_law__273 (lv_at hl 1 rfl) ?_
    refine n_icmp_eq (tgt := 280) hx hb dL_law__275 (by decide) (by omega) (by omega) (fun h275 => ?_) (fun h275 => ?_)
    · -- t
      refine lv_iload hx hb dL_law__280 (lv_at hl 1 rfl) ?_
      refine n_if_ne (tgt := 297) hx hb dL_law__282 (by decide) (by omega) (fun h282 => ?_) (fun h282 => ?_)
      · -- t
        exact absurd rfl h282
      · -- f
        refine lv_aload_n hx hb dL_law__285 rfl (lv_at hl 4 rfl) ?_
        refine lv_iconst (v := nI 0) hx hb dL_law__286 (by decide) ?_
        refine b_lald hx hb hK hP 41 1 rfl rfl (by omega) (by omega) dL_law__287 ?_
        refine eql (x' := (nI (g i j)).toInt64) pk_uLs ?_
        refine lv_iload hx hb dL_law__288 (lv_at hl 0 rfl) ?_
        refine lv_i2l (v := (nI (g i j)).toInt64) hx hb dL_law__290 rfl ?_
        refine W.lcmp hx hb dL_law__291 ?_
        refine l_if_eq (tgt := 297) hx hb dL_law__292 (by decide) (fun h292 => ?_) (fun h292 => ?_)
        · -- t
          refine lv_goto (tgt := 1823) hx hb dL_law__297 (by decide) ?_
          refine W.widen (Nat.le_add_right cells 1) (Nat.le_add_right slots 6) ?_
          exact K n k (g2 g i j w) col (va_up fG i (upd (fG i) j (nI w))) (va_up (va_up fW i (upd (fW i) (g i j) (fW i (g i j) - nI 1))) i (upd ((va_up fW i (upd (fW i) (g i j) (fW i (g i j) - nI 1))) i) w (((va_up fW i (upd (fW i) (g i j) (fW i (g i j) - nI 1))) i w) + nI 1))) fR fH fA fS fRs fOt fMi fEn fEb fPy fB fCc (nI 0) (upd fto (12 * i + j) (nI w)) fpay fcol fnow fthn foth fmnr fwts fmap fnxt (vp_updL fO 0 ((nI (g i j)).toInt64)) fE (LV_lead hI (by omega) (by omega) (by omega)) _ _ hP hD hS _ (lv_sub hl [2, 3, 4, 5, 6, 7] rfl)
        · -- f
          exact absurd (rfl) h292
    · -- f
      exact absurd rfl h275
  · -- not
    refine lv_aload_n hx hb dL_law__220 rfl (lv_at hl 4 rfl) ?_
    refine lv_aload_n hx hb dL_law__221 rfl (lv_at hl 5 rfl) ?_
    refine lv_iload hx hb dL_law__222 (lv_at hl 0 rfl) ?_
    refine lv_iconst (v := nI 1) hx hb dL_law__224 (by decide) ?_
    refine lv_iadd hx hb dL_law__225 ?_
    refine eqi (x' := nI (z0 + 1)) (nI_add _ _) ?_
    refine s_ld hx hb hsc hscl hscA hS (by omega) hL dL_law__226 ?_
    refine lv_aload_n hx hb dL_law__227 rfl (lv_at hl 5 rfl) ?_
    refine lv_iload hx hb dL_law__228 (lv_at hl 0 rfl) ?_
    refine lv_iconst (v := nI 2) hx hb dL_law__230 (by decide) ?_
    refine lv_iadd hx hb dL_law__231 ?_
    refine eqi (x' := nI (z0 + 2)) (nI_add _ _) ?_
    refine s_ld hx hb hsc hscl hscA hS (by omega) hL dL_law__232 ?_
    refine lv_aload_n hx hb dL_law__233 rfl (lv_at hl 5 rfl) ?_
    refine lv_iload hx hb dL_law__234 (lv_at hl 0 rfl) ?_
    refine lv_iconst (v := nI 3) hx hb dL_law__236 (by decide) ?_
    refine lv_iadd hx hb dL_law__237 ?_
    refine eqi (x' := nI (z0 + 3)) (nI_add _ _) ?_
    refine s_ld hx hb hsc hscl hscA hS (by omega) hL dL_law__238 ?_
    refine lv_aload_n hx hb dL_law__239 rfl (lv_at hl 2 rfl) ?_
    refine hh_i (CL := [hO b, cO b (nI n) (nI k), [(oo, .inl (cY 1, 1, .inr (.inl fO)))]]) (vx_runSX (As := [.ref (b 0), .int (xs (z0 + 1)), .int (xs (z0 + 2)), .int (xs (z0 + 3)), .ref oo]) (rest := []) ⟨hx, hb, hml, hown, hts⟩ (c_L_lead_bad l D cY H.size b n k (xs (z0 + 1)) (xs (z0 + 2)) (xs (z0 + 3)) oo fO hlT (by omega) (by omega) (by omega) (by omega) hc1) (vx_cwSW 5 hts gL_law__L_lead rfl rfl rfl (by decide +kernel) ⟨Nat.le_of_ble_eq_true rfl, Nat.le_of_ble_eq_true rfl⟩) (b_preHS hVK hP hD hS hA hX hH [0, 1, 41] rfl rfl) rfl rfl hl.1 rfl (lv_room (Nat.le_of_ble_eq_true rfl)) dL_law__240 ⟨by omega, by omega⟩) hP hD hS hA [0, 1, 41] rfl rfl (fun _ => rfl) (fun r240 uu H locs hq hP hD hS => ?_)
    subst hq
    have hP : va_P D vwCl (LB cY b rr a oo od n k n k fG fW fR fH fA fS fRs fOt fMi fEn fEb fPy fB fCc th fto fpay fcol fnow fthn foth fmnr fwts fmap fnxt fO fE).flatten H := hP
    have hD : va_D A (LB cY b rr a oo od n k n k fG fW fR fH fA fS fRs fOt fMi fEn fEb fPy fB fCc th fto fpay fcol fnow fthn foth fmnr fwts fmap fnxt fO fE).flatten := hD
    refine lv_istore (lv' := [(6, .int (nI 1)), (5, .int (nI z0)), (4, .ref od), (3, .ref oo), (2, .ref (a 0)), (1, .ref (b 0)), (0, .ref sc)]) hx hb dL_law__243 hl (by decide) rfl (fun ls hl => ?_)
    refine lv_aload_n hx hb dL_law__245 rfl (lv_at hl 4 rfl) ?_
    refine lv_aload_n hx hb dL_law__246 rfl (lv_at hl 6 rfl) ?_
    refine lv_iload hx hb dL_law__247 (lv_at hl 1 rfl) ?_
    refine lv_iconst (v := nI 1) hx hb dL_law__249 (by decide) ?_
    refine lv_iadd hx hb dL_law__250 ?_
    refine eqi (x' := nI (z0 + 1)) (nI_add _ _) ?_
    refine s_ld hx hb hsc hscl hscA hS (by omega) hL dL_law__251 ?_
    refine lv_aload_n hx hb dL_law__252 rfl (lv_at hl 6 rfl) ?_
    refine lv_iload hx hb dL_law__253 (lv_at hl 1 rfl) ?_
    refine lv_iconst (v := nI 2) hx hb dL_law__255 (by decide) ?_
    refine lv_iadd hx hb dL_law__256 ?_
    refine eqi (x' := nI (z0 + 2)) (nI_add _ _) ?_
    refine s_ld hx hb hsc hscl hscA hS (by omega) hL dL_law__257 ?_
    refine lv_aload_n hx hb dL_law__258 rfl (lv_at hl 6 rfl) ?_
    refine lv_iload hx hb dL_law__259 (lv_at hl 1 rfl) ?_
    refine lv_iconst (v := nI 3) hx hb dL_law__261 (by decide) ?_
    refine lv_iadd hx hb dL_law__262 ?_
    refine eqi (x' := nI (z0 + 3)) (nI_add _ _) ?_
    refine s_ld hx hb hsc hscl hscA hS (by omega) hL dL_law__263 ?_
    refine ca_i (CL := [mO a (nI n) (nI k) th]) (va_runV (As := [.int (xs (z0 + 1)), .int (xs (z0 + 2)), .int (xs (z0 + 3))]) (rest := []) ⟨hx, hb, hml, hown, hts⟩ (c_X9_lead_bad l D cY H.size a n k th (xs (z0 + 1)) (xs (z0 + 2)) (xs (z0 + 3)) (by omega) (by omega) (by omega) (by omega) hc1) (cwV 3 hts gL_law__X9_lead rfl rfl rfl (by decide +kernel) ⟨Nat.le_of_ble_eq_true rfl, Nat.le_of_ble_eq_true rfl⟩) (b_preV hVK hP hD [30] rfl rfl 30 rfl rfl) rfl rfl hl.1 rfl (lv_room (Nat.le_of_ble_eq_true rfl)) dL_law__264 ⟨by omega, by omega⟩) hP hD hS hA [30] rfl rfl (fun _ => rfl) (fun r264 uu H locs hq hP hD hS => ?_)
    subst hq
    have hP : va_P D vwCl (LB cY b rr a oo od n k n k fG fW fR fH fA fS fRs fOt fMi fEn fEb fPy fB fCc (nI 1) fto fpay fcol fnow fthn foth fmnr fwts fmap fnxt fO fE).flatten H := hP
    have hD : va_D A (LB cY b rr a oo od n k n k fG fW fR fH fA fS fRs fOt fMi fEn fEb fPy fB fCc (nI 1) fto fpay fcol fnow fthn foth fmnr fwts fmap fnxt fO fE).flatten := hD
    refine lv_istore (lv' := [(7, .int (nI 0)), (6, .int (nI 1)), (5, .int (nI z0)), (4, .ref od), (3, .ref oo), (2, .ref (a 0)), (1, .ref (b 0)), (0, .ref sc)]) hx hb dL_law__267 hl (by decide) rfl (fun ls hl => ?_)
    refine lv_aload_n hx hb dL_law__269 rfl (lv_at hl 5 rfl) ?_
    refine ca_i (CL := [mO a (nI n) (nI k) (nI 1)]) (va_runV (As := []) (rest := []) ⟨hx, hb, hml, hown, hts⟩ (c_X9_thrown l D cY H.size a n k (nI 1)) (cwV 0 hts gL_law__X9_thrown rfl rfl rfl (by decide +kernel) ⟨Nat.le_of_ble_eq_true rfl, Nat.le_of_ble_eq_true rfl⟩) (b_preV hVK hP hD [30] rfl rfl 30 rfl rfl) rfl rfl hl.1 rfl (lv_room (Nat.le_of_ble_eq_true rfl)) dL_law__270 ⟨by omega, by omega⟩) hP hD hS hA [30] rfl rfl (fun _ => rfl) (fun r270 uu H locs hq hP hD hS => ?_)
    subst hq
    have hP : va_P D vwCl (LB cY b rr a oo od n k n k fG fW fR fH fA fS fRs fOt fMi fEn fEb fPy fB fCc (nI 1) fto fpay fcol fnow fthn foth fmnr fwts fmap fnxt fO fE).flatten H := hP
    have hD : va_D A (LB cY b rr a oo od n k n k fG fW fR fH fA fS fRs fOt fMi fEn fEb fPy fB fCc (nI 1) fto fpay fcol fnow fthn foth fmnr fwts fmap fnxt fO fE).flatten := hD
    refine lv_iload hx hb dL_law__273 (lv_at hl 1 rfl) ?_
    refine n_icmp_eq (tgt := 280) hx hb dL_law__275 (by decide) (by omega) (by omega) (fun h275 => ?_) (fun h275 => ?_)
    · -- t
      refine lv_iload hx hb dL_law__280 (lv_at hl 1 rfl) ?_
      refine n_if_ne (tgt := 297) hx hb dL_law__282 (by decide) (by omega) (fun h282 => ?_) (fun h282 => ?_)
      · -- t
        refine lv_goto (tgt := 1823) hx hb dL_law__297 (by decide) ?_
        exact K n k g col fG fW fR fH fA fS fRs fOt fMi fEn fEb fPy fB fCc (nI 1) fto fpay fcol fnow fthn foth fmnr fwts fmap fnxt fO fE hI _ _ hP hD hS _ (lv_sub hl [2, 3, 4, 5, 6, 7] rfl)
      · -- f
        exact absurd h282 (by decide)
    · -- f
      exact absurd rfl h275

set_option maxHeartbeats 8000000 in
set_option maxRecDepth 100000 in
theorem lc_swap {p : Program} {l : Launch} {e : Env} {s : State} {m : MethodId} {below : List Frame} {meth : Method} {c : Code} {H : Heap} {locs : List Loc} {cells slots : Nat} {Q : State → Prop} {D : va_G} {cY : Nat → ClassId} {A : Nat → Prop} {sc L : Nat} {xs : Nat → Int32} {b : Nat → Nat} {rr : Nat → Nat → Nat} {a : Nat → Nat} {oo od z0 : Nat} {ls : Array Slot} (E : LE p s m sc c D cY A L xs) (hlT : l.stackTraces = false) (hi4 : z0 + 4 ≤ L) (hL : L ≤ 2048) (hroom : cells + 1 ≤ room_1.cells ∧ slots + 6 ≤ room_1.slots) {n k : Nat} {g : Nat → Nat → Nat} {col : Nat → Nat} {fG fW : Nat → Nat → Int32} {fR fH fA fS : Nat → Nat → Int64} {fRs : Nat → Int64} {fOt : Nat → Int32} {fMi : Nat → Int64} {fEn fEb fPy : Nat → Int32} {fB : Nat → Nat → Int64} {fCc : Nat → Int32} {th : Int32} {fto fpay fcol : Nat → Int32} {fnow fthn foth fmnr fwts : Nat → Int64} {fmap fnxt : Nat → Int32} {fO : Nat → Int64} {fE : Nat → UInt64} (hI : LV n k g col fG fW fPy fCc fto fpay fcol) (hP : va_P D vwCl (LB cY b rr a oo od n k n k fG fW fR fH fA fS fRs fOt fMi fEn fEb fPy fB fCc th fto fpay fcol fnow fthn foth fmnr fwts fmap fnxt fO fE).flatten H) (hD : va_D A (LB cY b rr a oo od n k n k fG fW fR fH fA fS fRs fOt fMi fEn fEb fPy fB fCc th fto fpay fcol fnow fthn foth fmnr fwts fmap fnxt fO fE).flatten) (hS : va_S A s.heap H locs) (hl : lv_has ls 9 [(5, .int (nI z0)), (4, .ref od), (3, .ref oo), (2, .ref (a 0)), (1, .ref (b 0)), (0, .ref sc)]) (K : LK p l e s m below meth c sc D cY A b rr a oo od z0 cells slots Q) : W p l e room_1 s m #[Value.ref sc] below meth c H locs cells slots Q (F0 m 300 ls []) := by
  obtain ⟨hx, hb, hml, hts, hown, hK, hVK, hA, hX, hH, hsc, hscl, hscA⟩ := E
  obtain ⟨⟨hn1, hn6, hk1, hk12⟩, hG, hgn, hW, hT, hPy, hC6⟩ := id hI
  rcases Bool.eq_false_or_eq_true (inR (xs (z0 + 1)) (nI 0) (nI (n - 1)) && inR (xs (z0 + 2)) (nI 0) (nI (k - 1)) && inR (xs (z0 + 3)) (nI 0) (nI (k - 1))) with hc1 | hc1
  · -- holds
    obtain ⟨hca, hcb, hcc⟩ := three_ hc1
    obtain ⟨i, hi_, e1⟩ := inR_of (by omega) hca
    obtain ⟨j, hj_, e2⟩ := inR_of (by omega) hcb
    obtain ⟨w, hw_, e3⟩ := inR_of (by omega) hcc
    refine lv_aload_n hx hb dL_law__300 rfl (lv_at hl 4 rfl) ?_
    refine lv_aload_n hx hb dL_law__301 rfl (lv_at hl 5 rfl) ?_
    refine lv_iload hx hb dL_law__302 (lv_at hl 0 rfl) ?_
    refine lv_iconst (v := nI 1) hx hb dL_law__304 (by decide) ?_
    refine lv_iadd hx hb dL_law__305 ?_
    refine eqi (x' := nI (z0 + 1)) (nI_add _ _) ?_
    refine s_ld hx hb hsc hscl hscA hS (by omega) hL dL_law__306 ?_
    refine eqi (x' := nI i) e1 ?_
    refine lv_aload_n hx hb dL_law__307 rfl (lv_at hl 5 rfl) ?_
    refine lv_iload hx hb dL_law__308 (lv_at hl 0 rfl) ?_
    refine lv_iconst (v := nI 2) hx hb dL_law__310 (by decide) ?_
    refine lv_iadd hx hb dL_law__311 ?_
    refine eqi (x' := nI (z0 + 2)) (nI_add _ _) ?_
    refine s_ld hx hb hsc hscl hscA hS (by omega) hL dL_law__312 ?_
    refine eqi (x' := nI j) e2 ?_
    refine lv_aload_n hx hb dL_law__313 rfl (lv_at hl 5 rfl) ?_
    refine lv_iload hx hb dL_law__314 (lv_at hl 0 rfl) ?_
    refine lv_iconst (v := nI 3) hx hb dL_law__316 (by decide) ?_
    refine lv_iadd hx hb dL_law__317 ?_
    refine eqi (x' := nI (z0 + 3)) (nI_add _ _) ?_
    refine s_ld hx hb hsc hscl hscA hS (by omega) hL dL_law__318 ?_
    refine eqi (x' := nI w) e3 ?_
    refine hh_i (CL := [hO b, cO b (nI n) (nI k), oQ (cY 2) (b 2) (rr 0) 6, gI (cY 0) (rr 0) 12 fG 6]) (vx_runSX (As := [.ref (b 0), .int (nI i), .int (nI j), .int (nI w)]) (rest := []) ⟨hx, hb, hml, hown, hts⟩ (c_L_swap_ok l D cY H.size b rr n k fG g i j w (by omega) (by omega) (by omega) (by omega) hG hgn (by omega) (by omega) (by omega)) (vx_cwSW 4 hts gL_law__L_swap rfl rfl rfl (by decide +kernel) ⟨Nat.le_of_ble_eq_true rfl, Nat.le_of_ble_eq_true rfl⟩) (b_preHS hVK hP hD hS hA hX hH [0, 1, 2, 3] rfl rfl) rfl rfl hl.1 rfl (lv_room (Nat.le_of_ble_eq_true rfl)) dL_law__319 ⟨by omega, by omega⟩) hP hD hS hA [0, 1, 2, 3] rfl rfl (fun _ => rfl) (fun r319 uu H locs hq hP hD hS => ?_)
    subst hq
    have hP : va_P D vwCl (LB cY b rr a oo od n k n k (va_up (va_up fG i (upd (fG i) j (nI (g i w)))) i (upd ((va_up fG i (upd (fG i) j (nI (g i w)))) i) w (nI (g i j)))) fW fR fH fA fS fRs fOt fMi fEn fEb fPy fB fCc th fto fpay fcol fnow fthn foth fmnr fwts fmap fnxt fO fE).flatten H := hP
    have hD : va_D A (LB cY b rr a oo od n k n k (va_up (va_up fG i (upd (fG i) j (nI (g i w)))) i (upd ((va_up fG i (upd (fG i) j (nI (g i w)))) i) w (nI (g i j)))) fW fR fH fA fS fRs fOt fMi fEn fEb fPy fB fCc th fto fpay fcol fnow fthn foth fmnr fwts fmap fnxt fO fE).flatten := hD
    refine lv_istore (lv' := [(6, .int (nI 0)), (5, .int (nI z0)), (4, .ref od), (3, .ref oo), (2, .ref (a 0)), (1, .ref (b 0)), (0, .ref sc)]) hx hb dL_law__322 hl (by decide) rfl (fun ls hl => ?_)
    refine lv_aload_n hx hb dL_law__324 rfl (lv_at hl 4 rfl) ?_
    refine lv_aload_n hx hb dL_law__325 rfl (lv_at hl 6 rfl) ?_
    refine lv_iload hx hb dL_law__326 (lv_at hl 1 rfl) ?_
    refine lv_iconst (v := nI 1) hx hb dL_law__328 (by decide) ?_
    refine lv_iadd hx hb dL_law__329 ?_
    refine eqi (x' := nI (z0 + 1)) (nI_add _ _) ?_
    refine s_ld hx hb hsc hscl hscA hS (by omega) hL dL_law__330 ?_
    refine eqi (x' := nI i) e1 ?_
    refine lv_aload_n hx hb dL_law__331 rfl (lv_at hl 6 rfl) ?_
    refine lv_iload hx hb dL_law__332 (lv_at hl 1 rfl) ?_
    refine lv_iconst (v := nI 2) hx hb dL_law__334 (by decide) ?_
    refine lv_iadd hx hb dL_law__335 ?_
    refine eqi (x' := nI (z0 + 2)) (nI_add _ _) ?_
    refine s_ld hx hb hsc hscl hscA hS (by omega) hL dL_law__336 ?_
    refine eqi (x' := nI j) e2 ?_
    refine lv_aload_n hx hb dL_law__337 rfl (lv_at hl 6 rfl) ?_
    refine lv_iload hx hb dL_law__338 (lv_at hl 1 rfl) ?_
    refine lv_iconst (v := nI 3) hx hb dL_law__340 (by decide) ?_
    refine lv_iadd hx hb dL_law__341 ?_
    refine eqi (x' := nI (z0 + 3)) (nI_add _ _) ?_
    refine s_ld hx hb hsc hscl hscA hS (by omega) hL dL_law__342 ?_
    refine eqi (x' := nI w) e3 ?_
    refine ca_v (CL := [mO a (nI n) (nI k) th, [(a 1, .inl (cY 0, 72, .inl fto))]]) (va_runV (As := [.int (nI i), .int (nI j), .int (nI w)]) (rest := []) ⟨hx, hb, hml, hown, hts⟩ (c_X9_swap_ok l D cY H.size a n k th fto g i j w (by omega) (by omega) (by omega) (by omega) hT hgn (by omega) (by omega) (by omega)) (cwV 3 hts gL_law__X9_swap rfl rfl rfl (by decide +kernel) ⟨Nat.le_of_ble_eq_true rfl, Nat.le_of_ble_eq_true rfl⟩) (b_preV hVK hP hD [30, 31] rfl rfl 30 rfl rfl) rfl rfl hl.1 rfl (lv_room (Nat.le_of_ble_eq_true rfl)) dL_law__343 ⟨by omega, by omega⟩) hP hD hS hA [30, 31] rfl rfl (fun _ => rfl) (fun uu H locs hq hP hD hS => ?_)
    have hP : va_P D vwCl (LB cY b rr a oo od n k n k (va_up (va_up fG i (upd (fG i) j (nI (g i w)))) i (upd ((va_up fG i (upd (fG i) j (nI (g i w)))) i) w (nI (g i j)))) fW fR fH fA fS fRs fOt fMi fEn fEb fPy fB fCc (nI 0) (upd (upd fto (12 * i + j) (nI (g i w))) (12 * i + w) (nI (g i j))) fpay fcol fnow fthn foth fmnr fwts fmap fnxt fO fE).flatten H := hP
    have hD : va_D A (LB cY b rr a oo od n k n k (va_up (va_up fG i (upd (fG i) j (nI (g i w)))) i (upd ((va_up fG i (upd (fG i) j (nI (g i w)))) i) w (nI (g i j)))) fW fR fH fA fS fRs fOt fMi fEn fEb fPy fB fCc (nI 0) (upd (upd fto (12 * i + j) (nI (g i w))) (12 * i + w) (nI (g i j))) fpay fcol fnow fthn foth fmnr fwts fmap fnxt fO fE).flatten := hD
    refine lv_aload_n hx hb dL_law__346 rfl (lv_at hl 4 rfl) ?_
    refine ca_i (CL := [mO a (nI n) (nI k) (nI 0)]) (va_runV (As := []) (rest := []) ⟨hx, hb, hml, hown, hts⟩ (c_X9_thrown l D cY H.size a n k (nI 0)) (cwV 0 hts gL_law__X9_thrown rfl rfl rfl (by decide +kernel) ⟨Nat.le_of_ble_eq_true rfl, Nat.le_of_ble_eq_true rfl⟩) (b_preV hVK hP hD [30] rfl rfl 30 rfl rfl) rfl rfl hl.1 rfl (lv_room (Nat.le_of_ble_eq_true rfl)) dL_law__347 ⟨by omega, by omega⟩) hP hD hS hA [30] rfl rfl (fun _ => rfl) (fun r347 uu H locs hq hP hD hS => ?_)
    subst hq
    have hP : va_P D vwCl (LB cY b rr a oo od n k n k (va_up (va_up fG i (upd (fG i) j (nI (g i w)))) i (upd ((va_up fG i (upd (fG i) j (nI (g i w)))) i) w (nI (g i j)))) fW fR fH fA fS fRs fOt fMi fEn fEb fPy fB fCc (nI 0) (upd (upd fto (12 * i + j) (nI (g i w))) (12 * i + w) (nI (g i j))) fpay fcol fnow fthn foth fmnr fwts fmap fnxt fO fE).flatten H := hP
    have hD : va_D A (LB cY b rr a oo od n k n k (va_up (va_up fG i (upd (fG i) j (nI (g i w)))) i (upd ((va_up fG i (upd (fG i) j (nI (g i w)))) i) w (nI (g i j)))) fW fR fH fA fS fRs fOt fMi fEn fEb fPy fB fCc (nI 0) (upd (upd fto (12 * i + j) (nI (g i w))) (12 * i + w) (nI (g i j))) fpay fcol fnow fthn foth fmnr fwts fmap fnxt fO fE).flatten := hD
    refine lv_iload hx hb dL_law__350 (lv_at hl 0 rfl) ?_
    refine n_icmp_eq (tgt := 357) hx hb dL_law__352 (by decide) (by omega) (by omega) (fun h352 => ?_) (fun h352 => ?_)
    · -- t
      refine lv_goto (tgt := 1823) hx hb dL_law__357 (by decide) ?_
      refine W.widen (Nat.le_add_right cells 1) (Nat.le_add_right slots 6) ?_
      exact K n k (g2 (g2 g i j (g i w)) i w (g i j)) col (va_up (va_up fG i (upd (fG i) j (nI (g i w)))) i (upd ((va_up fG i (upd (fG i) j (nI (g i w)))) i) w (nI (g i j)))) fW fR fH fA fS fRs fOt fMi fEn fEb fPy fB fCc (nI 0) (upd (upd fto (12 * i + j) (nI (g i w))) (12 * i + w) (nI (g i j))) fpay fcol fnow fthn foth fmnr fwts fmap fnxt fO fE (LV_swap hI (by omega) (by omega) (by omega)) _ _ hP hD hS _ (lv_sub hl [1, 2, 3, 4, 5, 6] rfl)
    · -- f
      exact absurd rfl h352
  · -- not
    refine lv_aload_n hx hb dL_law__300 rfl (lv_at hl 4 rfl) ?_
    refine lv_aload_n hx hb dL_law__301 rfl (lv_at hl 5 rfl) ?_
    refine lv_iload hx hb dL_law__302 (lv_at hl 0 rfl) ?_
    refine lv_iconst (v := nI 1) hx hb dL_law__304 (by decide) ?_
    refine lv_iadd hx hb dL_law__305 ?_
    refine eqi (x' := nI (z0 + 1)) (nI_add _ _) ?_
    refine s_ld hx hb hsc hscl hscA hS (by omega) hL dL_law__306 ?_
    refine lv_aload_n hx hb dL_law__307 rfl (lv_at hl 5 rfl) ?_
    refine lv_iload hx hb dL_law__308 (lv_at hl 0 rfl) ?_
    refine lv_iconst (v := nI 2) hx hb dL_law__310 (by decide) ?_
    refine lv_iadd hx hb dL_law__311 ?_
    refine eqi (x' := nI (z0 + 2)) (nI_add _ _) ?_
    refine s_ld hx hb hsc hscl hscA hS (by omega) hL dL_law__312 ?_
    refine lv_aload_n hx hb dL_law__313 rfl (lv_at hl 5 rfl) ?_
    refine lv_iload hx hb dL_law__314 (lv_at hl 0 rfl) ?_
    refine lv_iconst (v := nI 3) hx hb dL_law__316 (by decide) ?_
    refine lv_iadd hx hb dL_law__317 ?_
    refine eqi (x' := nI (z0 + 3)) (nI_add _ _) ?_
    refine s_ld hx hb hsc hscl hscA hS (by omega) hL dL_law__318 ?_
    refine hh_i (CL := [hO b, cO b (nI n) (nI k)]) (vx_runSX (As := [.ref (b 0), .int (xs (z0 + 1)), .int (xs (z0 + 2)), .int (xs (z0 + 3))]) (rest := []) ⟨hx, hb, hml, hown, hts⟩ (c_L_swap_bad l D cY H.size b n k (xs (z0 + 1)) (xs (z0 + 2)) (xs (z0 + 3)) hlT (by omega) (by omega) (by omega) (by omega) hc1) (vx_cwSW 4 hts gL_law__L_swap rfl rfl rfl (by decide +kernel) ⟨Nat.le_of_ble_eq_true rfl, Nat.le_of_ble_eq_true rfl⟩) (b_preHS hVK hP hD hS hA hX hH [0, 1] rfl rfl) rfl rfl hl.1 rfl (lv_room (Nat.le_of_ble_eq_true rfl)) dL_law__319 ⟨by omega, by omega⟩) hP hD hS hA [0, 1] rfl rfl (fun _ => rfl) (fun r319 uu H locs hq hP hD hS => ?_)
    subst hq
    have hP : va_P D vwCl (LB cY b rr a oo od n k n k fG fW fR fH fA fS fRs fOt fMi fEn fEb fPy fB fCc th fto fpay fcol fnow fthn foth fmnr fwts fmap fnxt fO fE).flatten H := hP
    have hD : va_D A (LB cY b rr a oo od n k n k fG fW fR fH fA fS fRs fOt fMi fEn fEb fPy fB fCc th fto fpay fcol fnow fthn foth fmnr fwts fmap fnxt fO fE).flatten := hD
    refine lv_istore (lv' := [(6, .int (nI 1)), (5, .int (nI z0)), (4, .ref od), (3, .ref oo), (2, .ref (a 0)), (1, .ref (b 0)), (0, .ref sc)]) hx hb dL_law__322 hl (by decide) rfl (fun ls hl => ?_)
    refine lv_aload_n hx hb dL_law__324 rfl (lv_at hl 4 rfl) ?_
    refine lv_aload_n hx hb dL_law__325 rfl (lv_at hl 6 rfl) ?_
    refine lv_iload hx hb dL_law__326 (lv_at hl 1 rfl) ?_
    refine lv_iconst (v := nI 1) hx hb dL_law__328 (by decide) ?_
    refine lv_iadd hx hb dL_law__329 ?_
    refine eqi (x' := nI (z0 + 1)) (nI_add _ _) ?_
    refine s_ld hx hb hsc hscl hscA hS (by omega) hL dL_law__330 ?_
    refine lv_aload_n hx hb dL_law__331 rfl (lv_at hl 6 rfl) ?_
    refine lv_iload hx hb dL_law__332 (lv_at hl 1 rfl) ?_
    refine lv_iconst (v := nI 2) hx hb dL_law__334 (by decide) ?_
    refine lv_iadd hx hb dL_law__335 ?_
    refine eqi (x' := nI (z0 + 2)) (nI_add _ _) ?_
    refine s_ld hx hb hsc hscl hscA hS (by omega) hL dL_law__336 ?_
    refine lv_aload_n hx hb dL_law__337 rfl (lv_at hl 6 rfl) ?_
    refine lv_iload hx hb dL_law__338 (lv_at hl 1 rfl) ?_
    refine lv_iconst (v := nI 3) hx hb dL_law__340 (by decide) ?_
    refine lv_iadd hx hb dL_law__341 ?_
    refine eqi (x' := nI (z0 + 3)) (nI_add _ _) ?_
    refine s_ld hx hb hsc hscl hscA hS (by omega) hL dL_law__342 ?_
    refine ca_v (CL := [mO a (nI n) (nI k) th]) (va_runV (As := [.int (xs (z0 + 1)), .int (xs (z0 + 2)), .int (xs (z0 + 3))]) (rest := []) ⟨hx, hb, hml, hown, hts⟩ (c_X9_swap_bad l D cY H.size a n k th (xs (z0 + 1)) (xs (z0 + 2)) (xs (z0 + 3)) (by omega) (by omega) (by omega) (by omega) hc1) (cwV 3 hts gL_law__X9_swap rfl rfl rfl (by decide +kernel) ⟨Nat.le_of_ble_eq_true rfl, Nat.le_of_ble_eq_true rfl⟩) (b_preV hVK hP hD [30] rfl rfl 30 rfl rfl) rfl rfl hl.1 rfl (lv_room (Nat.le_of_ble_eq_true rfl)) dL_law__343 ⟨by omega, by omega⟩) hP hD hS hA [30] rfl rfl (fun _ => rfl) (fun uu H locs hq hP hD hS => ?_)
    have hP : va_P D vwCl (LB cY b rr a oo od n k n k fG fW fR fH fA fS fRs fOt fMi fEn fEb fPy fB fCc (nI 1) fto fpay fcol fnow fthn foth fmnr fwts fmap fnxt fO fE).flatten H := hP
    have hD : va_D A (LB cY b rr a oo od n k n k fG fW fR fH fA fS fRs fOt fMi fEn fEb fPy fB fCc (nI 1) fto fpay fcol fnow fthn foth fmnr fwts fmap fnxt fO fE).flatten := hD
    refine lv_aload_n hx hb dL_law__346 rfl (lv_at hl 4 rfl) ?_
    refine ca_i (CL := [mO a (nI n) (nI k) (nI 1)]) (va_runV (As := []) (rest := []) ⟨hx, hb, hml, hown, hts⟩ (c_X9_thrown l D cY H.size a n k (nI 1)) (cwV 0 hts gL_law__X9_thrown rfl rfl rfl (by decide +kernel) ⟨Nat.le_of_ble_eq_true rfl, Nat.le_of_ble_eq_true rfl⟩) (b_preV hVK hP hD [30] rfl rfl 30 rfl rfl) rfl rfl hl.1 rfl (lv_room (Nat.le_of_ble_eq_true rfl)) dL_law__347 ⟨by omega, by omega⟩) hP hD hS hA [30] rfl rfl (fun _ => rfl) (fun r347 uu H locs hq hP hD hS => ?_)
    subst hq
    have hP : va_P D vwCl (LB cY b rr a oo od n k n k fG fW fR fH fA fS fRs fOt fMi fEn fEb fPy fB fCc (nI 1) fto fpay fcol fnow fthn foth fmnr fwts fmap fnxt fO fE).flatten H := hP
    have hD : va_D A (LB cY b rr a oo od n k n k fG fW fR fH fA fS fRs fOt fMi fEn fEb fPy fB fCc (nI 1) fto fpay fcol fnow fthn foth fmnr fwts fmap fnxt fO fE).flatten := hD
    refine lv_iload hx hb dL_law__350 (lv_at hl 0 rfl) ?_
    refine n_icmp_eq (tgt := 357) hx hb dL_law__352 (by decide) (by omega) (by omega) (fun h352 => ?_) (fun h352 => ?_)
    · -- t
      refine lv_goto (tgt := 1823) hx hb dL_law__357 (by decide) ?_
      exact K n k g col fG fW fR fH fA fS fRs fOt fMi fEn fEb fPy fB fCc (nI 1) fto fpay fcol fnow fthn foth fmnr fwts fmap fnxt fO fE hI _ _ hP hD hS _ (lv_sub hl [1, 2, 3, 4, 5, 6] rfl)
    · -- f
      exact absurd rfl h352

set_option maxHeartbeats 8000000 in
set_option maxRecDepth 100000 in
theorem lc_pay {p : Program} {l : Launch} {e : Env} {s : State} {m : MethodId} {below : List Frame} {meth : Method} {c : Code} {H : Heap} {locs : List Loc} {cells slots : Nat} {Q : State → Prop} {D : va_G} {cY : Nat → ClassId} {A : Nat → Prop} {sc L : Nat} {xs : Nat → Int32} {b : Nat → Nat} {rr : Nat → Nat → Nat} {a : Nat → Nat} {oo od z0 : Nat} {ls : Array Slot} (E : LE p s m sc c D cY A L xs) (hlT : l.stackTraces = false) (hi4 : z0 + 4 ≤ L) (hL : L ≤ 2048) (hroom : cells + 1 ≤ room_1.cells ∧ slots + 6 ≤ room_1.slots) {n k : Nat} {g : Nat → Nat → Nat} {col : Nat → Nat} {fG fW : Nat → Nat → Int32} {fR fH fA fS : Nat → Nat → Int64} {fRs : Nat → Int64} {fOt : Nat → Int32} {fMi : Nat → Int64} {fEn fEb fPy : Nat → Int32} {fB : Nat → Nat → Int64} {fCc : Nat → Int32} {th : Int32} {fto fpay fcol : Nat → Int32} {fnow fthn foth fmnr fwts : Nat → Int64} {fmap fnxt : Nat → Int32} {fO : Nat → Int64} {fE : Nat → UInt64} (hI : LV n k g col fG fW fPy fCc fto fpay fcol) (hP : va_P D vwCl (LB cY b rr a oo od n k n k fG fW fR fH fA fS fRs fOt fMi fEn fEb fPy fB fCc th fto fpay fcol fnow fthn foth fmnr fwts fmap fnxt fO fE).flatten H) (hD : va_D A (LB cY b rr a oo od n k n k fG fW fR fH fA fS fRs fOt fMi fEn fEb fPy fB fCc th fto fpay fcol fnow fthn foth fmnr fwts fmap fnxt fO fE).flatten) (hS : va_S A s.heap H locs) (hl : lv_has ls 9 [(5, .int (nI z0)), (4, .ref od), (3, .ref oo), (2, .ref (a 0)), (1, .ref (b 0)), (0, .ref sc)]) (K : LK p l e s m below meth c sc D cY A b rr a oo od z0 cells slots Q) : W p l e room_1 s m #[Value.ref sc] below meth c H locs cells slots Q (F0 m 360 ls []) := by
  obtain ⟨hx, hb, hml, hts, hown, hK, hVK, hA, hX, hH, hsc, hscl, hscA⟩ := E
  obtain ⟨⟨hn1, hn6, hk1, hk12⟩, hG, hgn, hW, hT, hPy, hC6⟩ := id hI
  rcases Bool.eq_false_or_eq_true (inR (xs (z0 + 1)) (nI 0) (nI (n - 1))) with hc1 | hc1
  · -- holds
    rcases Bool.eq_false_or_eq_true (inR (xs (z0 + 2)) (-100000) (nI 100000)) with hc2 | hc2
    · -- holds
      obtain ⟨i, hi_, e1⟩ := inR_of (by omega) hc1
      have hv := hc2
      refine lv_aload_n hx hb dL_law__360 rfl (lv_at hl 4 rfl) ?_
      refine lv_aload_n hx hb dL_law__361 rfl (lv_at hl 5 rfl) ?_
      refine lv_iload hx hb dL_law__362 (lv_at hl 0 rfl) ?_
      refine lv_iconst (v := nI 1) hx hb dL_law__364 (by decide) ?_
      refine lv_iadd hx hb dL_law__365 ?_
      refine eqi (x' := nI (z0 + 1)) (nI_add _ _) ?_
      refine s_ld hx hb hsc hscl hscA hS (by omega) hL dL_law__366 ?_
      refine eqi (x' := nI i) e1 ?_
      refine lv_aload_n hx hb dL_law__367 rfl (lv_at hl 5 rfl) ?_
      refine lv_iload hx hb dL_law__368 (lv_at hl 0 rfl) ?_
      refine lv_iconst (v := nI 2) hx hb dL_law__370 (by decide) ?_
      refine lv_iadd hx hb dL_law__371 ?_
      refine eqi (x' := nI (z0 + 2)) (nI_add _ _) ?_
      refine s_ld hx hb hsc hscl hscA hS (by omega) hL dL_law__372 ?_
      refine lv_aload_n hx hb dL_law__373 rfl (lv_at hl 2 rfl) ?_
      refine hh_i (CL := [hO b, cO b (nI n) (nI k), gO b, [(b 19, .inl (cY 0, 6, .inl fPy))], [(oo, .inl (cY 1, 1, .inr (.inl fO)))]]) (vx_runSX (As := [.ref (b 0), .int (nI i), .int (xs (z0 + 2)), .ref oo]) (rest := []) ⟨hx, hb, hml, hown, hts⟩ (c_L_pay_ok l D cY H.size b n k fPy g i (xs (z0 + 2)) oo fO (by omega) (by omega) (by omega) (by omega) (by omega) hv) (vx_cwSW 4 hts gL_law__L_pay rfl rfl rfl (by decide +kernel) ⟨Nat.le_of_ble_eq_true rfl, Nat.le_of_ble_eq_true rfl⟩) (b_preHS hVK hP hD hS hA hX hH [0, 1, 24, 25, 41] rfl rfl) rfl rfl hl.1 rfl (lv_room (Nat.le_of_ble_eq_true rfl)) dL_law__374 ⟨by omega, by omega⟩) hP hD hS hA [0, 1, 24, 25, 41] rfl rfl (fun _ => rfl) (fun r374 uu H locs hq hP hD hS => ?_)
      subst hq
      have hP : va_P D vwCl (LB cY b rr a oo od n k n k fG fW fR fH fA fS fRs fOt fMi fEn fEb (upd fPy i (xs (z0 + 2))) fB fCc th fto fpay fcol fnow fthn foth fmnr fwts fmap fnxt (vp_updL fO 0 ((fPy i).toInt64)) fE).flatten H := hP
      have hD : va_D A (LB cY b rr a oo od n k n k fG fW fR fH fA fS fRs fOt fMi fEn fEb (upd fPy i (xs (z0 + 2))) fB fCc th fto fpay fcol fnow fthn foth fmnr fwts fmap fnxt (vp_updL fO 0 ((fPy i).toInt64)) fE).flatten := hD
      refine lv_istore (lv' := [(6, .int (nI 0)), (5, .int (nI z0)), (4, .ref od), (3, .ref oo), (2, .ref (a 0)), (1, .ref (b 0)), (0, .ref sc)]) hx hb dL_law__377 hl (by decide) rfl (fun ls hl => ?_)
      refine lv_aload_n hx hb dL_law__379 rfl (lv_at hl 4 rfl) ?_
      refine lv_aload_n hx hb dL_law__380 rfl (lv_at hl 6 rfl) ?_
      refine lv_iload hx hb dL_law__381 (lv_at hl 1 rfl) ?_
      refine lv_iconst (v := nI 1) hx hb dL_law__383 (by decide) ?_
      refine lv_iadd hx hb dL_law__384 ?_
      refine eqi (x' := nI (z0 + 1)) (nI_add _ _) ?_
      refine s_ld hx hb hsc hscl hscA hS (by omega) hL dL_law__385 ?_
      refine eqi (x' := nI i) e1 ?_
      refine lv_aload_n hx hb dL_law__386 rfl (lv_at hl 6 rfl) ?_
      refine lv_iload hx hb dL_law__387 (lv_at hl 1 rfl) ?_
      refine lv_iconst (v := nI 2) hx hb dL_law__389 (by decide) ?_
      refine lv_iadd hx hb dL_law__390 ?_
      refine eqi (x' := nI (z0 + 2)) (nI_add _ _) ?_
      refine s_ld hx hb hsc hscl hscA hS (by omega) hL dL_law__391 ?_
      refine ca_i (CL := [mO a (nI n) (nI k) th, [(a 2, .inl (cY 0, 6, .inl fpay))]]) (va_runV (As := [.int (nI i), .int (xs (z0 + 2))]) (rest := []) ⟨hx, hb, hml, hown, hts⟩ (c_X9_pay_ok l D cY H.size a n k th fpay i (xs (z0 + 2)) (by omega) (by omega) (by omega) (by omega) (by omega) hv) (cwV 2 hts gL_law__X9_pay rfl rfl rfl (by decide +kernel) ⟨Nat.le_of_ble_eq_true rfl, Nat.le_of_ble_eq_true rfl⟩) (b_preV hVK hP hD [30, 32] rfl rfl 30 rfl rfl) rfl rfl hl.1 rfl (lv_room (Nat.le_of_ble_eq_true rfl)) dL_law__392 ⟨by omega, by omega⟩) hP hD hS hA [30, 32] rfl rfl (fun _ => rfl) (fun r392 uu H locs hq hP hD hS => ?_)
      subst hq
      have hP : va_P D vwCl (LB cY b rr a oo od n k n k fG fW fR fH fA fS fRs fOt fMi fEn fEb (upd fPy i (xs (z0 + 2))) fB fCc (nI 0) fto (upd fpay i (xs (z0 + 2))) fcol fnow fthn foth fmnr fwts fmap fnxt (vp_updL fO 0 ((fPy i).toInt64)) fE).flatten H := hP
      have hD : va_D A (LB cY b rr a oo od n k n k fG fW fR fH fA fS fRs fOt fMi fEn fEb (upd fPy i (xs (z0 + 2))) fB fCc (nI 0) fto (upd fpay i (xs (z0 + 2))) fcol fnow fthn foth fmnr fwts fmap fnxt (vp_updL fO 0 ((fPy i).toInt64)) fE).flatten := hD
      refine lv_istore (lv' := [(7, .int (fpay i)), (6, .int (nI 0)), (5, .int (nI z0)), (4, .ref od), (3, .ref oo), (2, .ref (a 0)), (1, .ref (b 0)), (0, .ref sc)]) hx hb dL_law__395 hl (by decide) rfl (fun ls hl => ?_)
      refine lv_aload_n hx hb dL_law__397 rfl (lv_at hl 5 rfl) ?_
      refine ca_i (CL := [mO a (nI n) (nI k) (nI 0)]) (va_runV (As := []) (rest := []) ⟨hx, hb, hml, hown, hts⟩ (c_X9_thrown l D cY H.size a n k (nI 0)) (cwV 0 hts gL_law__X9_thrown rfl rfl rfl (by decide +kernel) ⟨Nat.le_of_ble_eq_true rfl, Nat.le_of_ble_eq_true rfl⟩) (b_preV hVK hP hD [30] rfl rfl 30 rfl rfl) rfl rfl hl.1 rfl (lv_room (Nat.le_of_ble_eq_true rfl)) dL_law__398 ⟨by omega, by omega⟩) hP hD hS hA [30] rfl rfl (fun _ => rfl) (fun r398 uu H locs hq hP hD hS => ?_)
      subst hq
      have hP : va_P D vwCl (LB cY b rr a oo od n k n k fG fW fR fH fA fS fRs fOt fMi fEn fEb (upd fPy i (xs (z0 + 2))) fB fCc (nI 0) fto (upd fpay i (xs (z0 + 2))) fcol fnow fthn foth fmnr fwts fmap fnxt (vp_updL fO 0 ((fPy i).toInt64)) fE).flatten H := hP
      have hD : va_D A (LB cY b rr a oo od n k n k fG fW fR fH fA fS fRs fOt fMi fEn fEb (upd fPy i (xs (z0 + 2))) fB fCc (nI 0) fto (upd fpay i (xs (z0 + 2))) fcol fnow fthn foth fmnr fwts fmap fnxt (vp_updL fO 0 ((fPy i).toInt64)) fE).flatten := hD
      refine lv_iload hx hb dL_law__401 (lv_at hl 1 rfl) ?_
      refine n_icmp_eq (tgt := 408) hx hb dL_law__403 (by decide) (by omega) (by omega) (fun h403 => ?_) (fun h403 => ?_)
      · -- t
        refine lv_iload hx hb dL_law__408 (lv_at hl 1 rfl) ?_
        refine n_if_ne (tgt := 425) hx hb dL_law__410 (by decide) (by omega) (fun h410 => ?_) (fun h410 => ?_)
        · -- t
          exact absurd rfl h410
        · -- f
          refine lv_aload_n hx hb dL_law__413 rfl (lv_at hl 4 rfl) ?_
          refine lv_iconst (v := nI 0) hx hb dL_law__414 (by decide) ?_
          refine b_lald hx hb hK hP 41 1 rfl rfl (by omega) (by omega) dL_law__415 ?_
          refine eql (x' := (fPy i).toInt64) pk_uLs ?_
          refine lv_iload hx hb dL_law__416 (lv_at hl 0 rfl) ?_
          refine lv_i2l (v := (fpay i).toInt64) hx hb dL_law__418 rfl ?_
          refine W.lcmp hx hb dL_law__419 ?_
          refine l_if_eq (tgt := 425) hx hb dL_law__420 (by decide) (fun h420 => ?_) (fun h420 => ?_)
          · -- t
            refine lv_goto (tgt := 1823) hx hb dL_law__425 (by decide) ?_
            refine W.widen (Nat.le_add_right cells 1) (Nat.le_add_right slots 6) ?_
            exact K n k g col fG fW fR fH fA fS fRs fOt fMi fEn fEb (upd fPy i (xs (z0 + 2))) fB fCc (nI 0) fto (upd fpay i (xs (z0 + 2))) fcol fnow fthn foth fmnr fwts fmap fnxt (vp_updL fO 0 ((fPy i).toInt64)) fE (LV_pay hI hc2) _ _ hP hD hS _ (lv_sub hl [2, 3, 4, 5, 6, 7] rfl)
          · -- f
            exact absurd (congrArg Int32.toInt64 (hPy i (by omega)).1) h420
      · -- f
        exact absurd rfl h403
    · -- not
      refine lv_aload_n hx hb dL_law__360 rfl (lv_at hl 4 rfl) ?_
      refine lv_aload_n hx hb dL_law__361 rfl (lv_at hl 5 rfl) ?_
      refine lv_iload hx hb dL_law__362 (lv_at hl 0 rfl) ?_
      refine lv_iconst (v := nI 1) hx hb dL_law__364 (by decide) ?_
      refine lv_iadd hx hb dL_law__365 ?_
      refine eqi (x' := nI (z0 + 1)) (nI_add _ _) ?_
      refine s_ld hx hb hsc hscl hscA hS (by omega) hL dL_law__366 ?_
      refine lv_aload_n hx hb dL_law__367 rfl (lv_at hl 5 rfl) ?_
      refine lv_iload hx hb dL_law__368 (lv_at hl 0 rfl) ?_
      refine lv_iconst (v := nI 2) hx hb dL_law__370 (by decide) ?_
      refine lv_iadd hx hb dL_law__371 ?_
      refine eqi (x' := nI (z0 + 2)) (nI_add _ _) ?_
      refine s_ld hx hb hsc hscl hscA hS (by omega) hL dL_law__372 ?_
      refine lv_aload_n hx hb dL_law__373 rfl (lv_at hl 2 rfl) ?_
      refine hh_i (CL := [hO b, cO b (nI n) (nI k), [(oo, .inl (cY 1, 1, .inr (.inl fO)))]]) (vx_runSX (As := [.ref (b 0), .int (xs (z0 + 1)), .int (xs (z0 + 2)), .ref oo]) (rest := []) ⟨hx, hb, hml, hown, hts⟩ (c_L_pay_b2 l D cY H.size b n k (xs (z0 + 1)) (xs (z0 + 2)) oo fO hlT (by omega) (by omega) (by omega) (by omega) hc1 hc2) (vx_cwSW 4 hts gL_law__L_pay rfl rfl rfl (by decide +kernel) ⟨Nat.le_of_ble_eq_true rfl, Nat.le_of_ble_eq_true rfl⟩) (b_preHS hVK hP hD hS hA hX hH [0, 1, 41] rfl rfl) rfl rfl hl.1 rfl (lv_room (Nat.le_of_ble_eq_true rfl)) dL_law__374 ⟨by omega, by omega⟩) hP hD hS hA [0, 1, 41] rfl rfl (fun _ => rfl) (fun r374 uu H locs hq hP hD hS => ?_)
      subst hq
      have hP : va_P D vwCl (LB cY b rr a oo od n k n k fG fW fR fH fA fS fRs fOt fMi fEn fEb fPy fB fCc th fto fpay fcol fnow fthn foth fmnr fwts fmap fnxt fO fE).flatten H := hP
      have hD : va_D A (LB cY b rr a oo od n k n k fG fW fR fH fA fS fRs fOt fMi fEn fEb fPy fB fCc th fto fpay fcol fnow fthn foth fmnr fwts fmap fnxt fO fE).flatten := hD
      refine lv_istore (lv' := [(6, .int (nI 2)), (5, .int (nI z0)), (4, .ref od), (3, .ref oo), (2, .ref (a 0)), (1, .ref (b 0)), (0, .ref sc)]) hx hb dL_law__377 hl (by decide) rfl (fun ls hl => ?_)
      refine lv_aload_n hx hb dL_law__379 rfl (lv_at hl 4 rfl) ?_
      refine lv_aload_n hx hb dL_law__380 rfl (lv_at hl 6 rfl) ?_
      refine lv_iload hx hb dL_law__381 (lv_at hl 1 rfl) ?_
      refine lv_iconst (v := nI 1) hx hb dL_law__383 (by decide) ?_
      refine lv_iadd hx hb dL_law__384 ?_
      refine eqi (x' := nI (z0 + 1)) (nI_add _ _) ?_
      refine s_ld hx hb hsc hscl hscA hS (by omega) hL dL_law__385 ?_
      refine lv_aload_n hx hb dL_law__386 rfl (lv_at hl 6 rfl) ?_
      refine lv_iload hx hb dL_law__387 (lv_at hl 1 rfl) ?_
      refine lv_iconst (v := nI 2) hx hb dL_law__389 (by decide) ?_
      refine lv_iadd hx hb dL_law__390 ?_
      refine eqi (x' := nI (z0 + 2)) (nI_add _ _) ?_
      refine s_ld hx hb hsc hscl hscA hS (by omega) hL dL_law__391 ?_
      refine ca_i (CL := [mO a (nI n) (nI k) th]) (va_runV (As := [.int (xs (z0 + 1)), .int (xs (z0 + 2))]) (rest := []) ⟨hx, hb, hml, hown, hts⟩ (c_X9_pay_b2 l D cY H.size a n k th (xs (z0 + 1)) (xs (z0 + 2)) (by omega) (by omega) (by omega) (by omega) hc1 hc2) (cwV 2 hts gL_law__X9_pay rfl rfl rfl (by decide +kernel) ⟨Nat.le_of_ble_eq_true rfl, Nat.le_of_ble_eq_true rfl⟩) (b_preV hVK hP hD [30] rfl rfl 30 rfl rfl) rfl rfl hl.1 rfl (lv_room (Nat.le_of_ble_eq_true rfl)) dL_law__392 ⟨by omega, by omega⟩) hP hD hS hA [30] rfl rfl (fun _ => rfl) (fun r392 uu H locs hq hP hD hS => ?_)
      subst hq
      have hP : va_P D vwCl (LB cY b rr a oo od n k n k fG fW fR fH fA fS fRs fOt fMi fEn fEb fPy fB fCc (nI 2) fto fpay fcol fnow fthn foth fmnr fwts fmap fnxt fO fE).flatten H := hP
      have hD : va_D A (LB cY b rr a oo od n k n k fG fW fR fH fA fS fRs fOt fMi fEn fEb fPy fB fCc (nI 2) fto fpay fcol fnow fthn foth fmnr fwts fmap fnxt fO fE).flatten := hD
      refine lv_istore (lv' := [(7, .int (nI 0)), (6, .int (nI 2)), (5, .int (nI z0)), (4, .ref od), (3, .ref oo), (2, .ref (a 0)), (1, .ref (b 0)), (0, .ref sc)]) hx hb dL_law__395 hl (by decide) rfl (fun ls hl => ?_)
      refine lv_aload_n hx hb dL_law__397 rfl (lv_at hl 5 rfl) ?_
      refine ca_i (CL := [mO a (nI n) (nI k) (nI 2)]) (va_runV (As := []) (rest := []) ⟨hx, hb, hml, hown, hts⟩ (c_X9_thrown l D cY H.size a n k (nI 2)) (cwV 0 hts gL_law__X9_thrown rfl rfl rfl (by decide +kernel) ⟨Nat.le_of_ble_eq_true rfl, Nat.le_of_ble_eq_true rfl⟩) (b_preV hVK hP hD [30] rfl rfl 30 rfl rfl) rfl rfl hl.1 rfl (lv_room (Nat.le_of_ble_eq_true rfl)) dL_law__398 ⟨by omega, by omega⟩) hP hD hS hA [30] rfl rfl (fun _ => rfl) (fun r398 uu H locs hq hP hD hS => ?_)
      subst hq
      have hP : va_P D vwCl (LB cY b rr a oo od n k n k fG fW fR fH fA fS fRs fOt fMi fEn fEb fPy fB fCc (nI 2) fto fpay fcol fnow fthn foth fmnr fwts fmap fnxt fO fE).flatten H := hP
      have hD : va_D A (LB cY b rr a oo od n k n k fG fW fR fH fA fS fRs fOt fMi fEn fEb fPy fB fCc (nI 2) fto fpay fcol fnow fthn foth fmnr fwts fmap fnxt fO fE).flatten := hD
      refine lv_iload hx hb dL_law__401 (lv_at hl 1 rfl) ?_
      refine n_icmp_eq (tgt := 408) hx hb dL_law__403 (by decide) (by omega) (by omega) (fun h403 => ?_) (fun h403 => ?_)
      · -- t
        refine lv_iload hx hb dL_law__408 (lv_at hl 1 rfl) ?_
        refine n_if_ne (tgt := 425) hx hb dL_law__410 (by decide) (by omega) (fun h410 => ?_) (fun h410 => ?_)
        · -- t
          refine lv_goto (tgt := 1823) hx hb dL_law__425 (by decide) ?_
          exact K n k g col fG fW fR fH fA fS fRs fOt fMi fEn fEb fPy fB fCc (nI 2) fto fpay fcol fnow fthn foth fmnr fwts fmap fnxt fO fE hI _ _ hP hD hS _ (lv_sub hl [2, 3, 4, 5, 6, 7] rfl)
        · -- f
          exact absurd h410 (by decide)
      · -- f
        exact absurd rfl h403
  · -- not
    refine lv_aload_n hx hb dL_law__360 rfl (lv_at hl 4 rfl) ?_
    refine lv_aload_n hx hb dL_law__361 rfl (lv_at hl 5 rfl) ?_
    refine lv_iload hx hb dL_law__362 (lv_at hl 0 rfl) ?_
    refine lv_iconst (v := nI 1) hx hb dL_law__364 (by decide) ?_
    refine lv_iadd hx hb dL_law__365 ?_
    refine eqi (x' := nI (z0 + 1)) (nI_add _ _) ?_
    refine s_ld hx hb hsc hscl hscA hS (by omega) hL dL_law__366 ?_
    refine lv_aload_n hx hb dL_law__367 rfl (lv_at hl 5 rfl) ?_
    refine lv_iload hx hb dL_law__368 (lv_at hl 0 rfl) ?_
    refine lv_iconst (v := nI 2) hx hb dL_law__370 (by decide) ?_
    refine lv_iadd hx hb dL_law__371 ?_
    refine eqi (x' := nI (z0 + 2)) (nI_add _ _) ?_
    refine s_ld hx hb hsc hscl hscA hS (by omega) hL dL_law__372 ?_
    refine lv_aload_n hx hb dL_law__373 rfl (lv_at hl 2 rfl) ?_
    refine hh_i (CL := [hO b, cO b (nI n) (nI k), [(oo, .inl (cY 1, 1, .inr (.inl fO)))]]) (vx_runSX (As := [.ref (b 0), .int (xs (z0 + 1)), .int (xs (z0 + 2)), .ref oo]) (rest := []) ⟨hx, hb, hml, hown, hts⟩ (c_L_pay_b1 l D cY H.size b n k (xs (z0 + 1)) (xs (z0 + 2)) oo fO hlT (by omega) (by omega) (by omega) (by omega) hc1) (vx_cwSW 4 hts gL_law__L_pay rfl rfl rfl (by decide +kernel) ⟨Nat.le_of_ble_eq_true rfl, Nat.le_of_ble_eq_true rfl⟩) (b_preHS hVK hP hD hS hA hX hH [0, 1, 41] rfl rfl) rfl rfl hl.1 rfl (lv_room (Nat.le_of_ble_eq_true rfl)) dL_law__374 ⟨by omega, by omega⟩) hP hD hS hA [0, 1, 41] rfl rfl (fun _ => rfl) (fun r374 uu H locs hq hP hD hS => ?_)
    subst hq
    have hP : va_P D vwCl (LB cY b rr a oo od n k n k fG fW fR fH fA fS fRs fOt fMi fEn fEb fPy fB fCc th fto fpay fcol fnow fthn foth fmnr fwts fmap fnxt fO fE).flatten H := hP
    have hD : va_D A (LB cY b rr a oo od n k n k fG fW fR fH fA fS fRs fOt fMi fEn fEb fPy fB fCc th fto fpay fcol fnow fthn foth fmnr fwts fmap fnxt fO fE).flatten := hD
    refine lv_istore (lv' := [(6, .int (nI 1)), (5, .int (nI z0)), (4, .ref od), (3, .ref oo), (2, .ref (a 0)), (1, .ref (b 0)), (0, .ref sc)]) hx hb dL_law__377 hl (by decide) rfl (fun ls hl => ?_)
    refine lv_aload_n hx hb dL_law__379 rfl (lv_at hl 4 rfl) ?_
    refine lv_aload_n hx hb dL_law__380 rfl (lv_at hl 6 rfl) ?_
    refine lv_iload hx hb dL_law__381 (lv_at hl 1 rfl) ?_
    refine lv_iconst (v := nI 1) hx hb dL_law__383 (by decide) ?_
    refine lv_iadd hx hb dL_law__384 ?_
    refine eqi (x' := nI (z0 + 1)) (nI_add _ _) ?_
    refine s_ld hx hb hsc hscl hscA hS (by omega) hL dL_law__385 ?_
    refine lv_aload_n hx hb dL_law__386 rfl (lv_at hl 6 rfl) ?_
    refine lv_iload hx hb dL_law__387 (lv_at hl 1 rfl) ?_
    refine lv_iconst (v := nI 2) hx hb dL_law__389 (by decide) ?_
    refine lv_iadd hx hb dL_law__390 ?_
    refine eqi (x' := nI (z0 + 2)) (nI_add _ _) ?_
    refine s_ld hx hb hsc hscl hscA hS (by omega) hL dL_law__391 ?_
    refine ca_i (CL := [mO a (nI n) (nI k) th]) (va_runV (As := [.int (xs (z0 + 1)), .int (xs (z0 + 2))]) (rest := []) ⟨hx, hb, hml, hown, hts⟩ (c_X9_pay_b1 l D cY H.size a n k th (xs (z0 + 1)) (xs (z0 + 2)) (by omega) (by omega) (by omega) (by omega) hc1) (cwV 2 hts gL_law__X9_pay rfl rfl rfl (by decide +kernel) ⟨Nat.le_of_ble_eq_true rfl, Nat.le_of_ble_eq_true rfl⟩) (b_preV hVK hP hD [30] rfl rfl 30 rfl rfl) rfl rfl hl.1 rfl (lv_room (Nat.le_of_ble_eq_true rfl)) dL_law__392 ⟨by omega, by omega⟩) hP hD hS hA [30] rfl rfl (fun _ => rfl) (fun r392 uu H locs hq hP hD hS => ?_)
    subst hq
    have hP : va_P D vwCl (LB cY b rr a oo od n k n k fG fW fR fH fA fS fRs fOt fMi fEn fEb fPy fB fCc (nI 1) fto fpay fcol fnow fthn foth fmnr fwts fmap fnxt fO fE).flatten H := hP
    have hD : va_D A (LB cY b rr a oo od n k n k fG fW fR fH fA fS fRs fOt fMi fEn fEb fPy fB fCc (nI 1) fto fpay fcol fnow fthn foth fmnr fwts fmap fnxt fO fE).flatten := hD
    refine lv_istore (lv' := [(7, .int (nI 0)), (6, .int (nI 1)), (5, .int (nI z0)), (4, .ref od), (3, .ref oo), (2, .ref (a 0)), (1, .ref (b 0)), (0, .ref sc)]) hx hb dL_law__395 hl (by decide) rfl (fun ls hl => ?_)
    refine lv_aload_n hx hb dL_law__397 rfl (lv_at hl 5 rfl) ?_
    refine ca_i (CL := [mO a (nI n) (nI k) (nI 1)]) (va_runV (As := []) (rest := []) ⟨hx, hb, hml, hown, hts⟩ (c_X9_thrown l D cY H.size a n k (nI 1)) (cwV 0 hts gL_law__X9_thrown rfl rfl rfl (by decide +kernel) ⟨Nat.le_of_ble_eq_true rfl, Nat.le_of_ble_eq_true rfl⟩) (b_preV hVK hP hD [30] rfl rfl 30 rfl rfl) rfl rfl hl.1 rfl (lv_room (Nat.le_of_ble_eq_true rfl)) dL_law__398 ⟨by omega, by omega⟩) hP hD hS hA [30] rfl rfl (fun _ => rfl) (fun r398 uu H locs hq hP hD hS => ?_)
    subst hq
    have hP : va_P D vwCl (LB cY b rr a oo od n k n k fG fW fR fH fA fS fRs fOt fMi fEn fEb fPy fB fCc (nI 1) fto fpay fcol fnow fthn foth fmnr fwts fmap fnxt fO fE).flatten H := hP
    have hD : va_D A (LB cY b rr a oo od n k n k fG fW fR fH fA fS fRs fOt fMi fEn fEb fPy fB fCc (nI 1) fto fpay fcol fnow fthn foth fmnr fwts fmap fnxt fO fE).flatten := hD
    refine lv_iload hx hb dL_law__401 (lv_at hl 1 rfl) ?_
    refine n_icmp_eq (tgt := 408) hx hb dL_law__403 (by decide) (by omega) (by omega) (fun h403 => ?_) (fun h403 => ?_)
    · -- t
      refine lv_iload hx hb dL_law__408 (lv_at hl 1 rfl) ?_
      refine n_if_ne (tgt := 425) hx hb dL_law__410 (by decide) (by omega) (fun h410 => ?_) (fun h410 => ?_)
      · -- t
        refine lv_goto (tgt := 1823) hx hb dL_law__425 (by decide) ?_
        exact K n k g col fG fW fR fH fA fS fRs fOt fMi fEn fEb fPy fB fCc (nI 1) fto fpay fcol fnow fthn foth fmnr fwts fmap fnxt fO fE hI _ _ hP hD hS _ (lv_sub hl [2, 3, 4, 5, 6, 7] rfl)
      · -- f
        exact absurd h410 (by decide)
    · -- f
      exact absurd rfl h403

set_option maxHeartbeats 8000000 in
set_option maxRecDepth 100000 in
theorem lc_colour {p : Program} {l : Launch} {e : Env} {s : State} {m : MethodId} {below : List Frame} {meth : Method} {c : Code} {H : Heap} {locs : List Loc} {cells slots : Nat} {Q : State → Prop} {D : va_G} {cY : Nat → ClassId} {A : Nat → Prop} {sc L : Nat} {xs : Nat → Int32} {b : Nat → Nat} {rr : Nat → Nat → Nat} {a : Nat → Nat} {oo od z0 : Nat} {ls : Array Slot} (E : LE p s m sc c D cY A L xs) (hlT : l.stackTraces = false) (hi4 : z0 + 4 ≤ L) (hL : L ≤ 2048) (hroom : cells + 1 ≤ room_1.cells ∧ slots + 6 ≤ room_1.slots) {n k : Nat} {g : Nat → Nat → Nat} {col : Nat → Nat} {fG fW : Nat → Nat → Int32} {fR fH fA fS : Nat → Nat → Int64} {fRs : Nat → Int64} {fOt : Nat → Int32} {fMi : Nat → Int64} {fEn fEb fPy : Nat → Int32} {fB : Nat → Nat → Int64} {fCc : Nat → Int32} {th : Int32} {fto fpay fcol : Nat → Int32} {fnow fthn foth fmnr fwts : Nat → Int64} {fmap fnxt : Nat → Int32} {fO : Nat → Int64} {fE : Nat → UInt64} (hI : LV n k g col fG fW fPy fCc fto fpay fcol) (hP : va_P D vwCl (LB cY b rr a oo od n k n k fG fW fR fH fA fS fRs fOt fMi fEn fEb fPy fB fCc th fto fpay fcol fnow fthn foth fmnr fwts fmap fnxt fO fE).flatten H) (hD : va_D A (LB cY b rr a oo od n k n k fG fW fR fH fA fS fRs fOt fMi fEn fEb fPy fB fCc th fto fpay fcol fnow fthn foth fmnr fwts fmap fnxt fO fE).flatten) (hS : va_S A s.heap H locs) (hl : lv_has ls 9 [(5, .int (nI z0)), (4, .ref od), (3, .ref oo), (2, .ref (a 0)), (1, .ref (b 0)), (0, .ref sc)]) (K : LK p l e s m below meth c sc D cY A b rr a oo od z0 cells slots Q) : W p l e room_1 s m #[Value.ref sc] below meth c H locs cells slots Q (F0 m 428 ls []) := by
  obtain ⟨hx, hb, hml, hts, hown, hK, hVK, hA, hX, hH, hsc, hscl, hscA⟩ := E
  obtain ⟨⟨hn1, hn6, hk1, hk12⟩, hG, hgn, hW, hT, hPy, hC6⟩ := id hI
  rcases Bool.eq_false_or_eq_true (inR (xs (z0 + 1)) (nI 0) (nI (n - 1))) with hc1 | hc1
  · -- holds
    rcases Bool.eq_false_or_eq_true (inR (xs (z0 + 2)) (nI 0) (nI 5)) with hc2 | hc2
    · -- holds
      obtain ⟨i, hi_, e1⟩ := inR_of (by omega) hc1
      have hv := hc2
      obtain ⟨col2, hI2⟩ := LV_col (i := i) hI hc2
      refine lv_aload_n hx hb dL_law__428 rfl (lv_at hl 4 rfl) ?_
      refine lv_aload_n hx hb dL_law__429 rfl (lv_at hl 5 rfl) ?_
      refine lv_iload hx hb dL_law__430 (lv_at hl 0 rfl) ?_
      refine lv_iconst (v := nI 1) hx hb dL_law__432 (by decide) ?_
      refine lv_iadd hx hb dL_law__433 ?_
      refine eqi (x' := nI (z0 + 1)) (nI_add _ _) ?_
      refine s_ld hx hb hsc hscl hscA hS (by omega) hL dL_law__434 ?_
      refine eqi (x' := nI i) e1 ?_
      refine lv_aload_n hx hb dL_law__435 rfl (lv_at hl 5 rfl) ?_
      refine lv_iload hx hb dL_law__436 (lv_at hl 0 rfl) ?_
      refine lv_iconst (v := nI 2) hx hb dL_law__438 (by decide) ?_
      refine lv_iadd hx hb dL_law__439 ?_
      refine eqi (x' := nI (z0 + 2)) (nI_add _ _) ?_
      refine s_ld hx hb hsc hscl hscA hS (by omega) hL dL_law__440 ?_
      refine lv_aload_n hx hb dL_law__441 rfl (lv_at hl 2 rfl) ?_
      refine hh_i (CL := [hO b, cO b (nI n) (nI k), uO b, [(b 22, .inl (cY 0, 6, .inl fCc))], [(oo, .inl (cY 1, 1, .inr (.inl fO)))]]) (vx_runSX (As := [.ref (b 0), .int (nI i), .int (xs (z0 + 2)), .ref oo]) (rest := []) ⟨hx, hb, hml, hown, hts⟩ (c_L_colour_ok l D cY H.size b n k fCc g i (xs (z0 + 2)) oo fO (by omega) (by omega) (by omega) (by omega) (by omega) hv) (vx_cwSW 4 hts gL_law__L_colour rfl rfl rfl (by decide +kernel) ⟨Nat.le_of_ble_eq_true rfl, Nat.le_of_ble_eq_true rfl⟩) (b_preHS hVK hP hD hS hA hX hH [0, 1, 28, 29, 41] rfl rfl) rfl rfl hl.1 rfl (lv_room (Nat.le_of_ble_eq_true rfl)) dL_law__442 ⟨by omega, by omega⟩) hP hD hS hA [0, 1, 28, 29, 41] rfl rfl (fun _ => rfl) (fun r442 uu H locs hq hP hD hS => ?_)
      subst hq
      have hP : va_P D vwCl (LB cY b rr a oo od n k n k fG fW fR fH fA fS fRs fOt fMi fEn fEb fPy fB (upd fCc i (xs (z0 + 2))) th fto fpay fcol fnow fthn foth fmnr fwts fmap fnxt (vp_updL fO 0 ((fCc i).toInt64)) fE).flatten H := hP
      have hD : va_D A (LB cY b rr a oo od n k n k fG fW fR fH fA fS fRs fOt fMi fEn fEb fPy fB (upd fCc i (xs (z0 + 2))) th fto fpay fcol fnow fthn foth fmnr fwts fmap fnxt (vp_updL fO 0 ((fCc i).toInt64)) fE).flatten := hD
      refine lv_istore (lv' := [(6, .int (nI 0)), (5, .int (nI z0)), (4, .ref od), (3, .ref oo), (2, .ref (a 0)), (1, .ref (b 0)), (0, .ref sc)]) hx hb dL_law__445 hl (by decide) rfl (fun ls hl => ?_)
      refine lv_aload_n hx hb dL_law__447 rfl (lv_at hl 4 rfl) ?_
      refine lv_aload_n hx hb dL_law__448 rfl (lv_at hl 6 rfl) ?_
      refine lv_iload hx hb dL_law__449 (lv_at hl 1 rfl) ?_
      refine lv_iconst (v := nI 1) hx hb dL_law__451 (by decide) ?_
      refine lv_iadd hx hb dL_law__452 ?_
      refine eqi (x' := nI (z0 + 1)) (nI_add _ _) ?_
      refine s_ld hx hb hsc hscl hscA hS (by omega) hL dL_law__453 ?_
      refine eqi (x' := nI i) e1 ?_
      refine lv_aload_n hx hb dL_law__454 rfl (lv_at hl 6 rfl) ?_
      refine lv_iload hx hb dL_law__455 (lv_at hl 1 rfl) ?_
      refine lv_iconst (v := nI 2) hx hb dL_law__457 (by decide) ?_
      refine lv_iadd hx hb dL_law__458 ?_
      refine eqi (x' := nI (z0 + 2)) (nI_add _ _) ?_
      refine s_ld hx hb hsc hscl hscA hS (by omega) hL dL_law__459 ?_
      refine ca_i (CL := [mO a (nI n) (nI k) th, [(a 3, .inl (cY 0, 6, .inl fcol))]]) (va_runV (As := [.int (nI i), .int (xs (z0 + 2))]) (rest := []) ⟨hx, hb, hml, hown, hts⟩ (c_X9_colour_ok l D cY H.size a n k th fcol i (xs (z0 + 2)) (by omega) (by omega) (by omega) (by omega) (by omega) hv) (cwV 2 hts gL_law__X9_colour rfl rfl rfl (by decide +kernel) ⟨Nat.le_of_ble_eq_true rfl, Nat.le_of_ble_eq_true rfl⟩) (b_preV hVK hP hD [30, 33] rfl rfl 30 rfl rfl) rfl rfl hl.1 rfl (lv_room (Nat.le_of_ble_eq_true rfl)) dL_law__460 ⟨by omega, by omega⟩) hP hD hS hA [30, 33] rfl rfl (fun _ => rfl) (fun r460 uu H locs hq hP hD hS => ?_)
      subst hq
      have hP : va_P D vwCl (LB cY b rr a oo od n k n k fG fW fR fH fA fS fRs fOt fMi fEn fEb fPy fB (upd fCc i (xs (z0 + 2))) (nI 0) fto fpay (upd fcol i (xs (z0 + 2))) fnow fthn foth fmnr fwts fmap fnxt (vp_updL fO 0 ((fCc i).toInt64)) fE).flatten H := hP
      have hD : va_D A (LB cY b rr a oo od n k n k fG fW fR fH fA fS fRs fOt fMi fEn fEb fPy fB (upd fCc i (xs (z0 + 2))) (nI 0) fto fpay (upd fcol i (xs (z0 + 2))) fnow fthn foth fmnr fwts fmap fnxt (vp_updL fO 0 ((fCc i).toInt64)) fE).flatten := hD
      refine lv_istore (lv' := [(7, .int (fcol i)), (6, .int (nI 0)), (5, .int (nI z0)), (4, .ref od), (3, .ref oo), (2, .ref (a 0)), (1, .ref (b 0)), (0, .ref sc)]) hx hb dL_law__463 hl (by decide) rfl (fun ls hl => ?_)
      refine lv_aload_n hx hb dL_law__465 rfl (lv_at hl 5 rfl) ?_
      refine ca_i (CL := [mO a (nI n) (nI k) (nI 0)]) (va_runV (As := []) (rest := []) ⟨hx, hb, hml, hown, hts⟩ (c_X9_thrown l D cY H.size a n k (nI 0)) (cwV 0 hts gL_law__X9_thrown rfl rfl rfl (by decide +kernel) ⟨Nat.le_of_ble_eq_true rfl, Nat.le_of_ble_eq_true rfl⟩) (b_preV hVK hP hD [30] rfl rfl 30 rfl rfl) rfl rfl hl.1 rfl (lv_room (Nat.le_of_ble_eq_true rfl)) dL_law__466 ⟨by omega, by omega⟩) hP hD hS hA [30] rfl rfl (fun _ => rfl) (fun r466 uu H locs hq hP hD hS => ?_)
      subst hq
      have hP : va_P D vwCl (LB cY b rr a oo od n k n k fG fW fR fH fA fS fRs fOt fMi fEn fEb fPy fB (upd fCc i (xs (z0 + 2))) (nI 0) fto fpay (upd fcol i (xs (z0 + 2))) fnow fthn foth fmnr fwts fmap fnxt (vp_updL fO 0 ((fCc i).toInt64)) fE).flatten H := hP
      have hD : va_D A (LB cY b rr a oo od n k n k fG fW fR fH fA fS fRs fOt fMi fEn fEb fPy fB (upd fCc i (xs (z0 + 2))) (nI 0) fto fpay (upd fcol i (xs (z0 + 2))) fnow fthn foth fmnr fwts fmap fnxt (vp_updL fO 0 ((fCc i).toInt64)) fE).flatten := hD
      refine lv_iload hx hb dL_law__469 (lv_at hl 1 rfl) ?_
      refine n_icmp_eq (tgt := 476) hx hb dL_law__471 (by decide) (by omega) (by omega) (fun h471 => ?_) (fun h471 => ?_)
      · -- t
        refine lv_iload hx hb dL_law__476 (lv_at hl 1 rfl) ?_
        refine n_if_ne (tgt := 493) hx hb dL_law__478 (by decide) (by omega) (fun h478 => ?_) (fun h478 => ?_)
        · -- t
          exact absurd rfl h478
        · -- f
          refine lv_aload_n hx hb dL_law__481 rfl (lv_at hl 4 rfl) ?_
          refine lv_iconst (v := nI 0) hx hb dL_law__482 (by decide) ?_
          refine b_lald hx hb hK hP 41 1 rfl rfl (by omega) (by omega) dL_law__483 ?_
          refine eql (x' := (fCc i).toInt64) pk_uLs ?_
          refine lv_iload hx hb dL_law__484 (lv_at hl 0 rfl) ?_
          refine lv_i2l (v := (fcol i).toInt64) hx hb dL_law__486 rfl ?_
          refine W.lcmp hx hb dL_law__487 ?_
          refine l_if_eq (tgt := 493) hx hb dL_law__488 (by decide) (fun h488 => ?_) (fun h488 => ?_)
          · -- t
            refine lv_goto (tgt := 1823) hx hb dL_law__493 (by decide) ?_
            refine W.widen (Nat.le_add_right cells 1) (Nat.le_add_right slots 6) ?_
            exact K n k g col2 fG fW fR fH fA fS fRs fOt fMi fEn fEb fPy fB (upd fCc i (xs (z0 + 2))) (nI 0) fto fpay (upd fcol i (xs (z0 + 2))) fnow fthn foth fmnr fwts fmap fnxt (vp_updL fO 0 ((fCc i).toInt64)) fE hI2 _ _ hP hD hS _ (lv_sub hl [2, 3, 4, 5, 6, 7] rfl)
          · -- f
            exact absurd (congrArg Int32.toInt64 (hC6 i (by omega)).1) h488
      · -- f
        exact absurd rfl h471
    · -- not
      refine lv_aload_n hx hb dL_law__428 rfl (lv_at hl 4 rfl) ?_
      refine lv_aload_n hx hb dL_law__429 rfl (lv_at hl 5 rfl) ?_
      refine lv_iload hx hb dL_law__430 (lv_at hl 0 rfl) ?_
      refine lv_iconst (v := nI 1) hx hb dL_law__432 (by decide) ?_
      refine lv_iadd hx hb dL_law__433 ?_
      refine eqi (x' := nI (z0 + 1)) (nI_add _ _) ?_
      refine s_ld hx hb hsc hscl hscA hS (by omega) hL dL_law__434 ?_
      refine lv_aload_n hx hb dL_law__435 rfl (lv_at hl 5 rfl) ?_
      refine lv_iload hx hb dL_law__436 (lv_at hl 0 rfl) ?_
      refine lv_iconst (v := nI 2) hx hb dL_law__438 (by decide) ?_
      refine lv_iadd hx hb dL_law__439 ?_
      refine eqi (x' := nI (z0 + 2)) (nI_add _ _) ?_
      refine s_ld hx hb hsc hscl hscA hS (by omega) hL dL_law__440 ?_
      refine lv_aload_n hx hb dL_law__441 rfl (lv_at hl 2 rfl) ?_
      refine hh_i (CL := [hO b, cO b (nI n) (nI k), [(oo, .inl (cY 1, 1, .inr (.inl fO)))]]) (vx_runSX (As := [.ref (b 0), .int (xs (z0 + 1)), .int (xs (z0 + 2)), .ref oo]) (rest := []) ⟨hx, hb, hml, hown, hts⟩ (c_L_colour_b2 l D cY H.size b n k (xs (z0 + 1)) (xs (z0 + 2)) oo fO hlT (by omega) (by omega) (by omega) (by omega) hc1 hc2) (vx_cwSW 4 hts gL_law__L_colour rfl rfl rfl (by decide +kernel) ⟨Nat.le_of_ble_eq_true rfl, Nat.le_of_ble_eq_true rfl⟩) (b_preHS hVK hP hD hS hA hX hH [0, 1, 41] rfl rfl) rfl rfl hl.1 rfl (lv_room (Nat.le_of_ble_eq_true rfl)) dL_law__442 ⟨by omega, by omega⟩) hP hD hS hA [0, 1, 41] rfl rfl (fun _ => rfl) (fun r442 uu H locs hq hP hD hS => ?_)
      subst hq
      have hP : va_P D vwCl (LB cY b rr a oo od n k n k fG fW fR fH fA fS fRs fOt fMi fEn fEb fPy fB fCc th fto fpay fcol fnow fthn foth fmnr fwts fmap fnxt fO fE).flatten H := hP
      have hD : va_D A (LB cY b rr a oo od n k n k fG fW fR fH fA fS fRs fOt fMi fEn fEb fPy fB fCc th fto fpay fcol fnow fthn foth fmnr fwts fmap fnxt fO fE).flatten := hD
      refine lv_istore (lv' := [(6, .int (nI 2)), (5, .int (nI z0)), (4, .ref od), (3, .ref oo), (2, .ref (a 0)), (1, .ref (b 0)), (0, .ref sc)]) hx hb dL_law__445 hl (by decide) rfl (fun ls hl => ?_)
      refine lv_aload_n hx hb dL_law__447 rfl (lv_at hl 4 rfl) ?_
      refine lv_aload_n hx hb dL_law__448 rfl (lv_at hl 6 rfl) ?_
      refine lv_iload hx hb dL_law__449 (lv_at hl 1 rfl) ?_
      refine lv_iconst (v := nI 1) hx hb dL_law__451 (by decide) ?_
      refine lv_iadd hx hb dL_law__452 ?_
      refine eqi (x' := nI (z0 + 1)) (nI_add _ _) ?_
      refine s_ld hx hb hsc hscl hscA hS (by omega) hL dL_law__453 ?_
      refine lv_aload_n hx hb dL_law__454 rfl (lv_at hl 6 rfl) ?_
      refine lv_iload hx hb dL_law__455 (lv_at hl 1 rfl) ?_
      refine lv_iconst (v := nI 2) hx hb dL_law__457 (by decide) ?_
      refine lv_iadd hx hb dL_law__458 ?_
      refine eqi (x' := nI (z0 + 2)) (nI_add _ _) ?_
      refine s_ld hx hb hsc hscl hscA hS (by omega) hL dL_law__459 ?_
      refine ca_i (CL := [mO a (nI n) (nI k) th]) (va_runV (As := [.int (xs (z0 + 1)), .int (xs (z0 + 2))]) (rest := []) ⟨hx, hb, hml, hown, hts⟩ (c_X9_colour_b2 l D cY H.size a n k th (xs (z0 + 1)) (xs (z0 + 2)) (by omega) (by omega) (by omega) (by omega) hc1 hc2) (cwV 2 hts gL_law__X9_colour rfl rfl rfl (by decide +kernel) ⟨Nat.le_of_ble_eq_true rfl, Nat.le_of_ble_eq_true rfl⟩) (b_preV hVK hP hD [30] rfl rfl 30 rfl rfl) rfl rfl hl.1 rfl (lv_room (Nat.le_of_ble_eq_true rfl)) dL_law__460 ⟨by omega, by omega⟩) hP hD hS hA [30] rfl rfl (fun _ => rfl) (fun r460 uu H locs hq hP hD hS => ?_)
      subst hq
      have hP : va_P D vwCl (LB cY b rr a oo od n k n k fG fW fR fH fA fS fRs fOt fMi fEn fEb fPy fB fCc (nI 2) fto fpay fcol fnow fthn foth fmnr fwts fmap fnxt fO fE).flatten H := hP
      have hD : va_D A (LB cY b rr a oo od n k n k fG fW fR fH fA fS fRs fOt fMi fEn fEb fPy fB fCc (nI 2) fto fpay fcol fnow fthn foth fmnr fwts fmap fnxt fO fE).flatten := hD
      refine lv_istore (lv' := [(7, .int (nI 0)), (6, .int (nI 2)), (5, .int (nI z0)), (4, .ref od), (3, .ref oo), (2, .ref (a 0)), (1, .ref (b 0)), (0, .ref sc)]) hx hb dL_law__463 hl (by decide) rfl (fun ls hl => ?_)
      refine lv_aload_n hx hb dL_law__465 rfl (lv_at hl 5 rfl) ?_
      refine ca_i (CL := [mO a (nI n) (nI k) (nI 2)]) (va_runV (As := []) (rest := []) ⟨hx, hb, hml, hown, hts⟩ (c_X9_thrown l D cY H.size a n k (nI 2)) (cwV 0 hts gL_law__X9_thrown rfl rfl rfl (by decide +kernel) ⟨Nat.le_of_ble_eq_true rfl, Nat.le_of_ble_eq_true rfl⟩) (b_preV hVK hP hD [30] rfl rfl 30 rfl rfl) rfl rfl hl.1 rfl (lv_room (Nat.le_of_ble_eq_true rfl)) dL_law__466 ⟨by omega, by omega⟩) hP hD hS hA [30] rfl rfl (fun _ => rfl) (fun r466 uu H locs hq hP hD hS => ?_)
      subst hq
      have hP : va_P D vwCl (LB cY b rr a oo od n k n k fG fW fR fH fA fS fRs fOt fMi fEn fEb fPy fB fCc (nI 2) fto fpay fcol fnow fthn foth fmnr fwts fmap fnxt fO fE).flatten H := hP
      have hD : va_D A (LB cY b rr a oo od n k n k fG fW fR fH fA fS fRs fOt fMi fEn fEb fPy fB fCc (nI 2) fto fpay fcol fnow fthn foth fmnr fwts fmap fnxt fO fE).flatten := hD
      refine lv_iload hx hb dL_law__469 (lv_at hl 1 rfl) ?_
      refine n_icmp_eq (tgt := 476) hx hb dL_law__471 (by decide) (by omega) (by omega) (fun h471 => ?_) (fun h471 => ?_)
      · -- t
        refine lv_iload hx hb dL_law__476 (lv_at hl 1 rfl) ?_
        refine n_if_ne (tgt := 493) hx hb dL_law__478 (by decide) (by omega) (fun h478 => ?_) (fun h478 => ?_)
        · -- t
          refine lv_goto (tgt := 1823) hx hb dL_law__493 (by decide) ?_
          exact K n k g col fG fW fR fH fA fS fRs fOt fMi fEn fEb fPy fB fCc (nI 2) fto fpay fcol fnow fthn foth fmnr fwts fmap fnxt fO fE hI _ _ hP hD hS _ (lv_sub hl [2, 3, 4, 5, 6, 7] rfl)
        · -- f
          exact absurd h478 (by decide)
      · -- f
        exact absurd rfl h471
  · -- not
    refine lv_aload_n hx hb dL_law__428 rfl (lv_at hl 4 rfl) ?_
    refine lv_aload_n hx hb dL_law__429 rfl (lv_at hl 5 rfl) ?_
    refine lv_iload hx hb dL_law__430 (lv_at hl 0 rfl) ?_
    refine lv_iconst (v := nI 1) hx hb dL_law__432 (by decide) ?_
    refine lv_iadd hx hb dL_law__433 ?_
    refine eqi (x' := nI (z0 + 1)) (nI_add _ _) ?_
    refine s_ld hx hb hsc hscl hscA hS (by omega) hL dL_law__434 ?_
    refine lv_aload_n hx hb dL_law__435 rfl (lv_at hl 5 rfl) ?_
    refine lv_iload hx hb dL_law__436 (lv_at hl 0 rfl) ?_
    refine lv_iconst (v := nI 2) hx hb dL_law__438 (by decide) ?_
    refine lv_iadd hx hb dL_law__439 ?_
    refine eqi (x' := nI (z0 + 2)) (nI_add _ _) ?_
    refine s_ld hx hb hsc hscl hscA hS (by omega) hL dL_law__440 ?_
    refine lv_aload_n hx hb dL_law__441 rfl (lv_at hl 2 rfl) ?_
    refine hh_i (CL := [hO b, cO b (nI n) (nI k), [(oo, .inl (cY 1, 1, .inr (.inl fO)))]]) (vx_runSX (As := [.ref (b 0), .int (xs (z0 + 1)), .int (xs (z0 + 2)), .ref oo]) (rest := []) ⟨hx, hb, hml, hown, hts⟩ (c_L_colour_b1 l D cY H.size b n k (xs (z0 + 1)) (xs (z0 + 2)) oo fO hlT (by omega) (by omega) (by omega) (by omega) hc1) (vx_cwSW 4 hts gL_law__L_colour rfl rfl rfl (by decide +kernel) ⟨Nat.le_of_ble_eq_true rfl, Nat.le_of_ble_eq_true rfl⟩) (b_preHS hVK hP hD hS hA hX hH [0, 1, 41] rfl rfl) rfl rfl hl.1 rfl (lv_room (Nat.le_of_ble_eq_true rfl)) dL_law__442 ⟨by omega, by omega⟩) hP hD hS hA [0, 1, 41] rfl rfl (fun _ => rfl) (fun r442 uu H locs hq hP hD hS => ?_)
    subst hq
    have hP : va_P D vwCl (LB cY b rr a oo od n k n k fG fW fR fH fA fS fRs fOt fMi fEn fEb fPy fB fCc th fto fpay fcol fnow fthn foth fmnr fwts fmap fnxt fO fE).flatten H := hP
    have hD : va_D A (LB cY b rr a oo od n k n k fG fW fR fH fA fS fRs fOt fMi fEn fEb fPy fB fCc th fto fpay fcol fnow fthn foth fmnr fwts fmap fnxt fO fE).flatten := hD
    refine lv_istore (lv' := [(6, .int (nI 1)), (5, .int (nI z0)), (4, .ref od), (3, .ref oo), (2, .ref (a 0)), (1, .ref (b 0)), (0, .ref sc)]) hx hb dL_law__445 hl (by decide) rfl (fun ls hl => ?_)
    refine lv_aload_n hx hb dL_law__447 rfl (lv_at hl 4 rfl) ?_
    refine lv_aload_n hx hb dL_law__448 rfl (lv_at hl 6 rfl) ?_
    refine lv_iload hx hb dL_law__449 (lv_at hl 1 rfl) ?_
    refine lv_iconst (v := nI 1) hx hb dL_law__451 (by decide) ?_
    refine lv_iadd hx hb dL_law__452 ?_
    refine eqi (x' := nI (z0 + 1)) (nI_add _ _) ?_
    refine s_ld hx hb hsc hscl hscA hS (by omega) hL dL_law__453 ?_
    refine lv_aload_n hx hb dL_law__454 rfl (lv_at hl 6 rfl) ?_
    refine lv_iload hx hb dL_law__455 (lv_at hl 1 rfl) ?_
    refine lv_iconst (v := nI 2) hx hb dL_law__457 (by decide) ?_
    refine lv_iadd hx hb dL_law__458 ?_
    refine eqi (x' := nI (z0 + 2)) (nI_add _ _) ?_
    refine s_ld hx hb hsc hscl hscA hS (by omega) hL dL_law__459 ?_
    refine ca_i (CL := [mO a (nI n) (nI k) th]) (va_runV (As := [.int (xs (z0 + 1)), .int (xs (z0 + 2))]) (rest := []) ⟨hx, hb, hml, hown, hts⟩ (c_X9_colour_b1 l D cY H.size a n k th (xs (z0 + 1)) (xs (z0 + 2)) (by omega) (by omega) (by omega) (by omega) hc1) (cwV 2 hts gL_law__X9_colour rfl rfl rfl (by decide +kernel) ⟨Nat.le_of_ble_eq_true rfl, Nat.le_of_ble_eq_true rfl⟩) (b_preV hVK hP hD [30] rfl rfl 30 rfl rfl) rfl rfl hl.1 rfl (lv_room (Nat.le_of_ble_eq_true rfl)) dL_law__460 ⟨by omega, by omega⟩) hP hD hS hA [30] rfl rfl (fun _ => rfl) (fun r460 uu H locs hq hP hD hS => ?_)
    subst hq
    have hP : va_P D vwCl (LB cY b rr a oo od n k n k fG fW fR fH fA fS fRs fOt fMi fEn fEb fPy fB fCc (nI 1) fto fpay fcol fnow fthn foth fmnr fwts fmap fnxt fO fE).flatten H := hP
    have hD : va_D A (LB cY b rr a oo od n k n k fG fW fR fH fA fS fRs fOt fMi fEn fEb fPy fB fCc (nI 1) fto fpay fcol fnow fthn foth fmnr fwts fmap fnxt fO fE).flatten := hD
    refine lv_istore (lv' := [(7, .int (nI 0)), (6, .int (nI 1)), (5, .int (nI z0)), (4, .ref od), (3, .ref oo), (2, .ref (a 0)), (1, .ref (b 0)), (0, .ref sc)]) hx hb dL_law__463 hl (by decide) rfl (fun ls hl => ?_)
    refine lv_aload_n hx hb dL_law__465 rfl (lv_at hl 5 rfl) ?_
    refine ca_i (CL := [mO a (nI n) (nI k) (nI 1)]) (va_runV (As := []) (rest := []) ⟨hx, hb, hml, hown, hts⟩ (c_X9_thrown l D cY H.size a n k (nI 1)) (cwV 0 hts gL_law__X9_thrown rfl rfl rfl (by decide +kernel) ⟨Nat.le_of_ble_eq_true rfl, Nat.le_of_ble_eq_true rfl⟩) (b_preV hVK hP hD [30] rfl rfl 30 rfl rfl) rfl rfl hl.1 rfl (lv_room (Nat.le_of_ble_eq_true rfl)) dL_law__466 ⟨by omega, by omega⟩) hP hD hS hA [30] rfl rfl (fun _ => rfl) (fun r466 uu H locs hq hP hD hS => ?_)
    subst hq
    have hP : va_P D vwCl (LB cY b rr a oo od n k n k fG fW fR fH fA fS fRs fOt fMi fEn fEb fPy fB fCc (nI 1) fto fpay fcol fnow fthn foth fmnr fwts fmap fnxt fO fE).flatten H := hP
    have hD : va_D A (LB cY b rr a oo od n k n k fG fW fR fH fA fS fRs fOt fMi fEn fEb fPy fB fCc (nI 1) fto fpay fcol fnow fthn foth fmnr fwts fmap fnxt fO fE).flatten := hD
    refine lv_iload hx hb dL_law__469 (lv_at hl 1 rfl) ?_
    refine n_icmp_eq (tgt := 476) hx hb dL_law__471 (by decide) (by omega) (by omega) (fun h471 => ?_) (fun h471 => ?_)
    · -- t
      refine lv_iload hx hb dL_law__476 (lv_at hl 1 rfl) ?_
      refine n_if_ne (tgt := 493) hx hb dL_law__478 (by decide) (by omega) (fun h478 => ?_) (fun h478 => ?_)
      · -- t
        refine lv_goto (tgt := 1823) hx hb dL_law__493 (by decide) ?_
        exact K n k g col fG fW fR fH fA fS fRs fOt fMi fEn fEb fPy fB fCc (nI 1) fto fpay fcol fnow fthn foth fmnr fwts fmap fnxt fO fE hI _ _ hP hD hS _ (lv_sub hl [2, 3, 4, 5, 6, 7] rfl)
      · -- f
        exact absurd h478 (by decide)
    · -- f
      exact absurd rfl h471

set_option maxHeartbeats 8000000 in
set_option maxRecDepth 100000 in
theorem lc_weight {p : Program} {l : Launch} {e : Env} {s : State} {m : MethodId} {below : List Frame} {meth : Method} {c : Code} {H : Heap} {locs : List Loc} {cells slots : Nat} {Q : State → Prop} {D : va_G} {cY : Nat → ClassId} {A : Nat → Prop} {sc L : Nat} {xs : Nat → Int32} {b : Nat → Nat} {rr : Nat → Nat → Nat} {a : Nat → Nat} {oo od z0 : Nat} {ls : Array Slot} (E : LE p s m sc c D cY A L xs) (hlT : l.stackTraces = false) (hi4 : z0 + 4 ≤ L) (hL : L ≤ 2048) (hroom : cells + 1 ≤ room_1.cells ∧ slots + 6 ≤ room_1.slots) {n k : Nat} {g : Nat → Nat → Nat} {col : Nat → Nat} {fG fW : Nat → Nat → Int32} {fR fH fA fS : Nat → Nat → Int64} {fRs : Nat → Int64} {fOt : Nat → Int32} {fMi : Nat → Int64} {fEn fEb fPy : Nat → Int32} {fB : Nat → Nat → Int64} {fCc : Nat → Int32} {th : Int32} {fto fpay fcol : Nat → Int32} {fnow fthn foth fmnr fwts : Nat → Int64} {fmap fnxt : Nat → Int32} {fO : Nat → Int64} {fE : Nat → UInt64} (hI : LV n k g col fG fW fPy fCc fto fpay fcol) (hP : va_P D vwCl (LB cY b rr a oo od n k n k fG fW fR fH fA fS fRs fOt fMi fEn fEb fPy fB fCc th fto fpay fcol fnow fthn foth fmnr fwts fmap fnxt fO fE).flatten H) (hD : va_D A (LB cY b rr a oo od n k n k fG fW fR fH fA fS fRs fOt fMi fEn fEb fPy fB fCc th fto fpay fcol fnow fthn foth fmnr fwts fmap fnxt fO fE).flatten) (hS : va_S A s.heap H locs) (hl : lv_has ls 9 [(5, .int (nI z0)), (4, .ref od), (3, .ref oo), (2, .ref (a 0)), (1, .ref (b 0)), (0, .ref sc)]) (K : LK p l e s m below meth c sc D cY A b rr a oo od z0 cells slots Q) : W p l e room_1 s m #[Value.ref sc] below meth c H locs cells slots Q (F0 m 496 ls []) := by
  obtain ⟨hx, hb, hml, hts, hown, hK, hVK, hA, hX, hH, hsc, hscl, hscA⟩ := E
  obtain ⟨⟨hn1, hn6, hk1, hk12⟩, hG, hgn, hW, hT, hPy, hC6⟩ := id hI
  rcases Bool.eq_false_or_eq_true (inR (xs (z0 + 1)) (nI 0) (nI (n - 1)) && inR (xs (z0 + 2)) (nI 0) (nI (n - 1))) with hc1 | hc1
  · -- holds
    obtain ⟨hca, hcb⟩ := two_ hc1
    obtain ⟨i, hi_, e1⟩ := inR_of (by omega) hca
    obtain ⟨w, hw_, e2⟩ := inR_of (by omega) hcb
    refine lv_aload_n hx hb dL_law__496 rfl (lv_at hl 4 rfl) ?_
    refine lv_aload_n hx hb dL_law__497 rfl (lv_at hl 5 rfl) ?_
    refine lv_iload hx hb dL_law__498 (lv_at hl 0 rfl) ?_
    refine lv_iconst (v := nI 1) hx hb dL_law__500 (by decide) ?_
    refine lv_iadd hx hb dL_law__501 ?_
    refine eqi (x' := nI (z0 + 1)) (nI_add _ _) ?_
    refine s_ld hx hb hsc hscl hscA hS (by omega) hL dL_law__502 ?_
    refine eqi (x' := nI i) e1 ?_
    refine lv_aload_n hx hb dL_law__503 rfl (lv_at hl 5 rfl) ?_
    refine lv_iload hx hb dL_law__504 (lv_at hl 0 rfl) ?_
    refine lv_iconst (v := nI 2) hx hb dL_law__506 (by decide) ?_
    refine lv_iadd hx hb dL_law__507 ?_
    refine eqi (x' := nI (z0 + 2)) (nI_add _ _) ?_
    refine s_ld hx hb hsc hscl hscA hS (by omega) hL dL_law__508 ?_
    refine eqi (x' := nI w) e2 ?_
    refine lv_aload_n hx hb dL_law__509 rfl (lv_at hl 2 rfl) ?_
    refine hh_i (CL := [hO b, cO b (nI n) (nI k), oQ (cY 2) (b 3) (rr 1) 6, gI (cY 0) (rr 1) 6 fW 6, [(oo, .inl (cY 1, 1, .inr (.inl fO)))]]) (vx_runSX (As := [.ref (b 0), .int (nI i), .int (nI w), .ref oo]) (rest := []) ⟨hx, hb, hml, hown, hts⟩ (c_L_weight_ok l D cY H.size b rr n k fW g i w oo fO (by omega) (by omega) (by omega) (by omega) hW (by omega) (by omega)) (vx_cwSW 4 hts gL_law__L_weight rfl rfl rfl (by decide +kernel) ⟨Nat.le_of_ble_eq_true rfl, Nat.le_of_ble_eq_true rfl⟩) (b_preHS hVK hP hD hS hA hX hH [0, 1, 4, 5, 41] rfl rfl) rfl rfl hl.1 rfl (lv_room (Nat.le_of_ble_eq_true rfl)) dL_law__510 ⟨by omega, by omega⟩) hP hD hS hA [0, 1, 4, 5, 41] rfl rfl (fun _ => rfl) (fun r510 uu H locs hq hP hD hS => ?_)
    subst hq
    have hP : va_P D vwCl (LB cY b rr a oo od n k n k fG fW fR fH fA fS fRs fOt fMi fEn fEb fPy fB fCc th fto fpay fcol fnow fthn foth fmnr fwts fmap fnxt (vp_updL fO 0 ((nI (cnt (g i) w k)).toInt64)) fE).flatten H := hP
    have hD : va_D A (LB cY b rr a oo od n k n k fG fW fR fH fA fS fRs fOt fMi fEn fEb fPy fB fCc th fto fpay fcol fnow fthn foth fmnr fwts fmap fnxt (vp_updL fO 0 ((nI (cnt (g i) w k)).toInt64)) fE).flatten := hD
    refine lv_istore (lv' := [(6, .int (nI 0)), (5, .int (nI z0)), (4, .ref od), (3, .ref oo), (2, .ref (a 0)), (1, .ref (b 0)), (0, .ref sc)]) hx hb dL_law__513 hl (by decide) rfl (fun ls hl => ?_)
    refine lv_aload_n hx hb dL_law__515 rfl (lv_at hl 4 rfl) ?_
    refine lv_aload_n hx hb dL_law__516 rfl (lv_at hl 6 rfl) ?_
    refine lv_iload hx hb dL_law__517 (lv_at hl 1 rfl) ?_
    refine lv_iconst (v := nI 1) hx hb dL_law__519 (by decide) ?_
    refine lv_iadd hx hb dL_law__520 ?_
    refine eqi (x' := nI (z0 + 1)) (nI_add _ _) ?_
    refine s_ld hx hb hsc hscl hscA hS (by omega) hL dL_law__521 ?_
    refine eqi (x' := nI i) e1 ?_
    refine lv_aload_n hx hb dL_law__522 rfl (lv_at hl 6 rfl) ?_
    refine lv_iload hx hb dL_law__523 (lv_at hl 1 rfl) ?_
    refine lv_iconst (v := nI 2) hx hb dL_law__525 (by decide) ?_
    refine lv_iadd hx hb dL_law__526 ?_
    refine eqi (x' := nI (z0 + 2)) (nI_add _ _) ?_
    refine s_ld hx hb hsc hscl hscA hS (by omega) hL dL_law__527 ?_
    refine eqi (x' := nI w) e2 ?_
    refine ca_i (CL := [mO a (nI n) (nI k) th, [(a 1, .inl (cY 0, 72, .inl fto))]]) (va_runV (As := [.int (nI i), .int (nI w)]) (rest := []) ⟨hx, hb, hml, hown, hts⟩ (c_X9_weight_ok l D cY H.size a n k th fto g i w (by omega) (by omega) (by omega) (by omega) hT hgn (by omega) (by omega)) (cwV 2 hts gL_law__X9_weight rfl rfl rfl (by decide +kernel) ⟨Nat.le_of_ble_eq_true rfl, Nat.le_of_ble_eq_true rfl⟩) (b_preV hVK hP hD [30, 31] rfl rfl 30 rfl rfl) rfl rfl hl.1 rfl (lv_room (Nat.le_of_ble_eq_true rfl)) dL_law__528 ⟨by omega, by omega⟩) hP hD hS hA [30, 31] rfl rfl (fun _ => rfl) (fun r528 uu H locs hq hP hD hS => ?_)
    subst hq
    have hP : va_P D vwCl (LB cY b rr a oo od n k n k fG fW fR fH fA fS fRs fOt fMi fEn fEb fPy fB fCc (nI 0) fto fpay fcol fnow fthn foth fmnr fwts fmap fnxt (vp_updL fO 0 ((nI (cnt (g i) w k)).toInt64)) fE).flatten H := hP
    have hD : va_D A (LB cY b rr a oo od n k n k fG fW fR fH fA fS fRs fOt fMi fEn fEb fPy fB fCc (nI 0) fto fpay fcol fnow fthn foth fmnr fwts fmap fnxt (vp_updL fO 0 ((nI (cnt (g i) w k)).toInt64)) fE).flatten := hD
    refine lv_istore (lv' := [(7, .int (nI (cnt (g i) w k))), (6, .int (nI 0)), (5, .int (nI z0)), (4, .ref od), (3, .ref oo), (2, .ref (a 0)), (1, .ref (b 0)), (0, .ref sc)]) hx hb dL_law__531 hl (by decide) rfl (fun ls hl => ?_)
    refine lv_aload_n hx hb dL_law__533 rfl (lv_at hl 5 rfl) ?_
    refine ca_i (CL := [mO a (nI n) (nI k) (nI 0)]) (va_runV (As := []) (rest := []) ⟨hx, hb, hml, hown, hts⟩ (c_X9_thrown l D cY H.size a n k (nI 0)) (cwV 0 hts gL_law__X9_thrown rfl rfl rfl (by decide +kernel) ⟨Nat.le_of_ble_eq_true rfl, Nat.le_of_ble_eq_true rfl⟩) (b_preV hVK hP hD [30] rfl rfl 30 rfl rfl) rfl rfl hl.1 rfl (lv_room (Nat.le_of_ble_eq_true rfl)) dL_law__534 ⟨by omega, by omega⟩) hP hD hS hA [30] rfl rfl (fun _ => rfl) (fun r534 uu H locs hq hP hD hS => ?_)
    subst hq
    have hP : va_P D vwCl (LB cY b rr a oo od n k n k fG fW fR fH fA fS fRs fOt fMi fEn fEb fPy fB fCc (nI 0) fto fpay fcol fnow fthn foth fmnr fwts fmap fnxt (vp_updL fO 0 ((nI (cnt (g i) w k)).toInt64)) fE).flatten H := hP
    have hD : va_D A (LB cY b rr a oo od n k n k fG fW fR fH fA fS fRs fOt fMi fEn fEb fPy fB fCc (nI 0) fto fpay fcol fnow fthn foth fmnr fwts fmap fnxt (vp_updL fO 0 ((nI (cnt (g i) w k)).toInt64)) fE).flatten := hD
    refine lv_iload hx hb dL_law__537 (lv_at hl 1 rfl) ?_
    refine n_icmp_eq (tgt := 544) hx hb dL_law__539 (by decide) (by omega) (by omega) (fun h539 => ?_) (fun h539 => ?_)
    · -- t
      refine lv_iload hx hb dL_law__544 (lv_at hl 1 rfl) ?_
      refine n_if_ne (tgt := 561) hx hb dL_law__546 (by decide) (by omega) (fun h546 => ?_) (fun h546 => ?_)
      · -- t
        exact absurd rfl h546
      · -- f
        refine lv_aload_n hx hb dL_law__549 rfl (lv_at hl 4 rfl) ?_
        refine lv_iconst (v := nI 0) hx hb dL_law__550 (by decide) ?_
        refine b_lald hx hb hK hP 41 1 rfl rfl (by omega) (by omega) dL_law__551 ?_
        refine eql (x' := (nI (cnt (g i) w k)).toInt64) pk_uLs ?_
        refine lv_iload hx hb dL_law__552 (lv_at hl 0 rfl) ?_
        refine lv_i2l (v := (nI (cnt (g i) w k)).toInt64) hx hb dL_law__554 rfl ?_
        refine W.lcmp hx hb dL_law__555 ?_
        refine l_if_eq (tgt := 561) hx hb dL_law__556 (by decide) (fun h556 => ?_) (fun h556 => ?_)
        · -- t
          refine lv_goto (tgt := 1823) hx hb dL_law__561 (by decide) ?_
          refine W.widen (Nat.le_add_right cells 1) (Nat.le_add_right slots 6) ?_
          exact K n k g col fG fW fR fH fA fS fRs fOt fMi fEn fEb fPy fB fCc (nI 0) fto fpay fcol fnow fthn foth fmnr fwts fmap fnxt (vp_updL fO 0 ((nI (cnt (g i) w k)).toInt64)) fE hI _ _ hP hD hS _ (lv_sub hl [2, 3, 4, 5, 6, 7] rfl)
        · -- f
          exact absurd (rfl) h556
    · -- f
      exact absurd rfl h539
  · -- not
    refine lv_aload_n hx hb dL_law__496 rfl (lv_at hl 4 rfl) ?_
    refine lv_aload_n hx hb dL_law__497 rfl (lv_at hl 5 rfl) ?_
    refine lv_iload hx hb dL_law__498 (lv_at hl 0 rfl) ?_
    refine lv_iconst (v := nI 1) hx hb dL_law__500 (by decide) ?_
    refine lv_iadd hx hb dL_law__501 ?_
    refine eqi (x' := nI (z0 + 1)) (nI_add _ _) ?_
    refine s_ld hx hb hsc hscl hscA hS (by omega) hL dL_law__502 ?_
    refine lv_aload_n hx hb dL_law__503 rfl (lv_at hl 5 rfl) ?_
    refine lv_iload hx hb dL_law__504 (lv_at hl 0 rfl) ?_
    refine lv_iconst (v := nI 2) hx hb dL_law__506 (by decide) ?_
    refine lv_iadd hx hb dL_law__507 ?_
    refine eqi (x' := nI (z0 + 2)) (nI_add _ _) ?_
    refine s_ld hx hb hsc hscl hscA hS (by omega) hL dL_law__508 ?_
    refine lv_aload_n hx hb dL_law__509 rfl (lv_at hl 2 rfl) ?_
    refine hh_i (CL := [hO b, cO b (nI n) (nI k), [(oo, .inl (cY 1, 1, .inr (.inl fO)))]]) (vx_runSX (As := [.ref (b 0), .int (xs (z0 + 1)), .int (xs (z0 + 2)), .ref oo]) (rest := []) ⟨hx, hb, hml, hown, hts⟩ (c_L_weight_bad l D cY H.size b n k (xs (z0 + 1)) (xs (z0 + 2)) oo fO hlT (by omega) (by omega) (by omega) (by omega) hc1) (vx_cwSW 4 hts gL_law__L_weight rfl rfl rfl (by decide +kernel) ⟨Nat.le_of_ble_eq_true rfl, Nat.le_of_ble_eq_true rfl⟩) (b_preHS hVK hP hD hS hA hX hH [0, 1, 41] rfl rfl) rfl rfl hl.1 rfl (lv_room (Nat.le_of_ble_eq_true rfl)) dL_law__510 ⟨by omega, by omega⟩) hP hD hS hA [0, 1, 41] rfl rfl (fun _ => rfl) (fun r510 uu H locs hq hP hD hS => ?_)
    subst hq
    have hP : va_P D vwCl (LB cY b rr a oo od n k n k fG fW fR fH fA fS fRs fOt fMi fEn fEb fPy fB fCc th fto fpay fcol fnow fthn foth fmnr fwts fmap fnxt fO fE).flatten H := hP
    have hD : va_D A (LB cY b rr a oo od n k n k fG fW fR fH fA fS fRs fOt fMi fEn fEb fPy fB fCc th fto fpay fcol fnow fthn foth fmnr fwts fmap fnxt fO fE).flatten := hD
    refine lv_istore (lv' := [(6, .int (nI 1)), (5, .int (nI z0)), (4, .ref od), (3, .ref oo), (2, .ref (a 0)), (1, .ref (b 0)), (0, .ref sc)]) hx hb dL_law__513 hl (by decide) rfl (fun ls hl => ?_)
    refine lv_aload_n hx hb dL_law__515 rfl (lv_at hl 4 rfl) ?_
    refine lv_aload_n hx hb dL_law__516 rfl (lv_at hl 6 rfl) ?_
    refine lv_iload hx hb dL_law__517 (lv_at hl 1 rfl) ?_
    refine lv_iconst (v := nI 1) hx hb dL_law__519 (by decide) ?_
    refine lv_iadd hx hb dL_law__520 ?_
    refine eqi (x' := nI (z0 + 1)) (nI_add _ _) ?_
    refine s_ld hx hb hsc hscl hscA hS (by omega) hL dL_law__521 ?_
    refine lv_aload_n hx hb dL_law__522 rfl (lv_at hl 6 rfl) ?_
    refine lv_iload hx hb dL_law__523 (lv_at hl 1 rfl) ?_
    refine lv_iconst (v := nI 2) hx hb dL_law__525 (by decide) ?_
    refine lv_iadd hx hb dL_law__526 ?_
    refine eqi (x' := nI (z0 + 2)) (nI_add _ _) ?_
    refine s_ld hx hb hsc hscl hscA hS (by omega) hL dL_law__527 ?_
    refine ca_i (CL := [mO a (nI n) (nI k) th]) (va_runV (As := [.int (xs (z0 + 1)), .int (xs (z0 + 2))]) (rest := []) ⟨hx, hb, hml, hown, hts⟩ (c_X9_weight_bad l D cY H.size a n k th (xs (z0 + 1)) (xs (z0 + 2)) (by omega) (by omega) (by omega) (by omega) hc1) (cwV 2 hts gL_law__X9_weight rfl rfl rfl (by decide +kernel) ⟨Nat.le_of_ble_eq_true rfl, Nat.le_of_ble_eq_true rfl⟩) (b_preV hVK hP hD [30] rfl rfl 30 rfl rfl) rfl rfl hl.1 rfl (lv_room (Nat.le_of_ble_eq_true rfl)) dL_law__528 ⟨by omega, by omega⟩) hP hD hS hA [30] rfl rfl (fun _ => rfl) (fun r528 uu H locs hq hP hD hS => ?_)
    subst hq
    have hP : va_P D vwCl (LB cY b rr a oo od n k n k fG fW fR fH fA fS fRs fOt fMi fEn fEb fPy fB fCc (nI 1) fto fpay fcol fnow fthn foth fmnr fwts fmap fnxt fO fE).flatten H := hP
    have hD : va_D A (LB cY b rr a oo od n k n k fG fW fR fH fA fS fRs fOt fMi fEn fEb fPy fB fCc (nI 1) fto fpay fcol fnow fthn foth fmnr fwts fmap fnxt fO fE).flatten := hD
    refine lv_istore (lv' := [(7, .int (nI 0)), (6, .int (nI 1)), (5, .int (nI z0)), (4, .ref od), (3, .ref oo), (2, .ref (a 0)), (1, .ref (b 0)), (0, .ref sc)]) hx hb dL_law__531 hl (by decide) rfl (fun ls hl => ?_)
    refine lv_aload_n hx hb dL_law__533 rfl (lv_at hl 5 rfl) ?_
    refine ca_i (CL := [mO a (nI n) (nI k) (nI 1)]) (va_runV (As := []) (rest := []) ⟨hx, hb, hml, hown, hts⟩ (c_X9_thrown l D cY H.size a n k (nI 1)) (cwV 0 hts gL_law__X9_thrown rfl rfl rfl (by decide +kernel) ⟨Nat.le_of_ble_eq_true rfl, Nat.le_of_ble_eq_true rfl⟩) (b_preV hVK hP hD [30] rfl rfl 30 rfl rfl) rfl rfl hl.1 rfl (lv_room (Nat.le_of_ble_eq_true rfl)) dL_law__534 ⟨by omega, by omega⟩) hP hD hS hA [30] rfl rfl (fun _ => rfl) (fun r534 uu H locs hq hP hD hS => ?_)
    subst hq
    have hP : va_P D vwCl (LB cY b rr a oo od n k n k fG fW fR fH fA fS fRs fOt fMi fEn fEb fPy fB fCc (nI 1) fto fpay fcol fnow fthn foth fmnr fwts fmap fnxt fO fE).flatten H := hP
    have hD : va_D A (LB cY b rr a oo od n k n k fG fW fR fH fA fS fRs fOt fMi fEn fEb fPy fB fCc (nI 1) fto fpay fcol fnow fthn foth fmnr fwts fmap fnxt fO fE).flatten := hD
    refine lv_iload hx hb dL_law__537 (lv_at hl 1 rfl) ?_
    refine n_icmp_eq (tgt := 544) hx hb dL_law__539 (by decide) (by omega) (by omega) (fun h539 => ?_) (fun h539 => ?_)
    · -- t
      refine lv_iload hx hb dL_law__544 (lv_at hl 1 rfl) ?_
      refine n_if_ne (tgt := 561) hx hb dL_law__546 (by decide) (by omega) (fun h546 => ?_) (fun h546 => ?_)
      · -- t
        refine lv_goto (tgt := 1823) hx hb dL_law__561 (by decide) ?_
        exact K n k g col fG fW fR fH fA fS fRs fOt fMi fEn fEb fPy fB fCc (nI 1) fto fpay fcol fnow fthn foth fmnr fwts fmap fnxt fO fE hI _ _ hP hD hS _ (lv_sub hl [2, 3, 4, 5, 6, 7] rfl)
      · -- f
        exact absurd h546 (by decide)
    · -- f
      exact absurd rfl h539

set_option maxHeartbeats 8000000 in
set_option maxRecDepth 100000 in
theorem lc_words {p : Program} {l : Launch} {e : Env} {s : State} {m : MethodId} {below : List Frame} {meth : Method} {c : Code} {H : Heap} {locs : List Loc} {cells slots : Nat} {Q : State → Prop} {D : va_G} {cY : Nat → ClassId} {A : Nat → Prop} {sc L : Nat} {xs : Nat → Int32} {b : Nat → Nat} {rr : Nat → Nat → Nat} {a : Nat → Nat} {oo od z0 : Nat} {ls : Array Slot} (E : LE p s m sc c D cY A L xs) (hlT : l.stackTraces = false) (hi4 : z0 + 4 ≤ L) (hL : L ≤ 2048) (hroom : cells + 1 ≤ room_1.cells ∧ slots + 6 ≤ room_1.slots) {n k : Nat} {g : Nat → Nat → Nat} {col : Nat → Nat} {fG fW : Nat → Nat → Int32} {fR fH fA fS : Nat → Nat → Int64} {fRs : Nat → Int64} {fOt : Nat → Int32} {fMi : Nat → Int64} {fEn fEb fPy : Nat → Int32} {fB : Nat → Nat → Int64} {fCc : Nat → Int32} {th : Int32} {fto fpay fcol : Nat → Int32} {fnow fthn foth fmnr fwts : Nat → Int64} {fmap fnxt : Nat → Int32} {fO : Nat → Int64} {fE : Nat → UInt64} (hI : LV n k g col fG fW fPy fCc fto fpay fcol) (hP : va_P D vwCl (LB cY b rr a oo od n k n k fG fW fR fH fA fS fRs fOt fMi fEn fEb fPy fB fCc th fto fpay fcol fnow fthn foth fmnr fwts fmap fnxt fO fE).flatten H) (hD : va_D A (LB cY b rr a oo od n k n k fG fW fR fH fA fS fRs fOt fMi fEn fEb fPy fB fCc th fto fpay fcol fnow fthn foth fmnr fwts fmap fnxt fO fE).flatten) (hS : va_S A s.heap H locs) (hl : lv_has ls 9 [(5, .int (nI z0)), (4, .ref od), (3, .ref oo), (2, .ref (a 0)), (1, .ref (b 0)), (0, .ref sc)]) (K : LK p l e s m below meth c sc D cY A b rr a oo od z0 cells slots Q) : W p l e room_1 s m #[Value.ref sc] below meth c H locs cells slots Q (F0 m 564 ls []) := by
  obtain ⟨hx, hb, hml, hts, hown, hK, hVK, hA, hX, hH, hsc, hscl, hscA⟩ := E
  obtain ⟨⟨hn1, hn6, hk1, hk12⟩, hG, hgn, hW, hT, hPy, hC6⟩ := id hI
  rcases Bool.eq_false_or_eq_true (inR (xs (z0 + 1)) (nI 0) (nI 12)) with hc1 | hc1
  · -- holds
    obtain ⟨t, ht_, e1⟩ := inR_of (by omega) hc1
    refine lv_aload_n hx hb dL_law__564 rfl (lv_at hl 4 rfl) ?_
    refine lv_aload_n hx hb dL_law__565 rfl (lv_at hl 5 rfl) ?_
    refine lv_iload hx hb dL_law__566 (lv_at hl 0 rfl) ?_
    refine lv_iconst (v := nI 1) hx hb dL_law__568 (by decide) ?_
    refine lv_iadd hx hb dL_law__569 ?_
    refine eqi (x' := nI (z0 + 1)) (nI_add _ _) ?_
    refine s_ld hx hb hsc hscl hscA hS (by omega) hL dL_law__570 ?_
    refine eqi (x' := nI t) e1 ?_
    refine lv_aload_n hx hb dL_law__571 rfl (lv_at hl 2 rfl) ?_
    refine hh_i (CL := [hO b, cO b (nI n) (nI k), [(oo, .inl (cY 1, 1, .inr (.inl fO)))]]) (vx_runSX (As := [.ref (b 0), .int (nI t), .ref oo]) (rest := []) ⟨hx, hb, hml, hown, hts⟩ (c_L_words_ok l D cY H.size b n k g t oo fO (by omega) (by omega) (by omega) (by omega) (by omega)) (vx_cwSW 3 hts gL_law__L_words rfl rfl rfl (by decide +kernel) ⟨Nat.le_of_ble_eq_true rfl, Nat.le_of_ble_eq_true rfl⟩) (b_preHS hVK hP hD hS hA hX hH [0, 1, 41] rfl rfl) rfl rfl hl.1 rfl (lv_room (Nat.le_of_ble_eq_true rfl)) dL_law__572 ⟨by omega, by omega⟩) hP hD hS hA [0, 1, 41] rfl rfl (fun _ => rfl) (fun r572 uu H locs hq hP hD hS => ?_)
    subst hq
    have hP : va_P D vwCl (LB cY b rr a oo od n k n k fG fW fR fH fA fS fRs fOt fMi fEn fEb fPy fB fCc th fto fpay fcol fnow fthn foth fmnr fwts fmap fnxt (vp_updL fO 0 (lN (k ^ t))) fE).flatten H := hP
    have hD : va_D A (LB cY b rr a oo od n k n k fG fW fR fH fA fS fRs fOt fMi fEn fEb fPy fB fCc th fto fpay fcol fnow fthn foth fmnr fwts fmap fnxt (vp_updL fO 0 (lN (k ^ t))) fE).flatten := hD
    refine lv_istore (lv' := [(6, .int (nI 0)), (5, .int (nI z0)), (4, .ref od), (3, .ref oo), (2, .ref (a 0)), (1, .ref (b 0)), (0, .ref sc)]) hx hb dL_law__575 hl (by decide) rfl (fun ls hl => ?_)
    refine lv_aload_n hx hb dL_law__577 rfl (lv_at hl 4 rfl) ?_
    refine lv_aload_n hx hb dL_law__578 rfl (lv_at hl 6 rfl) ?_
    refine lv_iload hx hb dL_law__579 (lv_at hl 1 rfl) ?_
    refine lv_iconst (v := nI 1) hx hb dL_law__581 (by decide) ?_
    refine lv_iadd hx hb dL_law__582 ?_
    refine eqi (x' := nI (z0 + 1)) (nI_add _ _) ?_
    refine s_ld hx hb hsc hscl hscA hS (by omega) hL dL_law__583 ?_
    refine eqi (x' := nI t) e1 ?_
    refine ca_l (CL := [mO a (nI n) (nI k) th]) (va_runV (As := [.int (nI t)]) (rest := []) ⟨hx, hb, hml, hown, hts⟩ (c_X9_words_ok l D cY H.size a n k th t (by omega) (by omega) (by omega) (by omega) (by omega)) (cwV 1 hts gL_law__X9_words rfl rfl rfl (by decide +kernel) ⟨Nat.le_of_ble_eq_true rfl, Nat.le_of_ble_eq_true rfl⟩) (b_preV hVK hP hD [30] rfl rfl 30 rfl rfl) rfl rfl hl.1 rfl (lv_room (Nat.le_of_ble_eq_true rfl)) dL_law__584 ⟨by omega, by omega⟩) hP hD hS hA [30] rfl rfl (fun _ => rfl) (fun r584 uu H locs hq hP hD hS => ?_)
    subst hq
    have hP : va_P D vwCl (LB cY b rr a oo od n k n k fG fW fR fH fA fS fRs fOt fMi fEn fEb fPy fB fCc (nI 0) fto fpay fcol fnow fthn foth fmnr fwts fmap fnxt (vp_updL fO 0 (lN (k ^ t))) fE).flatten H := hP
    have hD : va_D A (LB cY b rr a oo od n k n k fG fW fR fH fA fS fRs fOt fMi fEn fEb fPy fB fCc (nI 0) fto fpay fcol fnow fthn foth fmnr fwts fmap fnxt (vp_updL fO 0 (lN (k ^ t))) fE).flatten := hD
    refine lv_lstore (lv' := [(7, .long (lN (k ^ t))), (6, .int (nI 0)), (5, .int (nI z0)), (4, .ref od), (3, .ref oo), (2, .ref (a 0)), (1, .ref (b 0)), (0, .ref sc)]) hx hb dL_law__587 hl (by decide) rfl (fun ls hl => ?_)
    refine lv_aload_n hx hb dL_law__589 rfl (lv_at hl 5 rfl) ?_
    refine ca_i (CL := [mO a (nI n) (nI k) (nI 0)]) (va_runV (As := []) (rest := []) ⟨hx, hb, hml, hown, hts⟩ (c_X9_thrown l D cY H.size a n k (nI 0)) (cwV 0 hts gL_law__X9_thrown rfl rfl rfl (by decide +kernel) ⟨Nat.le_of_ble_eq_true rfl, Nat.le_of_ble_eq_true rfl⟩) (b_preV hVK hP hD [30] rfl rfl 30 rfl rfl) rfl rfl hl.1 rfl (lv_room (Nat.le_of_ble_eq_true rfl)) dL_law__590 ⟨by omega, by omega⟩) hP hD hS hA [30] rfl rfl (fun _ => rfl) (fun r590 uu H locs hq hP hD hS => ?_)
    subst hq
    have hP : va_P D vwCl (LB cY b rr a oo od n k n k fG fW fR fH fA fS fRs fOt fMi fEn fEb fPy fB fCc (nI 0) fto fpay fcol fnow fthn foth fmnr fwts fmap fnxt (vp_updL fO 0 (lN (k ^ t))) fE).flatten H := hP
    have hD : va_D A (LB cY b rr a oo od n k n k fG fW fR fH fA fS fRs fOt fMi fEn fEb fPy fB fCc (nI 0) fto fpay fcol fnow fthn foth fmnr fwts fmap fnxt (vp_updL fO 0 (lN (k ^ t))) fE).flatten := hD
    refine lv_iload hx hb dL_law__593 (lv_at hl 1 rfl) ?_
    refine n_icmp_eq (tgt := 600) hx hb dL_law__595 (by decide) (by omega) (by omega) (fun h595 => ?_) (fun h595 => ?_)
    · -- t
      refine lv_iload hx hb dL_law__600 (lv_at hl 1 rfl) ?_
      refine n_if_ne (tgt := 616) hx hb dL_law__602 (by decide) (by omega) (fun h602 => ?_) (fun h602 => ?_)
      · -- t
        exact absurd rfl h602
      · -- f
        refine lv_aload_n hx hb dL_law__605 rfl (lv_at hl 4 rfl) ?_
        refine lv_iconst (v := nI 0) hx hb dL_law__606 (by decide) ?_
        refine b_lald hx hb hK hP 41 1 rfl rfl (by omega) (by omega) dL_law__607 ?_
        refine eql (x' := lN (k ^ t)) pk_uLs ?_
        refine lv_lload hx hb dL_law__608 (lv_at hl 0 rfl) ?_
        refine W.lcmp hx hb dL_law__610 ?_
        refine l_if_eq (tgt := 616) hx hb dL_law__611 (by decide) (fun h611 => ?_) (fun h611 => ?_)
        · -- t
          refine lv_goto (tgt := 1823) hx hb dL_law__616 (by decide) ?_
          refine W.widen (Nat.le_add_right cells 1) (Nat.le_add_right slots 6) ?_
          exact K n k g col fG fW fR fH fA fS fRs fOt fMi fEn fEb fPy fB fCc (nI 0) fto fpay fcol fnow fthn foth fmnr fwts fmap fnxt (vp_updL fO 0 (lN (k ^ t))) fE hI _ _ hP hD hS _ (lv_sub hl [2, 3, 4, 5, 6, 7] rfl)
        · -- f
          exact absurd (rfl) h611
    · -- f
      exact absurd rfl h595
  · -- not
    refine lv_aload_n hx hb dL_law__564 rfl (lv_at hl 4 rfl) ?_
    refine lv_aload_n hx hb dL_law__565 rfl (lv_at hl 5 rfl) ?_
    refine lv_iload hx hb dL_law__566 (lv_at hl 0 rfl) ?_
    refine lv_iconst (v := nI 1) hx hb dL_law__568 (by decide) ?_
    refine lv_iadd hx hb dL_law__569 ?_
    refine eqi (x' := nI (z0 + 1)) (nI_add _ _) ?_
    refine s_ld hx hb hsc hscl hscA hS (by omega) hL dL_law__570 ?_
    refine lv_aload_n hx hb dL_law__571 rfl (lv_at hl 2 rfl) ?_
    refine hh_i (CL := [hO b, cO b (nI n) (nI k), [(oo, .inl (cY 1, 1, .inr (.inl fO)))]]) (vx_runSX (As := [.ref (b 0), .int (xs (z0 + 1)), .ref oo]) (rest := []) ⟨hx, hb, hml, hown, hts⟩ (c_L_words_bad l D cY H.size b n k (xs (z0 + 1)) oo fO hlT (by omega) (by omega) (by omega) (by omega) hc1) (vx_cwSW 3 hts gL_law__L_words rfl rfl rfl (by decide +kernel) ⟨Nat.le_of_ble_eq_true rfl, Nat.le_of_ble_eq_true rfl⟩) (b_preHS hVK hP hD hS hA hX hH [0, 1, 41] rfl rfl) rfl rfl hl.1 rfl (lv_room (Nat.le_of_ble_eq_true rfl)) dL_law__572 ⟨by omega, by omega⟩) hP hD hS hA [0, 1, 41] rfl rfl (fun _ => rfl) (fun r572 uu H locs hq hP hD hS => ?_)
    subst hq
    have hP : va_P D vwCl (LB cY b rr a oo od n k n k fG fW fR fH fA fS fRs fOt fMi fEn fEb fPy fB fCc th fto fpay fcol fnow fthn foth fmnr fwts fmap fnxt fO fE).flatten H := hP
    have hD : va_D A (LB cY b rr a oo od n k n k fG fW fR fH fA fS fRs fOt fMi fEn fEb fPy fB fCc th fto fpay fcol fnow fthn foth fmnr fwts fmap fnxt fO fE).flatten := hD
    refine lv_istore (lv' := [(6, .int (nI 1)), (5, .int (nI z0)), (4, .ref od), (3, .ref oo), (2, .ref (a 0)), (1, .ref (b 0)), (0, .ref sc)]) hx hb dL_law__575 hl (by decide) rfl (fun ls hl => ?_)
    refine lv_aload_n hx hb dL_law__577 rfl (lv_at hl 4 rfl) ?_
    refine lv_aload_n hx hb dL_law__578 rfl (lv_at hl 6 rfl) ?_
    refine lv_iload hx hb dL_law__579 (lv_at hl 1 rfl) ?_
    refine lv_iconst (v := nI 1) hx hb dL_law__581 (by decide) ?_
    refine lv_iadd hx hb dL_law__582 ?_
    refine eqi (x' := nI (z0 + 1)) (nI_add _ _) ?_
    refine s_ld hx hb hsc hscl hscA hS (by omega) hL dL_law__583 ?_
    refine ca_l (CL := [mO a (nI n) (nI k) th]) (va_runV (As := [.int (xs (z0 + 1))]) (rest := []) ⟨hx, hb, hml, hown, hts⟩ (c_X9_words_bad l D cY H.size a n k th (xs (z0 + 1)) (by omega) (by omega) (by omega) (by omega) hc1) (cwV 1 hts gL_law__X9_words rfl rfl rfl (by decide +kernel) ⟨Nat.le_of_ble_eq_true rfl, Nat.le_of_ble_eq_true rfl⟩) (b_preV hVK hP hD [30] rfl rfl 30 rfl rfl) rfl rfl hl.1 rfl (lv_room (Nat.le_of_ble_eq_true rfl)) dL_law__584 ⟨by omega, by omega⟩) hP hD hS hA [30] rfl rfl (fun _ => rfl) (fun r584 uu H locs hq hP hD hS => ?_)
    subst hq
    have hP : va_P D vwCl (LB cY b rr a oo od n k n k fG fW fR fH fA fS fRs fOt fMi fEn fEb fPy fB fCc (nI 1) fto fpay fcol fnow fthn foth fmnr fwts fmap fnxt fO fE).flatten H := hP
    have hD : va_D A (LB cY b rr a oo od n k n k fG fW fR fH fA fS fRs fOt fMi fEn fEb fPy fB fCc (nI 1) fto fpay fcol fnow fthn foth fmnr fwts fmap fnxt fO fE).flatten := hD
    refine lv_lstore (lv' := [(7, .long (lN 0)), (6, .int (nI 1)), (5, .int (nI z0)), (4, .ref od), (3, .ref oo), (2, .ref (a 0)), (1, .ref (b 0)), (0, .ref sc)]) hx hb dL_law__587 hl (by decide) rfl (fun ls hl => ?_)
    refine lv_aload_n hx hb dL_law__589 rfl (lv_at hl 5 rfl) ?_
    refine ca_i (CL := [mO a (nI n) (nI k) (nI 1)]) (va_runV (As := []) (rest := []) ⟨hx, hb, hml, hown, hts⟩ (c_X9_thrown l D cY H.size a n k (nI 1)) (cwV 0 hts gL_law__X9_thrown rfl rfl rfl (by decide +kernel) ⟨Nat.le_of_ble_eq_true rfl, Nat.le_of_ble_eq_true rfl⟩) (b_preV hVK hP hD [30] rfl rfl 30 rfl rfl) rfl rfl hl.1 rfl (lv_room (Nat.le_of_ble_eq_true rfl)) dL_law__590 ⟨by omega, by omega⟩) hP hD hS hA [30] rfl rfl (fun _ => rfl) (fun r590 uu H locs hq hP hD hS => ?_)
    subst hq
    have hP : va_P D vwCl (LB cY b rr a oo od n k n k fG fW fR fH fA fS fRs fOt fMi fEn fEb fPy fB fCc (nI 1) fto fpay fcol fnow fthn foth fmnr fwts fmap fnxt fO fE).flatten H := hP
    have hD : va_D A (LB cY b rr a oo od n k n k fG fW fR fH fA fS fRs fOt fMi fEn fEb fPy fB fCc (nI 1) fto fpay fcol fnow fthn foth fmnr fwts fmap fnxt fO fE).flatten := hD
    refine lv_iload hx hb dL_law__593 (lv_at hl 1 rfl) ?_
    refine n_icmp_eq (tgt := 600) hx hb dL_law__595 (by decide) (by omega) (by omega) (fun h595 => ?_) (fun h595 => ?_)
    · -- t
      refine lv_iload hx hb dL_law__600 (lv_at hl 1 rfl) ?_
      refine n_if_ne (tgt := 616) hx hb dL_law__602 (by decide) (by omega) (fun h602 => ?_) (fun h602 => ?_)
      · -- t
        refine lv_goto (tgt := 1823) hx hb dL_law__616 (by decide) ?_
        exact K n k g col fG fW fR fH fA fS fRs fOt fMi fEn fEb fPy fB fCc (nI 1) fto fpay fcol fnow fthn foth fmnr fwts fmap fnxt fO fE hI _ _ hP hD hS _ (lv_sub hl [2, 3, 4, 5, 6, 7] rfl)
      · -- f
        exact absurd h602 (by decide)
    · -- f
      exact absurd rfl h595

