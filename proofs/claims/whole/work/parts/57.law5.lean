set_option maxHeartbeats 8000000 in
set_option maxRecDepth 100000 in
theorem lc_law {p : Program} {l : Launch} {e : Env} {s : State} {m : MethodId} {below : List Frame} {meth : Method} {c : Code} {H : Heap} {locs : List Loc} {cells slots : Nat} {Q : State → Prop} {D : va_G} {cY : Nat → ClassId} {A : Nat → Prop} {sc L : Nat} {xs : Nat → Int32} {b : Nat → Nat} {rr : Nat → Nat → Nat} {a : Nat → Nat} {oo od z0 : Nat} {ls : Array Slot} (E : LE p s m sc c D cY A L xs) (hlT : l.stackTraces = false) (hi4 : z0 + 4 ≤ L) (hL : L ≤ 2048) (hroom : cells + 1 ≤ room_1.cells ∧ slots + 6 ≤ room_1.slots) {n k : Nat} {g : Nat → Nat → Nat} {col : Nat → Nat} {fG fW : Nat → Nat → Int32} {fR fH fA fS : Nat → Nat → Int64} {fRs : Nat → Int64} {fOt : Nat → Int32} {fMi : Nat → Int64} {fEn fEb fPy : Nat → Int32} {fB : Nat → Nat → Int64} {fCc : Nat → Int32} {th : Int32} {fto fpay fcol : Nat → Int32} {fnow fthn foth fmnr fwts : Nat → Int64} {fmap fnxt : Nat → Int32} {fO : Nat → Int64} {fE : Nat → UInt64} (hI : LV n k g col fG fW fPy fCc fto fpay fcol) (hP : va_P D vwCl (LB cY b rr a oo od n k n k fG fW fR fH fA fS fRs fOt fMi fEn fEb fPy fB fCc th fto fpay fcol fnow fthn foth fmnr fwts fmap fnxt fO fE).flatten H) (hD : va_D A (LB cY b rr a oo od n k n k fG fW fR fH fA fS fRs fOt fMi fEn fEb fPy fB fCc th fto fpay fcol fnow fthn foth fmnr fwts fmap fnxt fO fE).flatten) (hS : va_S A s.heap H locs) (hl : lv_has ls 9 [(5, .int (nI z0)), (4, .ref od), (3, .ref oo), (2, .ref (a 0)), (1, .ref (b 0)), (0, .ref sc)]) (K : LK p l e s m below meth c sc D cY A b rr a oo od z0 cells slots Q) : W p l e room_1 s m #[Value.ref sc] below meth c H locs cells slots Q (F0 m 619 ls []) := by
  obtain ⟨hx, hb, hml, hts, hown, hK, hVK, hA, hX, hH, hsc, hscl, hscA⟩ := E
  obtain ⟨⟨hn1, hn6, hk1, hk12⟩, hG, hgn, hW, hT, hPy, hC6⟩ := id hI
  rcases Bool.eq_false_or_eq_true (inR (xs (z0 + 1)) (nI 0) (nI (n - 1)) && inR (xs (z0 + 3)) (nI 0) (nI (n - 1))) with hc1 | hc1
  · -- holds
    rcases Bool.eq_false_or_eq_true (inR (xs (z0 + 2)) (nI 0) (nI 12)) with hc2 | hc2
    · -- holds
      obtain ⟨hca, hcb⟩ := two_ hc1
      obtain ⟨i, hi_, e1⟩ := inR_of (by omega) hca
      obtain ⟨t, ht_, e2⟩ := inR_of (by omega) hc2
      obtain ⟨w, hw_, e3⟩ := inR_of (by omega) hcb
      refine lv_aload_n hx hb dL_law__619 rfl (lv_at hl 4 rfl) ?_
      refine lv_aload_n hx hb dL_law__620 rfl (lv_at hl 5 rfl) ?_
      refine lv_iload hx hb dL_law__621 (lv_at hl 0 rfl) ?_
      refine lv_iconst (v := nI 1) hx hb dL_law__623 (by decide) ?_
      refine lv_iadd hx hb dL_law__624 ?_
      refine eqi (x' := nI (z0 + 1)) (nI_add _ _) ?_
      refine s_ld hx hb hsc hscl hscA hS (by omega) hL dL_law__625 ?_
      refine eqi (x' := nI i) e1 ?_
      refine lv_aload_n hx hb dL_law__626 rfl (lv_at hl 5 rfl) ?_
      refine lv_iload hx hb dL_law__627 (lv_at hl 0 rfl) ?_
      refine lv_iconst (v := nI 2) hx hb dL_law__629 (by decide) ?_
      refine lv_iadd hx hb dL_law__630 ?_
      refine eqi (x' := nI (z0 + 2)) (nI_add _ _) ?_
      refine s_ld hx hb hsc hscl hscA hS (by omega) hL dL_law__631 ?_
      refine eqi (x' := nI t) e2 ?_
      refine lv_aload_n hx hb dL_law__632 rfl (lv_at hl 5 rfl) ?_
      refine lv_iload hx hb dL_law__633 (lv_at hl 0 rfl) ?_
      refine lv_iconst (v := nI 3) hx hb dL_law__635 (by decide) ?_
      refine lv_iadd hx hb dL_law__636 ?_
      refine eqi (x' := nI (z0 + 3)) (nI_add _ _) ?_
      refine s_ld hx hb hsc hscl hscA hS (by omega) hL dL_law__637 ?_
      refine eqi (x' := nI w) e3 ?_
      refine lv_aload_n hx hb dL_law__638 rfl (lv_at hl 2 rfl) ?_
      refine hh_i (CL := [hO b, cO b (nI n) (nI k), lO b, oQ (cY 2) (b 3) (rr 1) 6, gI (cY 0) (rr 1) 6 fW 6, oQ (cY 3) (b 5) (rr 2) 13, gJ (cY 1) (rr 2) 36 fR 13, [(oo, .inl (cY 1, 1, .inr (.inl fO)))]]) (vx_runSX (As := [.ref (b 0), .int (nI i), .int (nI t), .int (nI w), .ref oo]) (rest := []) ⟨hx, hb, hml, hown, hts⟩ (c_L_law_ok l D cY H.size b rr n k fW fR g i t w oo fO (by omega) (by omega) (by omega) (by omega) hW (by omega) (by omega) (by omega)) (vx_cwSW 5 hts gL_law__L_law rfl rfl rfl (by decide +kernel) ⟨Nat.le_of_ble_eq_true rfl, Nat.le_of_ble_eq_true rfl⟩) (b_preHS hVK hP hD hS hA hX hH [0, 1, 6, 4, 5, 7, 8, 41] rfl rfl) rfl rfl hl.1 rfl (lv_room (Nat.le_of_ble_eq_true rfl)) dL_law__639 ⟨by omega, by omega⟩) hP hD hS hA [0, 1, 6, 4, 5, 7, 8, 41] rfl rfl (fun _ => rfl) (fun r639 uu H locs hq hP hD hS => ?_)
      obtain ⟨fR1_1, rfl⟩ : ∃ z, z = uu := ⟨_, rfl⟩
      try dsimp only at hq
      subst hq
      have hP : va_P D vwCl (LB cY b rr a oo od n k n k fG fW fR1_1 fH fA fS fRs fOt fMi fEn fEb fPy fB fCc th fto fpay fcol fnow fthn foth fmnr fwts fmap fnxt (vp_updL fO 0 (lN (PL g n k i t w))) fE).flatten H := hP
      have hD : va_D A (LB cY b rr a oo od n k n k fG fW fR1_1 fH fA fS fRs fOt fMi fEn fEb fPy fB fCc th fto fpay fcol fnow fthn foth fmnr fwts fmap fnxt (vp_updL fO 0 (lN (PL g n k i t w))) fE).flatten := hD
      refine lv_istore (lv' := [(6, .int (nI 0)), (5, .int (nI z0)), (4, .ref od), (3, .ref oo), (2, .ref (a 0)), (1, .ref (b 0)), (0, .ref sc)]) hx hb dL_law__642 hl (by decide) rfl (fun ls hl => ?_)
      refine lv_aload_n hx hb dL_law__644 rfl (lv_at hl 4 rfl) ?_
      refine lv_aload_n hx hb dL_law__645 rfl (lv_at hl 6 rfl) ?_
      refine lv_iload hx hb dL_law__646 (lv_at hl 1 rfl) ?_
      refine lv_iconst (v := nI 1) hx hb dL_law__648 (by decide) ?_
      refine lv_iadd hx hb dL_law__649 ?_
      refine eqi (x' := nI (z0 + 1)) (nI_add _ _) ?_
      refine s_ld hx hb hsc hscl hscA hS (by omega) hL dL_law__650 ?_
      refine eqi (x' := nI i) e1 ?_
      refine lv_aload_n hx hb dL_law__651 rfl (lv_at hl 6 rfl) ?_
      refine lv_iload hx hb dL_law__652 (lv_at hl 1 rfl) ?_
      refine lv_iconst (v := nI 2) hx hb dL_law__654 (by decide) ?_
      refine lv_iadd hx hb dL_law__655 ?_
      refine eqi (x' := nI (z0 + 2)) (nI_add _ _) ?_
      refine s_ld hx hb hsc hscl hscA hS (by omega) hL dL_law__656 ?_
      refine eqi (x' := nI t) e2 ?_
      refine lv_aload_n hx hb dL_law__657 rfl (lv_at hl 6 rfl) ?_
      refine lv_iload hx hb dL_law__658 (lv_at hl 1 rfl) ?_
      refine lv_iconst (v := nI 3) hx hb dL_law__660 (by decide) ?_
      refine lv_iadd hx hb dL_law__661 ?_
      refine eqi (x' := nI (z0 + 3)) (nI_add _ _) ?_
      refine s_ld hx hb hsc hscl hscA hS (by omega) hL dL_law__662 ?_
      refine eqi (x' := nI w) e3 ?_
      refine ca_l (CL := [mO a (nI n) (nI k) th, [(a 1, .inl (cY 0, 72, .inl fto))], [(a 4, .inl (cY 1, 64, .inr (.inl fnow)))], [(a 5, .inl (cY 1, 64, .inr (.inl fthn)))]]) (va_runV (As := [.int (nI i), .int (nI t), .int (nI w)]) (rest := []) ⟨hx, hb, hml, hown, hts⟩ (c_X9_law_ok l D cY H.size a n k th fto fnow fthn g i t w (by omega) (by omega) (by omega) (by omega) hT hgn (by omega) (by omega) (by omega)) (cwV 3 hts gL_law__X9_law rfl rfl rfl (by decide +kernel) ⟨Nat.le_of_ble_eq_true rfl, Nat.le_of_ble_eq_true rfl⟩) (b_preV hVK hP hD [30, 31, 34, 35] rfl rfl 30 rfl rfl) rfl rfl hl.1 rfl (lv_room (Nat.le_of_ble_eq_true rfl)) dL_law__663 ⟨by omega, by omega⟩) hP hD hS hA [30, 31, 34, 35] rfl rfl (fun _ => rfl) (fun r663 uu H locs hq hP hD hS => ?_)
      obtain ⟨fnow1_2, fthn1_3⟩ := uu
      try dsimp only at hq
      subst hq
      have hP : va_P D vwCl (LB cY b rr a oo od n k n k fG fW fR1_1 fH fA fS fRs fOt fMi fEn fEb fPy fB fCc (nI 0) fto fpay fcol fnow1_2 fthn1_3 foth fmnr fwts fmap fnxt (vp_updL fO 0 (lN (PL g n k i t w))) fE).flatten H := hP
      have hD : va_D A (LB cY b rr a oo od n k n k fG fW fR1_1 fH fA fS fRs fOt fMi fEn fEb fPy fB fCc (nI 0) fto fpay fcol fnow1_2 fthn1_3 foth fmnr fwts fmap fnxt (vp_updL fO 0 (lN (PL g n k i t w))) fE).flatten := hD
      refine lv_lstore (lv' := [(7, .long (lN (PL g n k i t w))), (6, .int (nI 0)), (5, .int (nI z0)), (4, .ref od), (3, .ref oo), (2, .ref (a 0)), (1, .ref (b 0)), (0, .ref sc)]) hx hb dL_law__666 hl (by decide) rfl (fun ls hl => ?_)
      refine lv_aload_n hx hb dL_law__668 rfl (lv_at hl 5 rfl) ?_
      refine ca_i (CL := [mO a (nI n) (nI k) (nI 0)]) (va_runV (As := []) (rest := []) ⟨hx, hb, hml, hown, hts⟩ (c_X9_thrown l D cY H.size a n k (nI 0)) (cwV 0 hts gL_law__X9_thrown rfl rfl rfl (by decide +kernel) ⟨Nat.le_of_ble_eq_true rfl, Nat.le_of_ble_eq_true rfl⟩) (b_preV hVK hP hD [30] rfl rfl 30 rfl rfl) rfl rfl hl.1 rfl (lv_room (Nat.le_of_ble_eq_true rfl)) dL_law__669 ⟨by omega, by omega⟩) hP hD hS hA [30] rfl rfl (fun _ => rfl) (fun r669 uu H locs hq hP hD hS => ?_)
      subst hq
      have hP : va_P D vwCl (LB cY b rr a oo od n k n k fG fW fR1_1 fH fA fS fRs fOt fMi fEn fEb fPy fB fCc (nI 0) fto fpay fcol fnow1_2 fthn1_3 foth fmnr fwts fmap fnxt (vp_updL fO 0 (lN (PL g n k i t w))) fE).flatten H := hP
      have hD : va_D A (LB cY b rr a oo od n k n k fG fW fR1_1 fH fA fS fRs fOt fMi fEn fEb fPy fB fCc (nI 0) fto fpay fcol fnow1_2 fthn1_3 foth fmnr fwts fmap fnxt (vp_updL fO 0 (lN (PL g n k i t w))) fE).flatten := hD
      refine lv_iload hx hb dL_law__672 (lv_at hl 1 rfl) ?_
      refine n_icmp_eq (tgt := 679) hx hb dL_law__674 (by decide) (by omega) (by omega) (fun h674 => ?_) (fun h674 => ?_)
      · -- t
        refine lv_iload hx hb dL_law__679 (lv_at hl 1 rfl) ?_
        refine n_if_ne (tgt := 695) hx hb dL_law__681 (by decide) (by omega) (fun h681 => ?_) (fun h681 => ?_)
        · -- t
          exact absurd rfl h681
        · -- f
          refine lv_aload_n hx hb dL_law__684 rfl (lv_at hl 4 rfl) ?_
          refine lv_iconst (v := nI 0) hx hb dL_law__685 (by decide) ?_
          refine b_lald hx hb hK hP 41 1 rfl rfl (by omega) (by omega) dL_law__686 ?_
          refine eql (x' := lN (PL g n k i t w)) pk_uLs ?_
          refine lv_lload hx hb dL_law__687 (lv_at hl 0 rfl) ?_
          refine W.lcmp hx hb dL_law__689 ?_
          refine l_if_eq (tgt := 695) hx hb dL_law__690 (by decide) (fun h690 => ?_) (fun h690 => ?_)
          · -- t
            refine lv_goto (tgt := 1823) hx hb dL_law__695 (by decide) ?_
            refine W.widen (Nat.le_add_right cells 1) (Nat.le_add_right slots 6) ?_
            exact K n k g col fG fW fR1_1 fH fA fS fRs fOt fMi fEn fEb fPy fB fCc (nI 0) fto fpay fcol fnow1_2 fthn1_3 foth fmnr fwts fmap fnxt (vp_updL fO 0 (lN (PL g n k i t w))) fE hI _ _ hP hD hS _ (lv_sub hl [2, 3, 4, 5, 6, 7] rfl)
          · -- f
            exact absurd (rfl) h690
      · -- f
        exact absurd rfl h674
    · -- not
      refine lv_aload_n hx hb dL_law__619 rfl (lv_at hl 4 rfl) ?_
      refine lv_aload_n hx hb dL_law__620 rfl (lv_at hl 5 rfl) ?_
      refine lv_iload hx hb dL_law__621 (lv_at hl 0 rfl) ?_
      refine lv_iconst (v := nI 1) hx hb dL_law__623 (by decide) ?_
      refine lv_iadd hx hb dL_law__624 ?_
      refine eqi (x' := nI (z0 + 1)) (nI_add _ _) ?_
      refine s_ld hx hb hsc hscl hscA hS (by omega) hL dL_law__625 ?_
      refine lv_aload_n hx hb dL_law__626 rfl (lv_at hl 5 rfl) ?_
      refine lv_iload hx hb dL_law__627 (lv_at hl 0 rfl) ?_
      refine lv_iconst (v := nI 2) hx hb dL_law__629 (by decide) ?_
      refine lv_iadd hx hb dL_law__630 ?_
      refine eqi (x' := nI (z0 + 2)) (nI_add _ _) ?_
      refine s_ld hx hb hsc hscl hscA hS (by omega) hL dL_law__631 ?_
      refine lv_aload_n hx hb dL_law__632 rfl (lv_at hl 5 rfl) ?_
      refine lv_iload hx hb dL_law__633 (lv_at hl 0 rfl) ?_
      refine lv_iconst (v := nI 3) hx hb dL_law__635 (by decide) ?_
      refine lv_iadd hx hb dL_law__636 ?_
      refine eqi (x' := nI (z0 + 3)) (nI_add _ _) ?_
      refine s_ld hx hb hsc hscl hscA hS (by omega) hL dL_law__637 ?_
      refine lv_aload_n hx hb dL_law__638 rfl (lv_at hl 2 rfl) ?_
      refine hh_i (CL := [hO b, cO b (nI n) (nI k), [(oo, .inl (cY 1, 1, .inr (.inl fO)))]]) (vx_runSX (As := [.ref (b 0), .int (xs (z0 + 1)), .int (xs (z0 + 2)), .int (xs (z0 + 3)), .ref oo]) (rest := []) ⟨hx, hb, hml, hown, hts⟩ (c_L_law_b2 l D cY H.size b n k (xs (z0 + 1)) (xs (z0 + 2)) (xs (z0 + 3)) oo fO hlT (by omega) (by omega) (by omega) (by omega) hc1 hc2) (vx_cwSW 5 hts gL_law__L_law rfl rfl rfl (by decide +kernel) ⟨Nat.le_of_ble_eq_true rfl, Nat.le_of_ble_eq_true rfl⟩) (b_preHS hVK hP hD hS hA hX hH [0, 1, 41] rfl rfl) rfl rfl hl.1 rfl (lv_room (Nat.le_of_ble_eq_true rfl)) dL_law__639 ⟨by omega, by omega⟩) hP hD hS hA [0, 1, 41] rfl rfl (fun _ => rfl) (fun r639 uu H locs hq hP hD hS => ?_)
      subst hq
      have hP : va_P D vwCl (LB cY b rr a oo od n k n k fG fW fR fH fA fS fRs fOt fMi fEn fEb fPy fB fCc th fto fpay fcol fnow fthn foth fmnr fwts fmap fnxt fO fE).flatten H := hP
      have hD : va_D A (LB cY b rr a oo od n k n k fG fW fR fH fA fS fRs fOt fMi fEn fEb fPy fB fCc th fto fpay fcol fnow fthn foth fmnr fwts fmap fnxt fO fE).flatten := hD
      refine lv_istore (lv' := [(6, .int (nI 2)), (5, .int (nI z0)), (4, .ref od), (3, .ref oo), (2, .ref (a 0)), (1, .ref (b 0)), (0, .ref sc)]) hx hb dL_law__642 hl (by decide) rfl (fun ls hl => ?_)
      refine lv_aload_n hx hb dL_law__644 rfl (lv_at hl 4 rfl) ?_
      refine lv_aload_n hx hb dL_law__645 rfl (lv_at hl 6 rfl) ?_
      refine lv_iload hx hb dL_law__646 (lv_at hl 1 rfl) ?_
      refine lv_iconst (v := nI 1) hx hb dL_law__648 (by decide) ?_
      refine lv_iadd hx hb dL_law__649 ?_
      refine eqi (x' := nI (z0 + 1)) (nI_add _ _) ?_
      refine s_ld hx hb hsc hscl hscA hS (by omega) hL dL_law__650 ?_
      refine lv_aload_n hx hb dL_law__651 rfl (lv_at hl 6 rfl) ?_
      refine lv_iload hx hb dL_law__652 (lv_at hl 1 rfl) ?_
      refine lv_iconst (v := nI 2) hx hb dL_law__654 (by decide) ?_
      refine lv_iadd hx hb dL_law__655 ?_
      refine eqi (x' := nI (z0 + 2)) (nI_add _ _) ?_
      refine s_ld hx hb hsc hscl hscA hS (by omega) hL dL_law__656 ?_
      refine lv_aload_n hx hb dL_law__657 rfl (lv_at hl 6 rfl) ?_
      refine lv_iload hx hb dL_law__658 (lv_at hl 1 rfl) ?_
      refine lv_iconst (v := nI 3) hx hb dL_law__660 (by decide) ?_
      refine lv_iadd hx hb dL_law__661 ?_
      refine eqi (x' := nI (z0 + 3)) (nI_add _ _) ?_
      refine s_ld hx hb hsc hscl hscA hS (by omega) hL dL_law__662 ?_
      refine ca_l (CL := [mO a (nI n) (nI k) th]) (va_runV (As := [.int (xs (z0 + 1)), .int (xs (z0 + 2)), .int (xs (z0 + 3))]) (rest := []) ⟨hx, hb, hml, hown, hts⟩ (c_X9_law_b2 l D cY H.size a n k th (xs (z0 + 1)) (xs (z0 + 2)) (xs (z0 + 3)) (by omega) (by omega) (by omega) (by omega) hc1 hc2) (cwV 3 hts gL_law__X9_law rfl rfl rfl (by decide +kernel) ⟨Nat.le_of_ble_eq_true rfl, Nat.le_of_ble_eq_true rfl⟩) (b_preV hVK hP hD [30] rfl rfl 30 rfl rfl) rfl rfl hl.1 rfl (lv_room (Nat.le_of_ble_eq_true rfl)) dL_law__663 ⟨by omega, by omega⟩) hP hD hS hA [30] rfl rfl (fun _ => rfl) (fun r663 uu H locs hq hP hD hS => ?_)
      subst hq
      have hP : va_P D vwCl (LB cY b rr a oo od n k n k fG fW fR fH fA fS fRs fOt fMi fEn fEb fPy fB fCc (nI 2) fto fpay fcol fnow fthn foth fmnr fwts fmap fnxt fO fE).flatten H := hP
      have hD : va_D A (LB cY b rr a oo od n k n k fG fW fR fH fA fS fRs fOt fMi fEn fEb fPy fB fCc (nI 2) fto fpay fcol fnow fthn foth fmnr fwts fmap fnxt fO fE).flatten := hD
      refine lv_lstore (lv' := [(7, .long (lN 0)), (6, .int (nI 2)), (5, .int (nI z0)), (4, .ref od), (3, .ref oo), (2, .ref (a 0)), (1, .ref (b 0)), (0, .ref sc)]) hx hb dL_law__666 hl (by decide) rfl (fun ls hl => ?_)
      refine lv_aload_n hx hb dL_law__668 rfl (lv_at hl 5 rfl) ?_
      refine ca_i (CL := [mO a (nI n) (nI k) (nI 2)]) (va_runV (As := []) (rest := []) ⟨hx, hb, hml, hown, hts⟩ (c_X9_thrown l D cY H.size a n k (nI 2)) (cwV 0 hts gL_law__X9_thrown rfl rfl rfl (by decide +kernel) ⟨Nat.le_of_ble_eq_true rfl, Nat.le_of_ble_eq_true rfl⟩) (b_preV hVK hP hD [30] rfl rfl 30 rfl rfl) rfl rfl hl.1 rfl (lv_room (Nat.le_of_ble_eq_true rfl)) dL_law__669 ⟨by omega, by omega⟩) hP hD hS hA [30] rfl rfl (fun _ => rfl) (fun r669 uu H locs hq hP hD hS => ?_)
      subst hq
      have hP : va_P D vwCl (LB cY b rr a oo od n k n k fG fW fR fH fA fS fRs fOt fMi fEn fEb fPy fB fCc (nI 2) fto fpay fcol fnow fthn foth fmnr fwts fmap fnxt fO fE).flatten H := hP
      have hD : va_D A (LB cY b rr a oo od n k n k fG fW fR fH fA fS fRs fOt fMi fEn fEb fPy fB fCc (nI 2) fto fpay fcol fnow fthn foth fmnr fwts fmap fnxt fO fE).flatten := hD
      refine lv_iload hx hb dL_law__672 (lv_at hl 1 rfl) ?_
      refine n_icmp_eq (tgt := 679) hx hb dL_law__674 (by decide) (by omega) (by omega) (fun h674 => ?_) (fun h674 => ?_)
      · -- t
        refine lv_iload hx hb dL_law__679 (lv_at hl 1 rfl) ?_
        refine n_if_ne (tgt := 695) hx hb dL_law__681 (by decide) (by omega) (fun h681 => ?_) (fun h681 => ?_)
        · -- t
          refine lv_goto (tgt := 1823) hx hb dL_law__695 (by decide) ?_
          exact K n k g col fG fW fR fH fA fS fRs fOt fMi fEn fEb fPy fB fCc (nI 2) fto fpay fcol fnow fthn foth fmnr fwts fmap fnxt fO fE hI _ _ hP hD hS _ (lv_sub hl [2, 3, 4, 5, 6, 7] rfl)
        · -- f
          exact absurd h681 (by decide)
      · -- f
        exact absurd rfl h674
  · -- not
    refine lv_aload_n hx hb dL_law__619 rfl (lv_at hl 4 rfl) ?_
    refine lv_aload_n hx hb dL_law__620 rfl (lv_at hl 5 rfl) ?_
    refine lv_iload hx hb dL_law__621 (lv_at hl 0 rfl) ?_
    refine lv_iconst (v := nI 1) hx hb dL_law__623 (by decide) ?_
    refine lv_iadd hx hb dL_law__624 ?_
    refine eqi (x' := nI (z0 + 1)) (nI_add _ _) ?_
    refine s_ld hx hb hsc hscl hscA hS (by omega) hL dL_law__625 ?_
    refine lv_aload_n hx hb dL_law__626 rfl (lv_at hl 5 rfl) ?_
    refine lv_iload hx hb dL_law__627 (lv_at hl 0 rfl) ?_
    refine lv_iconst (v := nI 2) hx hb dL_law__629 (by decide) ?_
    refine lv_iadd hx hb dL_law__630 ?_
    refine eqi (x' := nI (z0 + 2)) (nI_add _ _) ?_
    refine s_ld hx hb hsc hscl hscA hS (by omega) hL dL_law__631 ?_
    refine lv_aload_n hx hb dL_law__632 rfl (lv_at hl 5 rfl) ?_
    refine lv_iload hx hb dL_law__633 (lv_at hl 0 rfl) ?_
    refine lv_iconst (v := nI 3) hx hb dL_law__635 (by decide) ?_
    refine lv_iadd hx hb dL_law__636 ?_
    refine eqi (x' := nI (z0 + 3)) (nI_add _ _) ?_
    refine s_ld hx hb hsc hscl hscA hS (by omega) hL dL_law__637 ?_
    refine lv_aload_n hx hb dL_law__638 rfl (lv_at hl 2 rfl) ?_
    refine hh_i (CL := [hO b, cO b (nI n) (nI k), [(oo, .inl (cY 1, 1, .inr (.inl fO)))]]) (vx_runSX (As := [.ref (b 0), .int (xs (z0 + 1)), .int (xs (z0 + 2)), .int (xs (z0 + 3)), .ref oo]) (rest := []) ⟨hx, hb, hml, hown, hts⟩ (c_L_law_b1 l D cY H.size b n k (xs (z0 + 1)) (xs (z0 + 2)) (xs (z0 + 3)) oo fO hlT (by omega) (by omega) (by omega) (by omega) hc1) (vx_cwSW 5 hts gL_law__L_law rfl rfl rfl (by decide +kernel) ⟨Nat.le_of_ble_eq_true rfl, Nat.le_of_ble_eq_true rfl⟩) (b_preHS hVK hP hD hS hA hX hH [0, 1, 41] rfl rfl) rfl rfl hl.1 rfl (lv_room (Nat.le_of_ble_eq_true rfl)) dL_law__639 ⟨by omega, by omega⟩) hP hD hS hA [0, 1, 41] rfl rfl (fun _ => rfl) (fun r639 uu H locs hq hP hD hS => ?_)
    subst hq
    have hP : va_P D vwCl (LB cY b rr a oo od n k n k fG fW fR fH fA fS fRs fOt fMi fEn fEb fPy fB fCc th fto fpay fcol fnow fthn foth fmnr fwts fmap fnxt fO fE).flatten H := hP
    have hD : va_D A (LB cY b rr a oo od n k n k fG fW fR fH fA fS fRs fOt fMi fEn fEb fPy fB fCc th fto fpay fcol fnow fthn foth fmnr fwts fmap fnxt fO fE).flatten := hD
    refine lv_istore (lv' := [(6, .int (nI 1)), (5, .int (nI z0)), (4, .ref od), (3, .ref oo), (2, .ref (a 0)), (1, .ref (b 0)), (0, .ref sc)]) hx hb dL_law__642 hl (by decide) rfl (fun ls hl => ?_)
    refine lv_aload_n hx hb dL_law__644 rfl (lv_at hl 4 rfl) ?_
    refine lv_aload_n hx hb dL_law__645 rfl (lv_at hl 6 rfl) ?_
    refine lv_iload hx hb dL_law__646 (lv_at hl 1 rfl) ?_
    refine lv_iconst (v := nI 1) hx hb dL_law__648 (by decide) ?_
    refine lv_iadd hx hb dL_law__649 ?_
    refine eqi (x' := nI (z0 + 1)) (nI_add _ _) ?_
    refine s_ld hx hb hsc hscl hscA hS (by omega) hL dL_law__650 ?_
    refine lv_aload_n hx hb dL_law__651 rfl (lv_at hl 6 rfl) ?_
    refine lv_iload hx hb dL_law__652 (lv_at hl 1 rfl) ?_
    refine lv_iconst (v := nI 2) hx hb dL_law__654 (by decide) ?_
    refine lv_iadd hx hb dL_law__655 ?_
    refine eqi (x' := nI (z0 + 2)) (nI_add _ _) ?_
    refine s_ld hx hb hsc hscl hscA hS (by omega) hL dL_law__656 ?_
    refine lv_aload_n hx hb dL_law__657 rfl (lv_at hl 6 rfl) ?_
    refine lv_iload hx hb dL_law__658 (lv_at hl 1 rfl) ?_
    refine lv_iconst (v := nI 3) hx hb dL_law__660 (by decide) ?_
    refine lv_iadd hx hb dL_law__661 ?_
    refine eqi (x' := nI (z0 + 3)) (nI_add _ _) ?_
    refine s_ld hx hb hsc hscl hscA hS (by omega) hL dL_law__662 ?_
    refine ca_l (CL := [mO a (nI n) (nI k) th]) (va_runV (As := [.int (xs (z0 + 1)), .int (xs (z0 + 2)), .int (xs (z0 + 3))]) (rest := []) ⟨hx, hb, hml, hown, hts⟩ (c_X9_law_b1 l D cY H.size a n k th (xs (z0 + 1)) (xs (z0 + 2)) (xs (z0 + 3)) (by omega) (by omega) (by omega) (by omega) hc1) (cwV 3 hts gL_law__X9_law rfl rfl rfl (by decide +kernel) ⟨Nat.le_of_ble_eq_true rfl, Nat.le_of_ble_eq_true rfl⟩) (b_preV hVK hP hD [30] rfl rfl 30 rfl rfl) rfl rfl hl.1 rfl (lv_room (Nat.le_of_ble_eq_true rfl)) dL_law__663 ⟨by omega, by omega⟩) hP hD hS hA [30] rfl rfl (fun _ => rfl) (fun r663 uu H locs hq hP hD hS => ?_)
    subst hq
    have hP : va_P D vwCl (LB cY b rr a oo od n k n k fG fW fR fH fA fS fRs fOt fMi fEn fEb fPy fB fCc (nI 1) fto fpay fcol fnow fthn foth fmnr fwts fmap fnxt fO fE).flatten H := hP
    have hD : va_D A (LB cY b rr a oo od n k n k fG fW fR fH fA fS fRs fOt fMi fEn fEb fPy fB fCc (nI 1) fto fpay fcol fnow fthn foth fmnr fwts fmap fnxt fO fE).flatten := hD
    refine lv_lstore (lv' := [(7, .long (lN 0)), (6, .int (nI 1)), (5, .int (nI z0)), (4, .ref od), (3, .ref oo), (2, .ref (a 0)), (1, .ref (b 0)), (0, .ref sc)]) hx hb dL_law__666 hl (by decide) rfl (fun ls hl => ?_)
    refine lv_aload_n hx hb dL_law__668 rfl (lv_at hl 5 rfl) ?_
    refine ca_i (CL := [mO a (nI n) (nI k) (nI 1)]) (va_runV (As := []) (rest := []) ⟨hx, hb, hml, hown, hts⟩ (c_X9_thrown l D cY H.size a n k (nI 1)) (cwV 0 hts gL_law__X9_thrown rfl rfl rfl (by decide +kernel) ⟨Nat.le_of_ble_eq_true rfl, Nat.le_of_ble_eq_true rfl⟩) (b_preV hVK hP hD [30] rfl rfl 30 rfl rfl) rfl rfl hl.1 rfl (lv_room (Nat.le_of_ble_eq_true rfl)) dL_law__669 ⟨by omega, by omega⟩) hP hD hS hA [30] rfl rfl (fun _ => rfl) (fun r669 uu H locs hq hP hD hS => ?_)
    subst hq
    have hP : va_P D vwCl (LB cY b rr a oo od n k n k fG fW fR fH fA fS fRs fOt fMi fEn fEb fPy fB fCc (nI 1) fto fpay fcol fnow fthn foth fmnr fwts fmap fnxt fO fE).flatten H := hP
    have hD : va_D A (LB cY b rr a oo od n k n k fG fW fR fH fA fS fRs fOt fMi fEn fEb fPy fB fCc (nI 1) fto fpay fcol fnow fthn foth fmnr fwts fmap fnxt fO fE).flatten := hD
    refine lv_iload hx hb dL_law__672 (lv_at hl 1 rfl) ?_
    refine n_icmp_eq (tgt := 679) hx hb dL_law__674 (by decide) (by omega) (by omega) (fun h674 => ?_) (fun h674 => ?_)
    · -- t
      refine lv_iload hx hb dL_law__679 (lv_at hl 1 rfl) ?_
      refine n_if_ne (tgt := 695) hx hb dL_law__681 (by decide) (by omega) (fun h681 => ?_) (fun h681 => ?_)
      · -- t
        refine lv_goto (tgt := 1823) hx hb dL_law__695 (by decide) ?_
        exact K n k g col fG fW fR fH fA fS fRs fOt fMi fEn fEb fPy fB fCc (nI 1) fto fpay fcol fnow fthn foth fmnr fwts fmap fnxt fO fE hI _ _ hP hD hS _ (lv_sub hl [2, 3, 4, 5, 6, 7] rfl)
      · -- f
        exact absurd h681 (by decide)
    · -- f
      exact absurd rfl h674

set_option maxHeartbeats 8000000 in
set_option maxRecDepth 100000 in
theorem lc_lawAnew {p : Program} {l : Launch} {e : Env} {s : State} {m : MethodId} {below : List Frame} {meth : Method} {c : Code} {H : Heap} {locs : List Loc} {cells slots : Nat} {Q : State → Prop} {D : va_G} {cY : Nat → ClassId} {A : Nat → Prop} {sc L : Nat} {xs : Nat → Int32} {b : Nat → Nat} {rr : Nat → Nat → Nat} {a : Nat → Nat} {oo od z0 : Nat} {ls : Array Slot} (E : LE p s m sc c D cY A L xs) (hlT : l.stackTraces = false) (hi4 : z0 + 4 ≤ L) (hL : L ≤ 2048) (hroom : cells + 1 ≤ room_1.cells ∧ slots + 6 ≤ room_1.slots) {n k : Nat} {g : Nat → Nat → Nat} {col : Nat → Nat} {fG fW : Nat → Nat → Int32} {fR fH fA fS : Nat → Nat → Int64} {fRs : Nat → Int64} {fOt : Nat → Int32} {fMi : Nat → Int64} {fEn fEb fPy : Nat → Int32} {fB : Nat → Nat → Int64} {fCc : Nat → Int32} {th : Int32} {fto fpay fcol : Nat → Int32} {fnow fthn foth fmnr fwts : Nat → Int64} {fmap fnxt : Nat → Int32} {fO : Nat → Int64} {fE : Nat → UInt64} (hI : LV n k g col fG fW fPy fCc fto fpay fcol) (hP : va_P D vwCl (LB cY b rr a oo od n k n k fG fW fR fH fA fS fRs fOt fMi fEn fEb fPy fB fCc th fto fpay fcol fnow fthn foth fmnr fwts fmap fnxt fO fE).flatten H) (hD : va_D A (LB cY b rr a oo od n k n k fG fW fR fH fA fS fRs fOt fMi fEn fEb fPy fB fCc th fto fpay fcol fnow fthn foth fmnr fwts fmap fnxt fO fE).flatten) (hS : va_S A s.heap H locs) (hl : lv_has ls 9 [(5, .int (nI z0)), (4, .ref od), (3, .ref oo), (2, .ref (a 0)), (1, .ref (b 0)), (0, .ref sc)]) (K : LK p l e s m below meth c sc D cY A b rr a oo od z0 cells slots Q) : W p l e room_1 s m #[Value.ref sc] below meth c H locs cells slots Q (F0 m 698 ls []) := by
  obtain ⟨hx, hb, hml, hts, hown, hK, hVK, hA, hX, hH, hsc, hscl, hscA⟩ := E
  obtain ⟨⟨hn1, hn6, hk1, hk12⟩, hG, hgn, hW, hT, hPy, hC6⟩ := id hI
  rcases Bool.eq_false_or_eq_true (inR (xs (z0 + 1)) (nI 0) (nI (n - 1)) && inR (xs (z0 + 3)) (nI 0) (nI (n - 1))) with hc1 | hc1
  · -- holds
    rcases Bool.eq_false_or_eq_true (inR (xs (z0 + 2)) (nI 0) (nI 4)) with hc2 | hc2
    · -- holds
      obtain ⟨hca, hcb⟩ := two_ hc1
      obtain ⟨i, hi_, e1⟩ := inR_of (by omega) hca
      obtain ⟨t, ht_, e2⟩ := inR_of (by omega) hc2
      obtain ⟨w, hw_, e3⟩ := inR_of (by omega) hcb
      refine lv_aload_n hx hb dL_law__698 rfl (lv_at hl 4 rfl) ?_
      refine lv_aload_n hx hb dL_law__699 rfl (lv_at hl 5 rfl) ?_
      refine lv_iload hx hb dL_law__700 (lv_at hl 0 rfl) ?_
      refine lv_iconst (v := nI 1) hx hb dL_law__702 (by decide) ?_
      refine lv_iadd hx hb dL_law__703 ?_
      refine eqi (x' := nI (z0 + 1)) (nI_add _ _) ?_
      refine s_ld hx hb hsc hscl hscA hS (by omega) hL dL_law__704 ?_
      refine eqi (x' := nI i) e1 ?_
      refine lv_aload_n hx hb dL_law__705 rfl (lv_at hl 5 rfl) ?_
      refine lv_iload hx hb dL_law__706 (lv_at hl 0 rfl) ?_
      refine lv_iconst (v := nI 2) hx hb dL_law__708 (by decide) ?_
      refine lv_iadd hx hb dL_law__709 ?_
      refine eqi (x' := nI (z0 + 2)) (nI_add _ _) ?_
      refine s_ld hx hb hsc hscl hscA hS (by omega) hL dL_law__710 ?_
      refine eqi (x' := nI t) e2 ?_
      refine lv_aload_n hx hb dL_law__711 rfl (lv_at hl 5 rfl) ?_
      refine lv_iload hx hb dL_law__712 (lv_at hl 0 rfl) ?_
      refine lv_iconst (v := nI 3) hx hb dL_law__714 (by decide) ?_
      refine lv_iadd hx hb dL_law__715 ?_
      refine eqi (x' := nI (z0 + 3)) (nI_add _ _) ?_
      refine s_ld hx hb hsc hscl hscA hS (by omega) hL dL_law__716 ?_
      refine eqi (x' := nI w) e3 ?_
      refine lv_aload_n hx hb dL_law__717 rfl (lv_at hl 2 rfl) ?_
      refine hh_i (CL := [hO b, cO b (nI n) (nI k), oQ (cY 2) (b 2) (rr 0) 6, gI (cY 0) (rr 0) 12 fG 6, [(oo, .inl (cY 1, 1, .inr (.inl fO)))]]) (vx_runSX (As := [.ref (b 0), .int (nI i), .int (nI t), .int (nI w), .ref oo]) (rest := []) ⟨hx, hb, hml, hown, hts⟩ (c_L_lawAnew_ok l D cY H.size b rr n k fG g i t w oo fO (by omega) (by omega) (by omega) (by omega) hG hgn (by omega) (by omega) (by omega)) (vx_cwSW 5 hts gL_law__L_lawAnew rfl rfl rfl (by decide +kernel) ⟨Nat.le_of_ble_eq_true rfl, Nat.le_of_ble_eq_true rfl⟩) (b_preHS hVK hP hD hS hA hX hH [0, 1, 2, 3, 41] rfl rfl) rfl rfl hl.1 rfl (lv_room (Nat.le_of_ble_eq_true rfl)) dL_law__718 ⟨by omega, by omega⟩) hP hD hS hA [0, 1, 2, 3, 41] rfl rfl (fun _ => rfl) (fun r718 uu H locs hq hP hD hS => ?_)
      subst hq
      have hP : va_P D vwCl (LB cY b rr a oo od n k n k fG fW fR fH fA fS fRs fOt fMi fEn fEb fPy fB fCc th fto fpay fcol fnow fthn foth fmnr fwts fmap fnxt (vp_updL fO 0 (lN (RW g k w t i))) fE).flatten H := hP
      have hD : va_D A (LB cY b rr a oo od n k n k fG fW fR fH fA fS fRs fOt fMi fEn fEb fPy fB fCc th fto fpay fcol fnow fthn foth fmnr fwts fmap fnxt (vp_updL fO 0 (lN (RW g k w t i))) fE).flatten := hD
      refine lv_istore (lv' := [(6, .int (nI 0)), (5, .int (nI z0)), (4, .ref od), (3, .ref oo), (2, .ref (a 0)), (1, .ref (b 0)), (0, .ref sc)]) hx hb dL_law__721 hl (by decide) rfl (fun ls hl => ?_)
      refine lv_aload_n hx hb dL_law__723 rfl (lv_at hl 4 rfl) ?_
      refine lv_aload_n hx hb dL_law__724 rfl (lv_at hl 6 rfl) ?_
      refine lv_iload hx hb dL_law__725 (lv_at hl 1 rfl) ?_
      refine lv_iconst (v := nI 1) hx hb dL_law__727 (by decide) ?_
      refine lv_iadd hx hb dL_law__728 ?_
      refine eqi (x' := nI (z0 + 1)) (nI_add _ _) ?_
      refine s_ld hx hb hsc hscl hscA hS (by omega) hL dL_law__729 ?_
      refine eqi (x' := nI i) e1 ?_
      refine lv_aload_n hx hb dL_law__730 rfl (lv_at hl 6 rfl) ?_
      refine lv_iload hx hb dL_law__731 (lv_at hl 1 rfl) ?_
      refine lv_iconst (v := nI 2) hx hb dL_law__733 (by decide) ?_
      refine lv_iadd hx hb dL_law__734 ?_
      refine eqi (x' := nI (z0 + 2)) (nI_add _ _) ?_
      refine s_ld hx hb hsc hscl hscA hS (by omega) hL dL_law__735 ?_
      refine eqi (x' := nI t) e2 ?_
      refine lv_aload_n hx hb dL_law__736 rfl (lv_at hl 6 rfl) ?_
      refine lv_iload hx hb dL_law__737 (lv_at hl 1 rfl) ?_
      refine lv_iconst (v := nI 3) hx hb dL_law__739 (by decide) ?_
      refine lv_iadd hx hb dL_law__740 ?_
      refine eqi (x' := nI (z0 + 3)) (nI_add _ _) ?_
      refine s_ld hx hb hsc hscl hscA hS (by omega) hL dL_law__741 ?_
      refine eqi (x' := nI w) e3 ?_
      refine ca_l (CL := [mO a (nI n) (nI k) th, [(a 1, .inl (cY 0, 72, .inl fto))], [(a 4, .inl (cY 1, 64, .inr (.inl fnow)))], [(a 5, .inl (cY 1, 64, .inr (.inl fthn)))]]) (va_runV (As := [.int (nI i), .int (nI t), .int (nI w)]) (rest := []) ⟨hx, hb, hml, hown, hts⟩ (c_X9_lawAnew_ok l D cY H.size a n k th fto fnow fthn g i t w (by omega) (by omega) (by omega) (by omega) hT hgn (by omega) (by omega) (by omega)) (cwV 3 hts gL_law__X9_lawAnew rfl rfl rfl (by decide +kernel) ⟨Nat.le_of_ble_eq_true rfl, Nat.le_of_ble_eq_true rfl⟩) (b_preV hVK hP hD [30, 31, 34, 35] rfl rfl 30 rfl rfl) rfl rfl hl.1 rfl (lv_room (Nat.le_of_ble_eq_true rfl)) dL_law__742 ⟨by omega, by omega⟩) hP hD hS hA [30, 31, 34, 35] rfl rfl (fun _ => rfl) (fun r742 uu H locs hq hP hD hS => ?_)
      obtain ⟨fnow1_1, fthn1_2⟩ := uu
      try dsimp only at hq
      subst hq
      have hP : va_P D vwCl (LB cY b rr a oo od n k n k fG fW fR fH fA fS fRs fOt fMi fEn fEb fPy fB fCc (nI 0) fto fpay fcol fnow1_1 fthn1_2 foth fmnr fwts fmap fnxt (vp_updL fO 0 (lN (RW g k w t i))) fE).flatten H := hP
      have hD : va_D A (LB cY b rr a oo od n k n k fG fW fR fH fA fS fRs fOt fMi fEn fEb fPy fB fCc (nI 0) fto fpay fcol fnow1_1 fthn1_2 foth fmnr fwts fmap fnxt (vp_updL fO 0 (lN (RW g k w t i))) fE).flatten := hD
      refine lv_lstore (lv' := [(7, .long (lN (PL g n k i t w))), (6, .int (nI 0)), (5, .int (nI z0)), (4, .ref od), (3, .ref oo), (2, .ref (a 0)), (1, .ref (b 0)), (0, .ref sc)]) hx hb dL_law__745 hl (by decide) rfl (fun ls hl => ?_)
      refine lv_aload_n hx hb dL_law__747 rfl (lv_at hl 5 rfl) ?_
      refine ca_i (CL := [mO a (nI n) (nI k) (nI 0)]) (va_runV (As := []) (rest := []) ⟨hx, hb, hml, hown, hts⟩ (c_X9_thrown l D cY H.size a n k (nI 0)) (cwV 0 hts gL_law__X9_thrown rfl rfl rfl (by decide +kernel) ⟨Nat.le_of_ble_eq_true rfl, Nat.le_of_ble_eq_true rfl⟩) (b_preV hVK hP hD [30] rfl rfl 30 rfl rfl) rfl rfl hl.1 rfl (lv_room (Nat.le_of_ble_eq_true rfl)) dL_law__748 ⟨by omega, by omega⟩) hP hD hS hA [30] rfl rfl (fun _ => rfl) (fun r748 uu H locs hq hP hD hS => ?_)
      subst hq
      have hP : va_P D vwCl (LB cY b rr a oo od n k n k fG fW fR fH fA fS fRs fOt fMi fEn fEb fPy fB fCc (nI 0) fto fpay fcol fnow1_1 fthn1_2 foth fmnr fwts fmap fnxt (vp_updL fO 0 (lN (RW g k w t i))) fE).flatten H := hP
      have hD : va_D A (LB cY b rr a oo od n k n k fG fW fR fH fA fS fRs fOt fMi fEn fEb fPy fB fCc (nI 0) fto fpay fcol fnow1_1 fthn1_2 foth fmnr fwts fmap fnxt (vp_updL fO 0 (lN (RW g k w t i))) fE).flatten := hD
      refine lv_iload hx hb dL_law__751 (lv_at hl 1 rfl) ?_
      refine n_icmp_eq (tgt := 758) hx hb dL_law__753 (by decide) (by omega) (by omega) (fun h753 => ?_) (fun h753 => ?_)
      · -- t
        refine lv_iload hx hb dL_law__758 (lv_at hl 1 rfl) ?_
        refine n_if_ne (tgt := 774) hx hb dL_law__760 (by decide) (by omega) (fun h760 => ?_) (fun h760 => ?_)
        · -- t
          exact absurd rfl h760
        · -- f
          refine lv_aload_n hx hb dL_law__763 rfl (lv_at hl 4 rfl) ?_
          refine lv_iconst (v := nI 0) hx hb dL_law__764 (by decide) ?_
          refine b_lald hx hb hK hP 41 1 rfl rfl (by omega) (by omega) dL_law__765 ?_
          refine eql (x' := lN (RW g k w t i)) pk_uLs ?_
          refine lv_lload hx hb dL_law__766 (lv_at hl 0 rfl) ?_
          refine W.lcmp hx hb dL_law__768 ?_
          refine l_if_eq (tgt := 774) hx hb dL_law__769 (by decide) (fun h769 => ?_) (fun h769 => ?_)
          · -- t
            refine lv_goto (tgt := 1823) hx hb dL_law__774 (by decide) ?_
            refine W.widen (Nat.le_add_right cells 1) (Nat.le_add_right slots 6) ?_
            exact K n k g col fG fW fR fH fA fS fRs fOt fMi fEn fEb fPy fB fCc (nI 0) fto fpay fcol fnow1_1 fthn1_2 foth fmnr fwts fmap fnxt (vp_updL fO 0 (lN (RW g k w t i))) fE hI _ _ hP hD hS _ (lv_sub hl [2, 3, 4, 5, 6, 7] rfl)
          · -- f
            exact absurd (congrArg lN (RW_PL hgn (by omega) t i (by omega))) h769
      · -- f
        exact absurd rfl h753
    · -- not
      refine lv_aload_n hx hb dL_law__698 rfl (lv_at hl 4 rfl) ?_
      refine lv_aload_n hx hb dL_law__699 rfl (lv_at hl 5 rfl) ?_
      refine lv_iload hx hb dL_law__700 (lv_at hl 0 rfl) ?_
      refine lv_iconst (v := nI 1) hx hb dL_law__702 (by decide) ?_
      refine lv_iadd hx hb dL_law__703 ?_
      refine eqi (x' := nI (z0 + 1)) (nI_add _ _) ?_
      refine s_ld hx hb hsc hscl hscA hS (by omega) hL dL_law__704 ?_
      refine lv_aload_n hx hb dL_law__705 rfl (lv_at hl 5 rfl) ?_
      refine lv_iload hx hb dL_law__706 (lv_at hl 0 rfl) ?_
      refine lv_iconst (v := nI 2) hx hb dL_law__708 (by decide) ?_
      refine lv_iadd hx hb dL_law__709 ?_
      refine eqi (x' := nI (z0 + 2)) (nI_add _ _) ?_
      refine s_ld hx hb hsc hscl hscA hS (by omega) hL dL_law__710 ?_
      refine lv_aload_n hx hb dL_law__711 rfl (lv_at hl 5 rfl) ?_
      refine lv_iload hx hb dL_law__712 (lv_at hl 0 rfl) ?_
      refine lv_iconst (v := nI 3) hx hb dL_law__714 (by decide) ?_
      refine lv_iadd hx hb dL_law__715 ?_
      refine eqi (x' := nI (z0 + 3)) (nI_add _ _) ?_
      refine s_ld hx hb hsc hscl hscA hS (by omega) hL dL_law__716 ?_
      refine lv_aload_n hx hb dL_law__717 rfl (lv_at hl 2 rfl) ?_
      refine hh_i (CL := [hO b, cO b (nI n) (nI k), [(oo, .inl (cY 1, 1, .inr (.inl fO)))]]) (vx_runSX (As := [.ref (b 0), .int (xs (z0 + 1)), .int (xs (z0 + 2)), .int (xs (z0 + 3)), .ref oo]) (rest := []) ⟨hx, hb, hml, hown, hts⟩ (c_L_lawAnew_b2 l D cY H.size b n k (xs (z0 + 1)) (xs (z0 + 2)) (xs (z0 + 3)) oo fO hlT (by omega) (by omega) (by omega) (by omega) hc1 hc2) (vx_cwSW 5 hts gL_law__L_lawAnew rfl rfl rfl (by decide +kernel) ⟨Nat.le_of_ble_eq_true rfl, Nat.le_of_ble_eq_true rfl⟩) (b_preHS hVK hP hD hS hA hX hH [0, 1, 41] rfl rfl) rfl rfl hl.1 rfl (lv_room (Nat.le_of_ble_eq_true rfl)) dL_law__718 ⟨by omega, by omega⟩) hP hD hS hA [0, 1, 41] rfl rfl (fun _ => rfl) (fun r718 uu H locs hq hP hD hS => ?_)
      subst hq
      have hP : va_P D vwCl (LB cY b rr a oo od n k n k fG fW fR fH fA fS fRs fOt fMi fEn fEb fPy fB fCc th fto fpay fcol fnow fthn foth fmnr fwts fmap fnxt fO fE).flatten H := hP
      have hD : va_D A (LB cY b rr a oo od n k n k fG fW fR fH fA fS fRs fOt fMi fEn fEb fPy fB fCc th fto fpay fcol fnow fthn foth fmnr fwts fmap fnxt fO fE).flatten := hD
      refine lv_istore (lv' := [(6, .int (nI 2)), (5, .int (nI z0)), (4, .ref od), (3, .ref oo), (2, .ref (a 0)), (1, .ref (b 0)), (0, .ref sc)]) hx hb dL_law__721 hl (by decide) rfl (fun ls hl => ?_)
      refine lv_aload_n hx hb dL_law__723 rfl (lv_at hl 4 rfl) ?_
      refine lv_aload_n hx hb dL_law__724 rfl (lv_at hl 6 rfl) ?_
      refine lv_iload hx hb dL_law__725 (lv_at hl 1 rfl) ?_
      refine lv_iconst (v := nI 1) hx hb dL_law__727 (by decide) ?_
      refine lv_iadd hx hb dL_law__728 ?_
      refine eqi (x' := nI (z0 + 1)) (nI_add _ _) ?_
      refine s_ld hx hb hsc hscl hscA hS (by omega) hL dL_law__729 ?_
      refine lv_aload_n hx hb dL_law__730 rfl (lv_at hl 6 rfl) ?_
      refine lv_iload hx hb dL_law__731 (lv_at hl 1 rfl) ?_
      refine lv_iconst (v := nI 2) hx hb dL_law__733 (by decide) ?_
      refine lv_iadd hx hb dL_law__734 ?_
      refine eqi (x' := nI (z0 + 2)) (nI_add _ _) ?_
      refine s_ld hx hb hsc hscl hscA hS (by omega) hL dL_law__735 ?_
      refine lv_aload_n hx hb dL_law__736 rfl (lv_at hl 6 rfl) ?_
      refine lv_iload hx hb dL_law__737 (lv_at hl 1 rfl) ?_
      refine lv_iconst (v := nI 3) hx hb dL_law__739 (by decide) ?_
      refine lv_iadd hx hb dL_law__740 ?_
      refine eqi (x' := nI (z0 + 3)) (nI_add _ _) ?_
      refine s_ld hx hb hsc hscl hscA hS (by omega) hL dL_law__741 ?_
      refine ca_l (CL := [mO a (nI n) (nI k) th]) (va_runV (As := [.int (xs (z0 + 1)), .int (xs (z0 + 2)), .int (xs (z0 + 3))]) (rest := []) ⟨hx, hb, hml, hown, hts⟩ (c_X9_lawAnew_b2 l D cY H.size a n k th (xs (z0 + 1)) (xs (z0 + 2)) (xs (z0 + 3)) (by omega) (by omega) (by omega) (by omega) hc1 hc2) (cwV 3 hts gL_law__X9_lawAnew rfl rfl rfl (by decide +kernel) ⟨Nat.le_of_ble_eq_true rfl, Nat.le_of_ble_eq_true rfl⟩) (b_preV hVK hP hD [30] rfl rfl 30 rfl rfl) rfl rfl hl.1 rfl (lv_room (Nat.le_of_ble_eq_true rfl)) dL_law__742 ⟨by omega, by omega⟩) hP hD hS hA [30] rfl rfl (fun _ => rfl) (fun r742 uu H locs hq hP hD hS => ?_)
      subst hq
      have hP : va_P D vwCl (LB cY b rr a oo od n k n k fG fW fR fH fA fS fRs fOt fMi fEn fEb fPy fB fCc (nI 2) fto fpay fcol fnow fthn foth fmnr fwts fmap fnxt fO fE).flatten H := hP
      have hD : va_D A (LB cY b rr a oo od n k n k fG fW fR fH fA fS fRs fOt fMi fEn fEb fPy fB fCc (nI 2) fto fpay fcol fnow fthn foth fmnr fwts fmap fnxt fO fE).flatten := hD
      refine lv_lstore (lv' := [(7, .long (lN 0)), (6, .int (nI 2)), (5, .int (nI z0)), (4, .ref od), (3, .ref oo), (2, .ref (a 0)), (1, .ref (b 0)), (0, .ref sc)]) hx hb dL_law__745 hl (by decide) rfl (fun ls hl => ?_)
      refine lv_aload_n hx hb dL_law__747 rfl (lv_at hl 5 rfl) ?_
      refine ca_i (CL := [mO a (nI n) (nI k) (nI 2)]) (va_runV (As := []) (rest := []) ⟨hx, hb, hml, hown, hts⟩ (c_X9_thrown l D cY H.size a n k (nI 2)) (cwV 0 hts gL_law__X9_thrown rfl rfl rfl (by decide +kernel) ⟨Nat.le_of_ble_eq_true rfl, Nat.le_of_ble_eq_true rfl⟩) (b_preV hVK hP hD [30] rfl rfl 30 rfl rfl) rfl rfl hl.1 rfl (lv_room (Nat.le_of_ble_eq_true rfl)) dL_law__748 ⟨by omega, by omega⟩) hP hD hS hA [30] rfl rfl (fun _ => rfl) (fun r748 uu H locs hq hP hD hS => ?_)
      subst hq
      have hP : va_P D vwCl (LB cY b rr a oo od n k n k fG fW fR fH fA fS fRs fOt fMi fEn fEb fPy fB fCc (nI 2) fto fpay fcol fnow fthn foth fmnr fwts fmap fnxt fO fE).flatten H := hP
      have hD : va_D A (LB cY b rr a oo od n k n k fG fW fR fH fA fS fRs fOt fMi fEn fEb fPy fB fCc (nI 2) fto fpay fcol fnow fthn foth fmnr fwts fmap fnxt fO fE).flatten := hD
      refine lv_iload hx hb dL_law__751 (lv_at hl 1 rfl) ?_
      refine n_icmp_eq (tgt := 758) hx hb dL_law__753 (by decide) (by omega) (by omega) (fun h753 => ?_) (fun h753 => ?_)
      · -- t
        refine lv_iload hx hb dL_law__758 (lv_at hl 1 rfl) ?_
        refine n_if_ne (tgt := 774) hx hb dL_law__760 (by decide) (by omega) (fun h760 => ?_) (fun h760 => ?_)
        · -- t
          refine lv_goto (tgt := 1823) hx hb dL_law__774 (by decide) ?_
          exact K n k g col fG fW fR fH fA fS fRs fOt fMi fEn fEb fPy fB fCc (nI 2) fto fpay fcol fnow fthn foth fmnr fwts fmap fnxt fO fE hI _ _ hP hD hS _ (lv_sub hl [2, 3, 4, 5, 6, 7] rfl)
        · -- f
          exact absurd h760 (by decide)
      · -- f
        exact absurd rfl h753
  · -- not
    refine lv_aload_n hx hb dL_law__698 rfl (lv_at hl 4 rfl) ?_
    refine lv_aload_n hx hb dL_law__699 rfl (lv_at hl 5 rfl) ?_
    refine lv_iload hx hb dL_law__700 (lv_at hl 0 rfl) ?_
    refine lv_iconst (v := nI 1) hx hb dL_law__702 (by decide) ?_
    refine lv_iadd hx hb dL_law__703 ?_
    refine eqi (x' := nI (z0 + 1)) (nI_add _ _) ?_
    refine s_ld hx hb hsc hscl hscA hS (by omega) hL dL_law__704 ?_
    refine lv_aload_n hx hb dL_law__705 rfl (lv_at hl 5 rfl) ?_
    refine lv_iload hx hb dL_law__706 (lv_at hl 0 rfl) ?_
    refine lv_iconst (v := nI 2) hx hb dL_law__708 (by decide) ?_
    refine lv_iadd hx hb dL_law__709 ?_
    refine eqi (x' := nI (z0 + 2)) (nI_add _ _) ?_
    refine s_ld hx hb hsc hscl hscA hS (by omega) hL dL_law__710 ?_
    refine lv_aload_n hx hb dL_law__711 rfl (lv_at hl 5 rfl) ?_
    refine lv_iload hx hb dL_law__712 (lv_at hl 0 rfl) ?_
    refine lv_iconst (v := nI 3) hx hb dL_law__714 (by decide) ?_
    refine lv_iadd hx hb dL_law__715 ?_
    refine eqi (x' := nI (z0 + 3)) (nI_add _ _) ?_
    refine s_ld hx hb hsc hscl hscA hS (by omega) hL dL_law__716 ?_
    refine lv_aload_n hx hb dL_law__717 rfl (lv_at hl 2 rfl) ?_
    refine hh_i (CL := [hO b, cO b (nI n) (nI k), [(oo, .inl (cY 1, 1, .inr (.inl fO)))]]) (vx_runSX (As := [.ref (b 0), .int (xs (z0 + 1)), .int (xs (z0 + 2)), .int (xs (z0 + 3)), .ref oo]) (rest := []) ⟨hx, hb, hml, hown, hts⟩ (c_L_lawAnew_b1 l D cY H.size b n k (xs (z0 + 1)) (xs (z0 + 2)) (xs (z0 + 3)) oo fO hlT (by omega) (by omega) (by omega) (by omega) hc1) (vx_cwSW 5 hts gL_law__L_lawAnew rfl rfl rfl (by decide +kernel) ⟨Nat.le_of_ble_eq_true rfl, Nat.le_of_ble_eq_true rfl⟩) (b_preHS hVK hP hD hS hA hX hH [0, 1, 41] rfl rfl) rfl rfl hl.1 rfl (lv_room (Nat.le_of_ble_eq_true rfl)) dL_law__718 ⟨by omega, by omega⟩) hP hD hS hA [0, 1, 41] rfl rfl (fun _ => rfl) (fun r718 uu H locs hq hP hD hS => ?_)
    subst hq
    have hP : va_P D vwCl (LB cY b rr a oo od n k n k fG fW fR fH fA fS fRs fOt fMi fEn fEb fPy fB fCc th fto fpay fcol fnow fthn foth fmnr fwts fmap fnxt fO fE).flatten H := hP
    have hD : va_D A (LB cY b rr a oo od n k n k fG fW fR fH fA fS fRs fOt fMi fEn fEb fPy fB fCc th fto fpay fcol fnow fthn foth fmnr fwts fmap fnxt fO fE).flatten := hD
    refine lv_istore (lv' := [(6, .int (nI 1)), (5, .int (nI z0)), (4, .ref od), (3, .ref oo), (2, .ref (a 0)), (1, .ref (b 0)), (0, .ref sc)]) hx hb dL_law__721 hl (by decide) rfl (fun ls hl => ?_)
    refine lv_aload_n hx hb dL_law__723 rfl (lv_at hl 4 rfl) ?_
    refine lv_aload_n hx hb dL_law__724 rfl (lv_at hl 6 rfl) ?_
    refine lv_iload hx hb dL_law__725 (lv_at hl 1 rfl) ?_
    refine lv_iconst (v := nI 1) hx hb dL_law__727 (by decide) ?_
    refine lv_iadd hx hb dL_law__728 ?_
    refine eqi (x' := nI (z0 + 1)) (nI_add _ _) ?_
    refine s_ld hx hb hsc hscl hscA hS (by omega) hL dL_law__729 ?_
    refine lv_aload_n hx hb dL_law__730 rfl (lv_at hl 6 rfl) ?_
    refine lv_iload hx hb dL_law__731 (lv_at hl 1 rfl) ?_
    refine lv_iconst (v := nI 2) hx hb dL_law__733 (by decide) ?_
    refine lv_iadd hx hb dL_law__734 ?_
    refine eqi (x' := nI (z0 + 2)) (nI_add _ _) ?_
    refine s_ld hx hb hsc hscl hscA hS (by omega) hL dL_law__735 ?_
    refine lv_aload_n hx hb dL_law__736 rfl (lv_at hl 6 rfl) ?_
    refine lv_iload hx hb dL_law__737 (lv_at hl 1 rfl) ?_
    refine lv_iconst (v := nI 3) hx hb dL_law__739 (by decide) ?_
    refine lv_iadd hx hb dL_law__740 ?_
    refine eqi (x' := nI (z0 + 3)) (nI_add _ _) ?_
    refine s_ld hx hb hsc hscl hscA hS (by omega) hL dL_law__741 ?_
    refine ca_l (CL := [mO a (nI n) (nI k) th]) (va_runV (As := [.int (xs (z0 + 1)), .int (xs (z0 + 2)), .int (xs (z0 + 3))]) (rest := []) ⟨hx, hb, hml, hown, hts⟩ (c_X9_lawAnew_b1 l D cY H.size a n k th (xs (z0 + 1)) (xs (z0 + 2)) (xs (z0 + 3)) (by omega) (by omega) (by omega) (by omega) hc1) (cwV 3 hts gL_law__X9_lawAnew rfl rfl rfl (by decide +kernel) ⟨Nat.le_of_ble_eq_true rfl, Nat.le_of_ble_eq_true rfl⟩) (b_preV hVK hP hD [30] rfl rfl 30 rfl rfl) rfl rfl hl.1 rfl (lv_room (Nat.le_of_ble_eq_true rfl)) dL_law__742 ⟨by omega, by omega⟩) hP hD hS hA [30] rfl rfl (fun _ => rfl) (fun r742 uu H locs hq hP hD hS => ?_)
    subst hq
    have hP : va_P D vwCl (LB cY b rr a oo od n k n k fG fW fR fH fA fS fRs fOt fMi fEn fEb fPy fB fCc (nI 1) fto fpay fcol fnow fthn foth fmnr fwts fmap fnxt fO fE).flatten H := hP
    have hD : va_D A (LB cY b rr a oo od n k n k fG fW fR fH fA fS fRs fOt fMi fEn fEb fPy fB fCc (nI 1) fto fpay fcol fnow fthn foth fmnr fwts fmap fnxt fO fE).flatten := hD
    refine lv_lstore (lv' := [(7, .long (lN 0)), (6, .int (nI 1)), (5, .int (nI z0)), (4, .ref od), (3, .ref oo), (2, .ref (a 0)), (1, .ref (b 0)), (0, .ref sc)]) hx hb dL_law__745 hl (by decide) rfl (fun ls hl => ?_)
    refine lv_aload_n hx hb dL_law__747 rfl (lv_at hl 5 rfl) ?_
    refine ca_i (CL := [mO a (nI n) (nI k) (nI 1)]) (va_runV (As := []) (rest := []) ⟨hx, hb, hml, hown, hts⟩ (c_X9_thrown l D cY H.size a n k (nI 1)) (cwV 0 hts gL_law__X9_thrown rfl rfl rfl (by decide +kernel) ⟨Nat.le_of_ble_eq_true rfl, Nat.le_of_ble_eq_true rfl⟩) (b_preV hVK hP hD [30] rfl rfl 30 rfl rfl) rfl rfl hl.1 rfl (lv_room (Nat.le_of_ble_eq_true rfl)) dL_law__748 ⟨by omega, by omega⟩) hP hD hS hA [30] rfl rfl (fun _ => rfl) (fun r748 uu H locs hq hP hD hS => ?_)
    subst hq
    have hP : va_P D vwCl (LB cY b rr a oo od n k n k fG fW fR fH fA fS fRs fOt fMi fEn fEb fPy fB fCc (nI 1) fto fpay fcol fnow fthn foth fmnr fwts fmap fnxt fO fE).flatten H := hP
    have hD : va_D A (LB cY b rr a oo od n k n k fG fW fR fH fA fS fRs fOt fMi fEn fEb fPy fB fCc (nI 1) fto fpay fcol fnow fthn foth fmnr fwts fmap fnxt fO fE).flatten := hD
    refine lv_iload hx hb dL_law__751 (lv_at hl 1 rfl) ?_
    refine n_icmp_eq (tgt := 758) hx hb dL_law__753 (by decide) (by omega) (by omega) (fun h753 => ?_) (fun h753 => ?_)
    · -- t
      refine lv_iload hx hb dL_law__758 (lv_at hl 1 rfl) ?_
      refine n_if_ne (tgt := 774) hx hb dL_law__760 (by decide) (by omega) (fun h760 => ?_) (fun h760 => ?_)
      · -- t
        refine lv_goto (tgt := 1823) hx hb dL_law__774 (by decide) ?_
        exact K n k g col fG fW fR fH fA fS fRs fOt fMi fEn fEb fPy fB fCc (nI 1) fto fpay fcol fnow fthn foth fmnr fwts fmap fnxt fO fE hI _ _ hP hD hS _ (lv_sub hl [2, 3, 4, 5, 6, 7] rfl)
      · -- f
        exact absurd h760 (by decide)
    · -- f
      exact absurd rfl h753

set_option maxHeartbeats 8000000 in
set_option maxRecDepth 100000 in
theorem lc_distance {p : Program} {l : Launch} {e : Env} {s : State} {m : MethodId} {below : List Frame} {meth : Method} {c : Code} {H : Heap} {locs : List Loc} {cells slots : Nat} {Q : State → Prop} {D : va_G} {cY : Nat → ClassId} {A : Nat → Prop} {sc L : Nat} {xs : Nat → Int32} {b : Nat → Nat} {rr : Nat → Nat → Nat} {a : Nat → Nat} {oo od z0 : Nat} {ls : Array Slot} (E : LE p s m sc c D cY A L xs) (hlT : l.stackTraces = false) (hi4 : z0 + 4 ≤ L) (hL : L ≤ 2048) (hroom : cells + 1 ≤ room_1.cells ∧ slots + 6 ≤ room_1.slots) {n k : Nat} {g : Nat → Nat → Nat} {col : Nat → Nat} {fG fW : Nat → Nat → Int32} {fR fH fA fS : Nat → Nat → Int64} {fRs : Nat → Int64} {fOt : Nat → Int32} {fMi : Nat → Int64} {fEn fEb fPy : Nat → Int32} {fB : Nat → Nat → Int64} {fCc : Nat → Int32} {th : Int32} {fto fpay fcol : Nat → Int32} {fnow fthn foth fmnr fwts : Nat → Int64} {fmap fnxt : Nat → Int32} {fO : Nat → Int64} {fE : Nat → UInt64} (hI : LV n k g col fG fW fPy fCc fto fpay fcol) (hP : va_P D vwCl (LB cY b rr a oo od n k n k fG fW fR fH fA fS fRs fOt fMi fEn fEb fPy fB fCc th fto fpay fcol fnow fthn foth fmnr fwts fmap fnxt fO fE).flatten H) (hD : va_D A (LB cY b rr a oo od n k n k fG fW fR fH fA fS fRs fOt fMi fEn fEb fPy fB fCc th fto fpay fcol fnow fthn foth fmnr fwts fmap fnxt fO fE).flatten) (hS : va_S A s.heap H locs) (hl : lv_has ls 9 [(5, .int (nI z0)), (4, .ref od), (3, .ref oo), (2, .ref (a 0)), (1, .ref (b 0)), (0, .ref sc)]) (K : LK p l e s m below meth c sc D cY A b rr a oo od z0 cells slots Q) : W p l e room_1 s m #[Value.ref sc] below meth c H locs cells slots Q (F0 m 777 ls []) := by
  obtain ⟨hx, hb, hml, hts, hown, hK, hVK, hA, hX, hH, hsc, hscl, hscA⟩ := E
  obtain ⟨⟨hn1, hn6, hk1, hk12⟩, hG, hgn, hW, hT, hPy, hC6⟩ := id hI
  rcases Bool.eq_false_or_eq_true (inR (xs (z0 + 1)) (nI 0) (nI (n - 1)) && inR (xs (z0 + 2)) (nI 0) (nI (n - 1))) with hc1 | hc1
  · -- holds
    rcases Bool.eq_false_or_eq_true (inR (xs (z0 + 3)) (nI 0) (nI 12)) with hc2 | hc2
    · -- holds
      obtain ⟨hca, hcb⟩ := two_ hc1
      obtain ⟨i, hi_, e1⟩ := inR_of (by omega) hca
      obtain ⟨w, hw_, e2⟩ := inR_of (by omega) hcb
      obtain ⟨t, ht_, e3⟩ := inR_of (by omega) hc2
      refine lv_aload_n hx hb dL_law__777 rfl (lv_at hl 4 rfl) ?_
      refine lv_aload_n hx hb dL_law__778 rfl (lv_at hl 5 rfl) ?_
      refine lv_iload hx hb dL_law__779 (lv_at hl 0 rfl) ?_
      refine lv_iconst (v := nI 1) hx hb dL_law__781 (by decide) ?_
      refine lv_iadd hx hb dL_law__782 ?_
      refine eqi (x' := nI (z0 + 1)) (nI_add _ _) ?_
      refine s_ld hx hb hsc hscl hscA hS (by omega) hL dL_law__783 ?_
      refine eqi (x' := nI i) e1 ?_
      refine lv_aload_n hx hb dL_law__784 rfl (lv_at hl 5 rfl) ?_
      refine lv_iload hx hb dL_law__785 (lv_at hl 0 rfl) ?_
      refine lv_iconst (v := nI 2) hx hb dL_law__787 (by decide) ?_
      refine lv_iadd hx hb dL_law__788 ?_
      refine eqi (x' := nI (z0 + 2)) (nI_add _ _) ?_
      refine s_ld hx hb hsc hscl hscA hS (by omega) hL dL_law__789 ?_
      refine eqi (x' := nI w) e2 ?_
      refine lv_aload_n hx hb dL_law__790 rfl (lv_at hl 5 rfl) ?_
      refine lv_iload hx hb dL_law__791 (lv_at hl 0 rfl) ?_
      refine lv_iconst (v := nI 3) hx hb dL_law__793 (by decide) ?_
      refine lv_iadd hx hb dL_law__794 ?_
      refine eqi (x' := nI (z0 + 3)) (nI_add _ _) ?_
      refine s_ld hx hb hsc hscl hscA hS (by omega) hL dL_law__795 ?_
      refine eqi (x' := nI t) e3 ?_
      refine lv_aload_n hx hb dL_law__796 rfl (lv_at hl 2 rfl) ?_
      refine hh_i (CL := [hO b, cO b (nI n) (nI k), lO b, oQ (cY 2) (b 3) (rr 1) 6, gI (cY 0) (rr 1) 6 fW 6, oQ (cY 3) (b 5) (rr 2) 13, gJ (cY 1) (rr 2) 36 fR 13, [(oo, .inl (cY 1, 1, .inr (.inl fO)))]]) (vx_runSX (As := [.ref (b 0), .int (nI i), .int (nI w), .int (nI t), .ref oo]) (rest := []) ⟨hx, hb, hml, hown, hts⟩ (c_L_distance_ok l D cY H.size b rr n k fW fR g i w t oo fO (by omega) (by omega) (by omega) (by omega) hgn hW (by omega) (by omega) (by omega)) (vx_cwSW 5 hts gL_law__L_distance rfl rfl rfl (by decide +kernel) ⟨Nat.le_of_ble_eq_true rfl, Nat.le_of_ble_eq_true rfl⟩) (b_preHS hVK hP hD hS hA hX hH [0, 1, 6, 4, 5, 7, 8, 41] rfl rfl) rfl rfl hl.1 rfl (lv_room (Nat.le_of_ble_eq_true rfl)) dL_law__797 ⟨by omega, by omega⟩) hP hD hS hA [0, 1, 6, 4, 5, 7, 8, 41] rfl rfl (fun _ => rfl) (fun r797 uu H locs hq hP hD hS => ?_)
      obtain ⟨fR1_1, rfl⟩ : ∃ z, z = uu := ⟨_, rfl⟩
      try dsimp only at hq
      subst hq
      have hP : va_P D vwCl (LB cY b rr a oo od n k n k fG fW fR1_1 fH fA fS fRs fOt fMi fEn fEb fPy fB fCc th fto fpay fcol fnow fthn foth fmnr fwts fmap fnxt (vp_updL fO 0 (lN (dst (PL g n k i t) (PL g n k w t) n))) fE).flatten H := hP
      have hD : va_D A (LB cY b rr a oo od n k n k fG fW fR1_1 fH fA fS fRs fOt fMi fEn fEb fPy fB fCc th fto fpay fcol fnow fthn foth fmnr fwts fmap fnxt (vp_updL fO 0 (lN (dst (PL g n k i t) (PL g n k w t) n))) fE).flatten := hD
      refine lv_istore (lv' := [(6, .int (nI 0)), (5, .int (nI z0)), (4, .ref od), (3, .ref oo), (2, .ref (a 0)), (1, .ref (b 0)), (0, .ref sc)]) hx hb dL_law__800 hl (by decide) rfl (fun ls hl => ?_)
      refine lv_aload_n hx hb dL_law__802 rfl (lv_at hl 4 rfl) ?_
      refine lv_aload_n hx hb dL_law__803 rfl (lv_at hl 6 rfl) ?_
      refine lv_iload hx hb dL_law__804 (lv_at hl 1 rfl) ?_
      refine lv_iconst (v := nI 1) hx hb dL_law__806 (by decide) ?_
      refine lv_iadd hx hb dL_law__807 ?_
      refine eqi (x' := nI (z0 + 1)) (nI_add _ _) ?_
      refine s_ld hx hb hsc hscl hscA hS (by omega) hL dL_law__808 ?_
      refine eqi (x' := nI i) e1 ?_
      refine lv_aload_n hx hb dL_law__809 rfl (lv_at hl 6 rfl) ?_
      refine lv_iload hx hb dL_law__810 (lv_at hl 1 rfl) ?_
      refine lv_iconst (v := nI 2) hx hb dL_law__812 (by decide) ?_
      refine lv_iadd hx hb dL_law__813 ?_
      refine eqi (x' := nI (z0 + 2)) (nI_add _ _) ?_
      refine s_ld hx hb hsc hscl hscA hS (by omega) hL dL_law__814 ?_
      refine eqi (x' := nI w) e2 ?_
      refine lv_aload_n hx hb dL_law__815 rfl (lv_at hl 6 rfl) ?_
      refine lv_iload hx hb dL_law__816 (lv_at hl 1 rfl) ?_
      refine lv_iconst (v := nI 3) hx hb dL_law__818 (by decide) ?_
      refine lv_iadd hx hb dL_law__819 ?_
      refine eqi (x' := nI (z0 + 3)) (nI_add _ _) ?_
      refine s_ld hx hb hsc hscl hscA hS (by omega) hL dL_law__820 ?_
      refine eqi (x' := nI t) e3 ?_
      refine ca_l (CL := [mO a (nI n) (nI k) th, [(a 1, .inl (cY 0, 72, .inl fto))], [(a 4, .inl (cY 1, 64, .inr (.inl fnow)))], [(a 5, .inl (cY 1, 64, .inr (.inl fthn)))], [(a 6, .inl (cY 1, 6, .inr (.inl foth)))]]) (va_runV (As := [.int (nI i), .int (nI w), .int (nI t)]) (rest := []) ⟨hx, hb, hml, hown, hts⟩ (c_X9_distance_ok l D cY H.size a n k th fto fnow fthn foth g i w t (by omega) (by omega) (by omega) (by omega) hT hgn (by omega) (by omega) (by omega)) (cwV 3 hts gL_law__X9_distance rfl rfl rfl (by decide +kernel) ⟨Nat.le_of_ble_eq_true rfl, Nat.le_of_ble_eq_true rfl⟩) (b_preV hVK hP hD [30, 31, 34, 35, 36] rfl rfl 30 rfl rfl) rfl rfl hl.1 rfl (lv_room (Nat.le_of_ble_eq_true rfl)) dL_law__821 ⟨by omega, by omega⟩) hP hD hS hA [30, 31, 34, 35, 36] rfl rfl (fun _ => rfl) (fun r821 uu H locs hq hP hD hS => ?_)
      obtain ⟨fnow1_2, fthn1_3, foth1_4⟩ := uu
      try dsimp only at hq
      subst hq
      have hP : va_P D vwCl (LB cY b rr a oo od n k n k fG fW fR1_1 fH fA fS fRs fOt fMi fEn fEb fPy fB fCc (nI 0) fto fpay fcol fnow1_2 fthn1_3 foth1_4 fmnr fwts fmap fnxt (vp_updL fO 0 (lN (dst (PL g n k i t) (PL g n k w t) n))) fE).flatten H := hP
      have hD : va_D A (LB cY b rr a oo od n k n k fG fW fR1_1 fH fA fS fRs fOt fMi fEn fEb fPy fB fCc (nI 0) fto fpay fcol fnow1_2 fthn1_3 foth1_4 fmnr fwts fmap fnxt (vp_updL fO 0 (lN (dst (PL g n k i t) (PL g n k w t) n))) fE).flatten := hD
      refine lv_lstore (lv' := [(7, .long (lN (dst (PL g n k i t) (PL g n k w t) n))), (6, .int (nI 0)), (5, .int (nI z0)), (4, .ref od), (3, .ref oo), (2, .ref (a 0)), (1, .ref (b 0)), (0, .ref sc)]) hx hb dL_law__824 hl (by decide) rfl (fun ls hl => ?_)
      refine lv_aload_n hx hb dL_law__826 rfl (lv_at hl 5 rfl) ?_
      refine ca_i (CL := [mO a (nI n) (nI k) (nI 0)]) (va_runV (As := []) (rest := []) ⟨hx, hb, hml, hown, hts⟩ (c_X9_thrown l D cY H.size a n k (nI 0)) (cwV 0 hts gL_law__X9_thrown rfl rfl rfl (by decide +kernel) ⟨Nat.le_of_ble_eq_true rfl, Nat.le_of_ble_eq_true rfl⟩) (b_preV hVK hP hD [30] rfl rfl 30 rfl rfl) rfl rfl hl.1 rfl (lv_room (Nat.le_of_ble_eq_true rfl)) dL_law__827 ⟨by omega, by omega⟩) hP hD hS hA [30] rfl rfl (fun _ => rfl) (fun r827 uu H locs hq hP hD hS => ?_)
      subst hq
      have hP : va_P D vwCl (LB cY b rr a oo od n k n k fG fW fR1_1 fH fA fS fRs fOt fMi fEn fEb fPy fB fCc (nI 0) fto fpay fcol fnow1_2 fthn1_3 foth1_4 fmnr fwts fmap fnxt (vp_updL fO 0 (lN (dst (PL g n k i t) (PL g n k w t) n))) fE).flatten H := hP
      have hD : va_D A (LB cY b rr a oo od n k n k fG fW fR1_1 fH fA fS fRs fOt fMi fEn fEb fPy fB fCc (nI 0) fto fpay fcol fnow1_2 fthn1_3 foth1_4 fmnr fwts fmap fnxt (vp_updL fO 0 (lN (dst (PL g n k i t) (PL g n k w t) n))) fE).flatten := hD
      refine lv_iload hx hb dL_law__830 (lv_at hl 1 rfl) ?_
      refine n_icmp_eq (tgt := 837) hx hb dL_law__832 (by decide) (by omega) (by omega) (fun h832 => ?_) (fun h832 => ?_)
      · -- t
        refine lv_iload hx hb dL_law__837 (lv_at hl 1 rfl) ?_
        refine n_if_ne (tgt := 853) hx hb dL_law__839 (by decide) (by omega) (fun h839 => ?_) (fun h839 => ?_)
        · -- t
          exact absurd rfl h839
        · -- f
          refine lv_aload_n hx hb dL_law__842 rfl (lv_at hl 4 rfl) ?_
          refine lv_iconst (v := nI 0) hx hb dL_law__843 (by decide) ?_
          refine b_lald hx hb hK hP 41 1 rfl rfl (by omega) (by omega) dL_law__844 ?_
          refine eql (x' := lN (dst (PL g n k i t) (PL g n k w t) n)) pk_uLs ?_
          refine lv_lload hx hb dL_law__845 (lv_at hl 0 rfl) ?_
          refine W.lcmp hx hb dL_law__847 ?_
          refine l_if_eq (tgt := 853) hx hb dL_law__848 (by decide) (fun h848 => ?_) (fun h848 => ?_)
          · -- t
            refine lv_goto (tgt := 1823) hx hb dL_law__853 (by decide) ?_
            refine W.widen (Nat.le_add_right cells 1) (Nat.le_add_right slots 6) ?_
            exact K n k g col fG fW fR1_1 fH fA fS fRs fOt fMi fEn fEb fPy fB fCc (nI 0) fto fpay fcol fnow1_2 fthn1_3 foth1_4 fmnr fwts fmap fnxt (vp_updL fO 0 (lN (dst (PL g n k i t) (PL g n k w t) n))) fE hI _ _ hP hD hS _ (lv_sub hl [2, 3, 4, 5, 6, 7] rfl)
          · -- f
            exact absurd (rfl) h848
      · -- f
        exact absurd rfl h832
    · -- not
      refine lv_aload_n hx hb dL_law__777 rfl (lv_at hl 4 rfl) ?_
      refine lv_aload_n hx hb dL_law__778 rfl (lv_at hl 5 rfl) ?_
      refine lv_iload hx hb dL_law__779 (lv_at hl 0 rfl) ?_
      refine lv_iconst (v := nI 1) hx hb dL_law__781 (by decide) ?_
      refine lv_iadd hx hb dL_law__782 ?_
      refine eqi (x' := nI (z0 + 1)) (nI_add _ _) ?_
      refine s_ld hx hb hsc hscl hscA hS (by omega) hL dL_law__783 ?_
      refine lv_aload_n hx hb dL_law__784 rfl (lv_at hl 5 rfl) ?_
      refine lv_iload hx hb dL_law__785 (lv_at hl 0 rfl) ?_
      refine lv_iconst (v := nI 2) hx hb dL_law__787 (by decide) ?_
      refine lv_iadd hx hb dL_law__788 ?_
      refine eqi (x' := nI (z0 + 2)) (nI_add _ _) ?_
      refine s_ld hx hb hsc hscl hscA hS (by omega) hL dL_law__789 ?_
      refine lv_aload_n hx hb dL_law__790 rfl (lv_at hl 5 rfl) ?_
      refine lv_iload hx hb dL_law__791 (lv_at hl 0 rfl) ?_
      refine lv_iconst (v := nI 3) hx hb dL_law__793 (by decide) ?_
      refine lv_iadd hx hb dL_law__794 ?_
      refine eqi (x' := nI (z0 + 3)) (nI_add _ _) ?_
      refine s_ld hx hb hsc hscl hscA hS (by omega) hL dL_law__795 ?_
      refine lv_aload_n hx hb dL_law__796 rfl (lv_at hl 2 rfl) ?_
      refine hh_i (CL := [hO b, cO b (nI n) (nI k), [(oo, .inl (cY 1, 1, .inr (.inl fO)))]]) (vx_runSX (As := [.ref (b 0), .int (xs (z0 + 1)), .int (xs (z0 + 2)), .int (xs (z0 + 3)), .ref oo]) (rest := []) ⟨hx, hb, hml, hown, hts⟩ (c_L_distance_b2 l D cY H.size b n k (xs (z0 + 1)) (xs (z0 + 2)) (xs (z0 + 3)) oo fO hlT (by omega) (by omega) (by omega) (by omega) hc1 hc2) (vx_cwSW 5 hts gL_law__L_distance rfl rfl rfl (by decide +kernel) ⟨Nat.le_of_ble_eq_true rfl, Nat.le_of_ble_eq_true rfl⟩) (b_preHS hVK hP hD hS hA hX hH [0, 1, 41] rfl rfl) rfl rfl hl.1 rfl (lv_room (Nat.le_of_ble_eq_true rfl)) dL_law__797 ⟨by omega, by omega⟩) hP hD hS hA [0, 1, 41] rfl rfl (fun _ => rfl) (fun r797 uu H locs hq hP hD hS => ?_)
      subst hq
      have hP : va_P D vwCl (LB cY b rr a oo od n k n k fG fW fR fH fA fS fRs fOt fMi fEn fEb fPy fB fCc th fto fpay fcol fnow fthn foth fmnr fwts fmap fnxt fO fE).flatten H := hP
      have hD : va_D A (LB cY b rr a oo od n k n k fG fW fR fH fA fS fRs fOt fMi fEn fEb fPy fB fCc th fto fpay fcol fnow fthn foth fmnr fwts fmap fnxt fO fE).flatten := hD
      refine lv_istore (lv' := [(6, .int (nI 2)), (5, .int (nI z0)), (4, .ref od), (3, .ref oo), (2, .ref (a 0)), (1, .ref (b 0)), (0, .ref sc)]) hx hb dL_law__800 hl (by decide) rfl (fun ls hl => ?_)
      refine lv_aload_n hx hb dL_law__802 rfl (lv_at hl 4 rfl) ?_
      refine lv_aload_n hx hb dL_law__803 rfl (lv_at hl 6 rfl) ?_
      refine lv_iload hx hb dL_law__804 (lv_at hl 1 rfl) ?_
      refine lv_iconst (v := nI 1) hx hb dL_law__806 (by decide) ?_
      refine lv_iadd hx hb dL_law__807 ?_
      refine eqi (x' := nI (z0 + 1)) (nI_add _ _) ?_
      refine s_ld hx hb hsc hscl hscA hS (by omega) hL dL_law__808 ?_
      refine lv_aload_n hx hb dL_law__809 rfl (lv_at hl 6 rfl) ?_
      refine lv_iload hx hb dL_law__810 (lv_at hl 1 rfl) ?_
      refine lv_iconst (v := nI 2) hx hb dL_law__812 (by decide) ?_
      refine lv_iadd hx hb dL_law__813 ?_
      refine eqi (x' := nI (z0 + 2)) (nI_add _ _) ?_
      refine s_ld hx hb hsc hscl hscA hS (by omega) hL dL_law__814 ?_
      refine lv_aload_n hx hb dL_law__815 rfl (lv_at hl 6 rfl) ?_
      refine lv_iload hx hb dL_law__816 (lv_at hl 1 rfl) ?_
      refine lv_iconst (v := nI 3) hx hb dL_law__818 (by decide) ?_
      refine lv_iadd hx hb dL_law__819 ?_
      refine eqi (x' := nI (z0 + 3)) (nI_add _ _) ?_
      refine s_ld hx hb hsc hscl hscA hS (by omega) hL dL_law__820 ?_
      refine ca_l (CL := [mO a (nI n) (nI k) th]) (va_runV (As := [.int (xs (z0 + 1)), .int (xs (z0 + 2)), .int (xs (z0 + 3))]) (rest := []) ⟨hx, hb, hml, hown, hts⟩ (c_X9_distance_b2 l D cY H.size a n k th (xs (z0 + 1)) (xs (z0 + 2)) (xs (z0 + 3)) (by omega) (by omega) (by omega) (by omega) hc1 hc2) (cwV 3 hts gL_law__X9_distance rfl rfl rfl (by decide +kernel) ⟨Nat.le_of_ble_eq_true rfl, Nat.le_of_ble_eq_true rfl⟩) (b_preV hVK hP hD [30] rfl rfl 30 rfl rfl) rfl rfl hl.1 rfl (lv_room (Nat.le_of_ble_eq_true rfl)) dL_law__821 ⟨by omega, by omega⟩) hP hD hS hA [30] rfl rfl (fun _ => rfl) (fun r821 uu H locs hq hP hD hS => ?_)
      subst hq
      have hP : va_P D vwCl (LB cY b rr a oo od n k n k fG fW fR fH fA fS fRs fOt fMi fEn fEb fPy fB fCc (nI 2) fto fpay fcol fnow fthn foth fmnr fwts fmap fnxt fO fE).flatten H := hP
      have hD : va_D A (LB cY b rr a oo od n k n k fG fW fR fH fA fS fRs fOt fMi fEn fEb fPy fB fCc (nI 2) fto fpay fcol fnow fthn foth fmnr fwts fmap fnxt fO fE).flatten := hD
      refine lv_lstore (lv' := [(7, .long (lN 0)), (6, .int (nI 2)), (5, .int (nI z0)), (4, .ref od), (3, .ref oo), (2, .ref (a 0)), (1, .ref (b 0)), (0, .ref sc)]) hx hb dL_law__824 hl (by decide) rfl (fun ls hl => ?_)
      refine lv_aload_n hx hb dL_law__826 rfl (lv_at hl 5 rfl) ?_
      refine ca_i (CL := [mO a (nI n) (nI k) (nI 2)]) (va_runV (As := []) (rest := []) ⟨hx, hb, hml, hown, hts⟩ (c_X9_thrown l D cY H.size a n k (nI 2)) (cwV 0 hts gL_law__X9_thrown rfl rfl rfl (by decide +kernel) ⟨Nat.le_of_ble_eq_true rfl, Nat.le_of_ble_eq_true rfl⟩) (b_preV hVK hP hD [30] rfl rfl 30 rfl rfl) rfl rfl hl.1 rfl (lv_room (Nat.le_of_ble_eq_true rfl)) dL_law__827 ⟨by omega, by omega⟩) hP hD hS hA [30] rfl rfl (fun _ => rfl) (fun r827 uu H locs hq hP hD hS => ?_)
      subst hq
      have hP : va_P D vwCl (LB cY b rr a oo od n k n k fG fW fR fH fA fS fRs fOt fMi fEn fEb fPy fB fCc (nI 2) fto fpay fcol fnow fthn foth fmnr fwts fmap fnxt fO fE).flatten H := hP
      have hD : va_D A (LB cY b rr a oo od n k n k fG fW fR fH fA fS fRs fOt fMi fEn fEb fPy fB fCc (nI 2) fto fpay fcol fnow fthn foth fmnr fwts fmap fnxt fO fE).flatten := hD
      refine lv_iload hx hb dL_law__830 (lv_at hl 1 rfl) ?_
      refine n_icmp_eq (tgt := 837) hx hb dL_law__832 (by decide) (by omega) (by omega) (fun h832 => ?_) (fun h832 => ?_)
      · -- t
        refine lv_iload hx hb dL_law__837 (lv_at hl 1 rfl) ?_
        refine n_if_ne (tgt := 853) hx hb dL_law__839 (by decide) (by omega) (fun h839 => ?_) (fun h839 => ?_)
        · -- t
          refine lv_goto (tgt := 1823) hx hb dL_law__853 (by decide) ?_
          exact K n k g col fG fW fR fH fA fS fRs fOt fMi fEn fEb fPy fB fCc (nI 2) fto fpay fcol fnow fthn foth fmnr fwts fmap fnxt fO fE hI _ _ hP hD hS _ (lv_sub hl [2, 3, 4, 5, 6, 7] rfl)
        · -- f
          exact absurd h839 (by decide)
      · -- f
        exact absurd rfl h832
  · -- not
    refine lv_aload_n hx hb dL_law__777 rfl (lv_at hl 4 rfl) ?_
    refine lv_aload_n hx hb dL_law__778 rfl (lv_at hl 5 rfl) ?_
    refine lv_iload hx hb dL_law__779 (lv_at hl 0 rfl) ?_
    refine lv_iconst (v := nI 1) hx hb dL_law__781 (by decide) ?_
    refine lv_iadd hx hb dL_law__782 ?_
    refine eqi (x' := nI (z0 + 1)) (nI_add _ _) ?_
    refine s_ld hx hb hsc hscl hscA hS (by omega) hL dL_law__783 ?_
    refine lv_aload_n hx hb dL_law__784 rfl (lv_at hl 5 rfl) ?_
    refine lv_iload hx hb dL_law__785 (lv_at hl 0 rfl) ?_
    refine lv_iconst (v := nI 2) hx hb dL_law__787 (by decide) ?_
    refine lv_iadd hx hb dL_law__788 ?_
    refine eqi (x' := nI (z0 + 2)) (nI_add _ _) ?_
    refine s_ld hx hb hsc hscl hscA hS (by omega) hL dL_law__789 ?_
    refine lv_aload_n hx hb dL_law__790 rfl (lv_at hl 5 rfl) ?_
    refine lv_iload hx hb dL_law__791 (lv_at hl 0 rfl) ?_
    refine lv_iconst (v := nI 3) hx hb dL_law__793 (by decide) ?_
    refine lv_iadd hx hb dL_law__794 ?_
    refine eqi (x' := nI (z0 + 3)) (nI_add _ _) ?_
    refine s_ld hx hb hsc hscl hscA hS (by omega) hL dL_law__795 ?_
    refine lv_aload_n hx hb dL_law__796 rfl (lv_at hl 2 rfl) ?_
    refine hh_i (CL := [hO b, cO b (nI n) (nI k), [(oo, .inl (cY 1, 1, .inr (.inl fO)))]]) (vx_runSX (As := [.ref (b 0), .int (xs (z0 + 1)), .int (xs (z0 + 2)), .int (xs (z0 + 3)), .ref oo]) (rest := []) ⟨hx, hb, hml, hown, hts⟩ (c_L_distance_b1 l D cY H.size b n k (xs (z0 + 1)) (xs (z0 + 2)) (xs (z0 + 3)) oo fO hlT (by omega) (by omega) (by omega) (by omega) hc1) (vx_cwSW 5 hts gL_law__L_distance rfl rfl rfl (by decide +kernel) ⟨Nat.le_of_ble_eq_true rfl, Nat.le_of_ble_eq_true rfl⟩) (b_preHS hVK hP hD hS hA hX hH [0, 1, 41] rfl rfl) rfl rfl hl.1 rfl (lv_room (Nat.le_of_ble_eq_true rfl)) dL_law__797 ⟨by omega, by omega⟩) hP hD hS hA [0, 1, 41] rfl rfl (fun _ => rfl) (fun r797 uu H locs hq hP hD hS => ?_)
    subst hq
    have hP : va_P D vwCl (LB cY b rr a oo od n k n k fG fW fR fH fA fS fRs fOt fMi fEn fEb fPy fB fCc th fto fpay fcol fnow fthn foth fmnr fwts fmap fnxt fO fE).flatten H := hP
    have hD : va_D A (LB cY b rr a oo od n k n k fG fW fR fH fA fS fRs fOt fMi fEn fEb fPy fB fCc th fto fpay fcol fnow fthn foth fmnr fwts fmap fnxt fO fE).flatten := hD
    refine lv_istore (lv' := [(6, .int (nI 1)), (5, .int (nI z0)), (4, .ref od), (3, .ref oo), (2, .ref (a 0)), (1, .ref (b 0)), (0, .ref sc)]) hx hb dL_law__800 hl (by decide) rfl (fun ls hl => ?_)
    refine lv_aload_n hx hb dL_law__802 rfl (lv_at hl 4 rfl) ?_
    refine lv_aload_n hx hb dL_law__803 rfl (lv_at hl 6 rfl) ?_
    refine lv_iload hx hb dL_law__804 (lv_at hl 1 rfl) ?_
    refine lv_iconst (v := nI 1) hx hb dL_law__806 (by decide) ?_
    refine lv_iadd hx hb dL_law__807 ?_
    refine eqi (x' := nI (z0 + 1)) (nI_add _ _) ?_
    refine s_ld hx hb hsc hscl hscA hS (by omega) hL dL_law__808 ?_
    refine lv_aload_n hx hb dL_law__809 rfl (lv_at hl 6 rfl) ?_
    refine lv_iload hx hb dL_law__810 (lv_at hl 1 rfl) ?_
    refine lv_iconst (v := nI 2) hx hb dL_law__812 (by decide) ?_
    refine lv_iadd hx hb dL_law__813 ?_
    refine eqi (x' := nI (z0 + 2)) (nI_add _ _) ?_
    refine s_ld hx hb hsc hscl hscA hS (by omega) hL dL_law__814 ?_
    refine lv_aload_n hx hb dL_law__815 rfl (lv_at hl 6 rfl) ?_
    refine lv_iload hx hb dL_law__816 (lv_at hl 1 rfl) ?_
    refine lv_iconst (v := nI 3) hx hb dL_law__818 (by decide) ?_
    refine lv_iadd hx hb dL_law__819 ?_
    refine eqi (x' := nI (z0 + 3)) (nI_add _ _) ?_
    refine s_ld hx hb hsc hscl hscA hS (by omega) hL dL_law__820 ?_
    refine ca_l (CL := [mO a (nI n) (nI k) th]) (va_runV (As := [.int (xs (z0 + 1)), .int (xs (z0 + 2)), .int (xs (z0 + 3))]) (rest := []) ⟨hx, hb, hml, hown, hts⟩ (c_X9_distance_b1 l D cY H.size a n k th (xs (z0 + 1)) (xs (z0 + 2)) (xs (z0 + 3)) (by omega) (by omega) (by omega) (by omega) hc1) (cwV 3 hts gL_law__X9_distance rfl rfl rfl (by decide +kernel) ⟨Nat.le_of_ble_eq_true rfl, Nat.le_of_ble_eq_true rfl⟩) (b_preV hVK hP hD [30] rfl rfl 30 rfl rfl) rfl rfl hl.1 rfl (lv_room (Nat.le_of_ble_eq_true rfl)) dL_law__821 ⟨by omega, by omega⟩) hP hD hS hA [30] rfl rfl (fun _ => rfl) (fun r821 uu H locs hq hP hD hS => ?_)
    subst hq
    have hP : va_P D vwCl (LB cY b rr a oo od n k n k fG fW fR fH fA fS fRs fOt fMi fEn fEb fPy fB fCc (nI 1) fto fpay fcol fnow fthn foth fmnr fwts fmap fnxt fO fE).flatten H := hP
    have hD : va_D A (LB cY b rr a oo od n k n k fG fW fR fH fA fS fRs fOt fMi fEn fEb fPy fB fCc (nI 1) fto fpay fcol fnow fthn foth fmnr fwts fmap fnxt fO fE).flatten := hD
    refine lv_lstore (lv' := [(7, .long (lN 0)), (6, .int (nI 1)), (5, .int (nI z0)), (4, .ref od), (3, .ref oo), (2, .ref (a 0)), (1, .ref (b 0)), (0, .ref sc)]) hx hb dL_law__824 hl (by decide) rfl (fun ls hl => ?_)
    refine lv_aload_n hx hb dL_law__826 rfl (lv_at hl 5 rfl) ?_
    refine ca_i (CL := [mO a (nI n) (nI k) (nI 1)]) (va_runV (As := []) (rest := []) ⟨hx, hb, hml, hown, hts⟩ (c_X9_thrown l D cY H.size a n k (nI 1)) (cwV 0 hts gL_law__X9_thrown rfl rfl rfl (by decide +kernel) ⟨Nat.le_of_ble_eq_true rfl, Nat.le_of_ble_eq_true rfl⟩) (b_preV hVK hP hD [30] rfl rfl 30 rfl rfl) rfl rfl hl.1 rfl (lv_room (Nat.le_of_ble_eq_true rfl)) dL_law__827 ⟨by omega, by omega⟩) hP hD hS hA [30] rfl rfl (fun _ => rfl) (fun r827 uu H locs hq hP hD hS => ?_)
    subst hq
    have hP : va_P D vwCl (LB cY b rr a oo od n k n k fG fW fR fH fA fS fRs fOt fMi fEn fEb fPy fB fCc (nI 1) fto fpay fcol fnow fthn foth fmnr fwts fmap fnxt fO fE).flatten H := hP
    have hD : va_D A (LB cY b rr a oo od n k n k fG fW fR fH fA fS fRs fOt fMi fEn fEb fPy fB fCc (nI 1) fto fpay fcol fnow fthn foth fmnr fwts fmap fnxt fO fE).flatten := hD
    refine lv_iload hx hb dL_law__830 (lv_at hl 1 rfl) ?_
    refine n_icmp_eq (tgt := 837) hx hb dL_law__832 (by decide) (by omega) (by omega) (fun h832 => ?_) (fun h832 => ?_)
    · -- t
      refine lv_iload hx hb dL_law__837 (lv_at hl 1 rfl) ?_
      refine n_if_ne (tgt := 853) hx hb dL_law__839 (by decide) (by omega) (fun h839 => ?_) (fun h839 => ?_)
      · -- t
        refine lv_goto (tgt := 1823) hx hb dL_law__853 (by decide) ?_
        exact K n k g col fG fW fR fH fA fS fRs fOt fMi fEn fEb fPy fB fCc (nI 1) fto fpay fcol fnow fthn foth fmnr fwts fmap fnxt fO fE hI _ _ hP hD hS _ (lv_sub hl [2, 3, 4, 5, 6, 7] rfl)
      · -- f
        exact absurd h839 (by decide)
    · -- f
      exact absurd rfl h832

set_option maxHeartbeats 8000000 in
set_option maxRecDepth 100000 in
theorem lc_mixing {p : Program} {l : Launch} {e : Env} {s : State} {m : MethodId} {below : List Frame} {meth : Method} {c : Code} {H : Heap} {locs : List Loc} {cells slots : Nat} {Q : State → Prop} {D : va_G} {cY : Nat → ClassId} {A : Nat → Prop} {sc L : Nat} {xs : Nat → Int32} {b : Nat → Nat} {rr : Nat → Nat → Nat} {a : Nat → Nat} {oo od z0 : Nat} {ls : Array Slot} (E : LE p s m sc c D cY A L xs) (hlT : l.stackTraces = false) (hi4 : z0 + 4 ≤ L) (hL : L ≤ 2048) (hroom : cells + 1 ≤ room_1.cells ∧ slots + 6 ≤ room_1.slots) {n k : Nat} {g : Nat → Nat → Nat} {col : Nat → Nat} {fG fW : Nat → Nat → Int32} {fR fH fA fS : Nat → Nat → Int64} {fRs : Nat → Int64} {fOt : Nat → Int32} {fMi : Nat → Int64} {fEn fEb fPy : Nat → Int32} {fB : Nat → Nat → Int64} {fCc : Nat → Int32} {th : Int32} {fto fpay fcol : Nat → Int32} {fnow fthn foth fmnr fwts : Nat → Int64} {fmap fnxt : Nat → Int32} {fO : Nat → Int64} {fE : Nat → UInt64} (hI : LV n k g col fG fW fPy fCc fto fpay fcol) (hP : va_P D vwCl (LB cY b rr a oo od n k n k fG fW fR fH fA fS fRs fOt fMi fEn fEb fPy fB fCc th fto fpay fcol fnow fthn foth fmnr fwts fmap fnxt fO fE).flatten H) (hD : va_D A (LB cY b rr a oo od n k n k fG fW fR fH fA fS fRs fOt fMi fEn fEb fPy fB fCc th fto fpay fcol fnow fthn foth fmnr fwts fmap fnxt fO fE).flatten) (hS : va_S A s.heap H locs) (hl : lv_has ls 9 [(5, .int (nI z0)), (4, .ref od), (3, .ref oo), (2, .ref (a 0)), (1, .ref (b 0)), (0, .ref sc)]) (K : LK p l e s m below meth c sc D cY A b rr a oo od z0 cells slots Q) : W p l e room_1 s m #[Value.ref sc] below meth c H locs cells slots Q (F0 m 856 ls []) := by
  obtain ⟨hx, hb, hml, hts, hown, hK, hVK, hA, hX, hH, hsc, hscl, hscA⟩ := E
  obtain ⟨⟨hn1, hn6, hk1, hk12⟩, hG, hgn, hW, hT, hPy, hC6⟩ := id hI
  rcases Bool.eq_false_or_eq_true (inR (xs (z0 + 1)) (nI 0) (nI 1000)) with hc1 | hc1
  · -- holds
    obtain ⟨th2, hth2_, e1⟩ := inR_of (by omega) hc1
    refine lv_aload_n hx hb dL_law__856 rfl (lv_at hl 4 rfl) ?_
    refine lv_aload_n hx hb dL_law__857 rfl (lv_at hl 5 rfl) ?_
    refine lv_iload hx hb dL_law__858 (lv_at hl 0 rfl) ?_
    refine lv_iconst (v := nI 1) hx hb dL_law__860 (by decide) ?_
    refine lv_iadd hx hb dL_law__861 ?_
    refine eqi (x' := nI (z0 + 1)) (nI_add _ _) ?_
    refine s_ld hx hb hsc hscl hscA hS (by omega) hL dL_law__862 ?_
    refine eqi (x' := nI th2) e1 ?_
    refine lv_aload_n hx hb dL_law__863 rfl (lv_at hl 2 rfl) ?_
    refine hh_i (CL := [hO b, cO b (nI n) (nI k), lO b, oQ (cY 2) (b 3) (rr 1) 6, gI (cY 0) (rr 1) 6 fW 6, oQ (cY 3) (b 5) (rr 2) 13, gJ (cY 1) (rr 2) 36 fR 13, [(oo, .inl (cY 1, 1, .inr (.inl fO)))]]) (vx_runSX (As := [.ref (b 0), .int (nI th2), .ref oo]) (rest := []) ⟨hx, hb, hml, hown, hts⟩ (c_L_mixing_ok l D cY H.size b rr n k fW fR g th2 oo fO (by omega) (by omega) (by omega) (by omega) hgn hW (by omega)) (vx_cwSW 3 hts gL_law__L_mixing rfl rfl rfl (by decide +kernel) ⟨Nat.le_of_ble_eq_true rfl, Nat.le_of_ble_eq_true rfl⟩) (b_preHS hVK hP hD hS hA hX hH [0, 1, 6, 4, 5, 7, 8, 41] rfl rfl) rfl rfl hl.1 rfl (lv_room (Nat.le_of_ble_eq_true rfl)) dL_law__864 ⟨by omega, by omega⟩) hP hD hS hA [0, 1, 6, 4, 5, 7, 8, 41] rfl rfl (fun _ => rfl) (fun r864 uu H locs hq hP hD hS => ?_)
    obtain ⟨fR1_1, rfl⟩ : ∃ z, z = uu := ⟨_, rfl⟩
    try dsimp only at hq
    subst hq
    have hP : va_P D vwCl (LB cY b rr a oo od n k n k fG fW fR1_1 fH fA fS fRs fOt fMi fEn fEb fPy fB fCc th fto fpay fcol fnow fthn foth fmnr fwts fmap fnxt (vp_updL fO 0 ((mxs (mixA g n k th2) 13 0).toInt64)) fE).flatten H := hP
    have hD : va_D A (LB cY b rr a oo od n k n k fG fW fR1_1 fH fA fS fRs fOt fMi fEn fEb fPy fB fCc th fto fpay fcol fnow fthn foth fmnr fwts fmap fnxt (vp_updL fO 0 ((mxs (mixA g n k th2) 13 0).toInt64)) fE).flatten := hD
    refine lv_istore (lv' := [(6, .int (nI 0)), (5, .int (nI z0)), (4, .ref od), (3, .ref oo), (2, .ref (a 0)), (1, .ref (b 0)), (0, .ref sc)]) hx hb dL_law__867 hl (by decide) rfl (fun ls hl => ?_)
    refine lv_aload_n hx hb dL_law__869 rfl (lv_at hl 4 rfl) ?_
    refine lv_aload_n hx hb dL_law__870 rfl (lv_at hl 6 rfl) ?_
    refine lv_iload hx hb dL_law__871 (lv_at hl 1 rfl) ?_
    refine lv_iconst (v := nI 1) hx hb dL_law__873 (by decide) ?_
    refine lv_iadd hx hb dL_law__874 ?_
    refine eqi (x' := nI (z0 + 1)) (nI_add _ _) ?_
    refine s_ld hx hb hsc hscl hscA hS (by omega) hL dL_law__875 ?_
    refine eqi (x' := nI th2) e1 ?_
    refine ca_i (CL := [mO a (nI n) (nI k) th, [(a 1, .inl (cY 0, 72, .inl fto))], [(a 4, .inl (cY 1, 64, .inr (.inl fnow)))], [(a 5, .inl (cY 1, 64, .inr (.inl fthn)))], [(a 6, .inl (cY 1, 6, .inr (.inl foth)))]]) (va_runV (As := [.int (nI th2)]) (rest := []) ⟨hx, hb, hml, hown, hts⟩ (c_X9_mixing l D cY H.size a n k th fto fnow fthn foth g th2 (by omega) (by omega) (by omega) (by omega) hT hgn (by omega)) (cwV 1 hts gL_law__X9_mixing rfl rfl rfl (by decide +kernel) ⟨Nat.le_of_ble_eq_true rfl, Nat.le_of_ble_eq_true rfl⟩) (b_preV hVK hP hD [30, 31, 34, 35, 36] rfl rfl 30 rfl rfl) rfl rfl hl.1 rfl (lv_room (Nat.le_of_ble_eq_true rfl)) dL_law__876 ⟨by omega, by omega⟩) hP hD hS hA [30, 31, 34, 35, 36] rfl rfl (fun _ => rfl) (fun r876 uu H locs hq hP hD hS => ?_)
    obtain ⟨fnow1_2, fthn1_3, foth1_4⟩ := uu
    try dsimp only at hq
    subst hq
    have hP : va_P D vwCl (LB cY b rr a oo od n k n k fG fW fR1_1 fH fA fS fRs fOt fMi fEn fEb fPy fB fCc (nI 0) fto fpay fcol fnow1_2 fthn1_3 foth1_4 fmnr fwts fmap fnxt (vp_updL fO 0 ((mxs (mixA g n k th2) 13 0).toInt64)) fE).flatten H := hP
    have hD : va_D A (LB cY b rr a oo od n k n k fG fW fR1_1 fH fA fS fRs fOt fMi fEn fEb fPy fB fCc (nI 0) fto fpay fcol fnow1_2 fthn1_3 foth1_4 fmnr fwts fmap fnxt (vp_updL fO 0 ((mxs (mixA g n k th2) 13 0).toInt64)) fE).flatten := hD
    refine lv_istore (lv' := [(7, .int (fnd (mixB g n k th2) 13)), (6, .int (nI 0)), (5, .int (nI z0)), (4, .ref od), (3, .ref oo), (2, .ref (a 0)), (1, .ref (b 0)), (0, .ref sc)]) hx hb dL_law__879 hl (by decide) rfl (fun ls hl => ?_)
    refine lv_aload_n hx hb dL_law__881 rfl (lv_at hl 5 rfl) ?_
    refine ca_i (CL := [mO a (nI n) (nI k) (nI 0)]) (va_runV (As := []) (rest := []) ⟨hx, hb, hml, hown, hts⟩ (c_X9_thrown l D cY H.size a n k (nI 0)) (cwV 0 hts gL_law__X9_thrown rfl rfl rfl (by decide +kernel) ⟨Nat.le_of_ble_eq_true rfl, Nat.le_of_ble_eq_true rfl⟩) (b_preV hVK hP hD [30] rfl rfl 30 rfl rfl) rfl rfl hl.1 rfl (lv_room (Nat.le_of_ble_eq_true rfl)) dL_law__882 ⟨by omega, by omega⟩) hP hD hS hA [30] rfl rfl (fun _ => rfl) (fun r882 uu H locs hq hP hD hS => ?_)
    subst hq
    have hP : va_P D vwCl (LB cY b rr a oo od n k n k fG fW fR1_1 fH fA fS fRs fOt fMi fEn fEb fPy fB fCc (nI 0) fto fpay fcol fnow1_2 fthn1_3 foth1_4 fmnr fwts fmap fnxt (vp_updL fO 0 ((mxs (mixA g n k th2) 13 0).toInt64)) fE).flatten H := hP
    have hD : va_D A (LB cY b rr a oo od n k n k fG fW fR1_1 fH fA fS fRs fOt fMi fEn fEb fPy fB fCc (nI 0) fto fpay fcol fnow1_2 fthn1_3 foth1_4 fmnr fwts fmap fnxt (vp_updL fO 0 ((mxs (mixA g n k th2) 13 0).toInt64)) fE).flatten := hD
    refine lv_iload hx hb dL_law__885 (lv_at hl 1 rfl) ?_
    refine n_icmp_eq (tgt := 892) hx hb dL_law__887 (by decide) (by omega) (by omega) (fun h887 => ?_) (fun h887 => ?_)
    · -- t
      refine lv_iload hx hb dL_law__892 (lv_at hl 1 rfl) ?_
      refine n_if_ne (tgt := 909) hx hb dL_law__894 (by decide) (by omega) (fun h894 => ?_) (fun h894 => ?_)
      · -- t
        exact absurd rfl h894
      · -- f
        refine lv_aload_n hx hb dL_law__897 rfl (lv_at hl 4 rfl) ?_
        refine lv_iconst (v := nI 0) hx hb dL_law__898 (by decide) ?_
        refine b_lald hx hb hK hP 41 1 rfl rfl (by omega) (by omega) dL_law__899 ?_
        refine eql (x' := (mxs (mixA g n k th2) 13 0).toInt64) pk_uLs ?_
        refine lv_iload hx hb dL_law__900 (lv_at hl 0 rfl) ?_
        refine lv_i2l (v := (fnd (mixB g n k th2) 13).toInt64) hx hb dL_law__902 rfl ?_
        refine W.lcmp hx hb dL_law__903 ?_
        refine l_if_eq (tgt := 909) hx hb dL_law__904 (by decide) (fun h904 => ?_) (fun h904 => ?_)
        · -- t
          refine lv_goto (tgt := 1823) hx hb dL_law__909 (by decide) ?_
          refine W.widen (Nat.le_add_right cells 1) (Nat.le_add_right slots 6) ?_
          exact K n k g col fG fW fR1_1 fH fA fS fRs fOt fMi fEn fEb fPy fB fCc (nI 0) fto fpay fcol fnow1_2 fthn1_3 foth1_4 fmnr fwts fmap fnxt (vp_updL fO 0 ((mxs (mixA g n k th2) 13 0).toInt64)) fE hI _ _ hP hD hS _ (lv_sub hl [2, 3, 4, 5, 6, 7] rfl)
        · -- f
          exact absurd (congrArg Int32.toInt64 (mix_eq hgn)) h904
    · -- f
      exact absurd rfl h887
  · -- not
    refine lv_aload_n hx hb dL_law__856 rfl (lv_at hl 4 rfl) ?_
    refine lv_aload_n hx hb dL_law__857 rfl (lv_at hl 5 rfl) ?_
    refine lv_iload hx hb dL_law__858 (lv_at hl 0 rfl) ?_
    refine lv_iconst (v := nI 1) hx hb dL_law__860 (by decide) ?_
    refine lv_iadd hx hb dL_law__861 ?_
    refine eqi (x' := nI (z0 + 1)) (nI_add _ _) ?_
    refine s_ld hx hb hsc hscl hscA hS (by omega) hL dL_law__862 ?_
    refine lv_aload_n hx hb dL_law__863 rfl (lv_at hl 2 rfl) ?_
    refine hh_i (CL := [hO b, cO b (nI n) (nI k), [(oo, .inl (cY 1, 1, .inr (.inl fO)))]]) (vx_runSX (As := [.ref (b 0), .int (xs (z0 + 1)), .ref oo]) (rest := []) ⟨hx, hb, hml, hown, hts⟩ (c_L_mixing_bad l D cY H.size b n k (xs (z0 + 1)) oo fO hlT (by omega) (by omega) (by omega) (by omega) hc1) (vx_cwSW 3 hts gL_law__L_mixing rfl rfl rfl (by decide +kernel) ⟨Nat.le_of_ble_eq_true rfl, Nat.le_of_ble_eq_true rfl⟩) (b_preHS hVK hP hD hS hA hX hH [0, 1, 41] rfl rfl) rfl rfl hl.1 rfl (lv_room (Nat.le_of_ble_eq_true rfl)) dL_law__864 ⟨by omega, by omega⟩) hP hD hS hA [0, 1, 41] rfl rfl (fun _ => rfl) (fun r864 uu H locs hq hP hD hS => ?_)
    subst hq
    have hP : va_P D vwCl (LB cY b rr a oo od n k n k fG fW fR fH fA fS fRs fOt fMi fEn fEb fPy fB fCc th fto fpay fcol fnow fthn foth fmnr fwts fmap fnxt fO fE).flatten H := hP
    have hD : va_D A (LB cY b rr a oo od n k n k fG fW fR fH fA fS fRs fOt fMi fEn fEb fPy fB fCc th fto fpay fcol fnow fthn foth fmnr fwts fmap fnxt fO fE).flatten := hD
    refine lv_istore (lv' := [(6, .int (nI 1)), (5, .int (nI z0)), (4, .ref od), (3, .ref oo), (2, .ref (a 0)), (1, .ref (b 0)), (0, .ref sc)]) hx hb dL_law__867 hl (by decide) rfl (fun ls hl => ?_)
    refine lv_aload_n hx hb dL_law__869 rfl (lv_at hl 4 rfl) ?_
    refine lv_aload_n hx hb dL_law__870 rfl (lv_at hl 6 rfl) ?_
    refine lv_iload hx hb dL_law__871 (lv_at hl 1 rfl) ?_
    refine lv_iconst (v := nI 1) hx hb dL_law__873 (by decide) ?_
    refine lv_iadd hx hb dL_law__874 ?_
    refine eqi (x' := nI (z0 + 1)) (nI_add _ _) ?_
    refine s_ld hx hb hsc hscl hscA hS (by omega) hL dL_law__875 ?_
    refine ca_i (CL := [mO a (nI n) (nI k) th]) (va_runV (As := [.int (xs (z0 + 1))]) (rest := []) ⟨hx, hb, hml, hown, hts⟩ (c_X9_mixing_bad l D cY H.size a n k th (xs (z0 + 1)) (by omega) (by omega) (by omega) (by omega) hc1) (cwV 1 hts gL_law__X9_mixing rfl rfl rfl (by decide +kernel) ⟨Nat.le_of_ble_eq_true rfl, Nat.le_of_ble_eq_true rfl⟩) (b_preV hVK hP hD [30] rfl rfl 30 rfl rfl) rfl rfl hl.1 rfl (lv_room (Nat.le_of_ble_eq_true rfl)) dL_law__876 ⟨by omega, by omega⟩) hP hD hS hA [30] rfl rfl (fun _ => rfl) (fun r876 uu H locs hq hP hD hS => ?_)
    subst hq
    have hP : va_P D vwCl (LB cY b rr a oo od n k n k fG fW fR fH fA fS fRs fOt fMi fEn fEb fPy fB fCc (nI 1) fto fpay fcol fnow fthn foth fmnr fwts fmap fnxt fO fE).flatten H := hP
    have hD : va_D A (LB cY b rr a oo od n k n k fG fW fR fH fA fS fRs fOt fMi fEn fEb fPy fB fCc (nI 1) fto fpay fcol fnow fthn foth fmnr fwts fmap fnxt fO fE).flatten := hD
    refine lv_istore (lv' := [(7, .int (nI 0)), (6, .int (nI 1)), (5, .int (nI z0)), (4, .ref od), (3, .ref oo), (2, .ref (a 0)), (1, .ref (b 0)), (0, .ref sc)]) hx hb dL_law__879 hl (by decide) rfl (fun ls hl => ?_)
    refine lv_aload_n hx hb dL_law__881 rfl (lv_at hl 5 rfl) ?_
    refine ca_i (CL := [mO a (nI n) (nI k) (nI 1)]) (va_runV (As := []) (rest := []) ⟨hx, hb, hml, hown, hts⟩ (c_X9_thrown l D cY H.size a n k (nI 1)) (cwV 0 hts gL_law__X9_thrown rfl rfl rfl (by decide +kernel) ⟨Nat.le_of_ble_eq_true rfl, Nat.le_of_ble_eq_true rfl⟩) (b_preV hVK hP hD [30] rfl rfl 30 rfl rfl) rfl rfl hl.1 rfl (lv_room (Nat.le_of_ble_eq_true rfl)) dL_law__882 ⟨by omega, by omega⟩) hP hD hS hA [30] rfl rfl (fun _ => rfl) (fun r882 uu H locs hq hP hD hS => ?_)
    subst hq
    have hP : va_P D vwCl (LB cY b rr a oo od n k n k fG fW fR fH fA fS fRs fOt fMi fEn fEb fPy fB fCc (nI 1) fto fpay fcol fnow fthn foth fmnr fwts fmap fnxt fO fE).flatten H := hP
    have hD : va_D A (LB cY b rr a oo od n k n k fG fW fR fH fA fS fRs fOt fMi fEn fEb fPy fB fCc (nI 1) fto fpay fcol fnow fthn foth fmnr fwts fmap fnxt fO fE).flatten := hD
    refine lv_iload hx hb dL_law__885 (lv_at hl 1 rfl) ?_
    refine n_icmp_eq (tgt := 892) hx hb dL_law__887 (by decide) (by omega) (by omega) (fun h887 => ?_) (fun h887 => ?_)
    · -- t
      refine lv_iload hx hb dL_law__892 (lv_at hl 1 rfl) ?_
      refine n_if_ne (tgt := 909) hx hb dL_law__894 (by decide) (by omega) (fun h894 => ?_) (fun h894 => ?_)
      · -- t
        refine lv_goto (tgt := 1823) hx hb dL_law__909 (by decide) ?_
        exact K n k g col fG fW fR fH fA fS fRs fOt fMi fEn fEb fPy fB fCc (nI 1) fto fpay fcol fnow fthn foth fmnr fwts fmap fnxt fO fE hI _ _ hP hD hS _ (lv_sub hl [2, 3, 4, 5, 6, 7] rfl)
      · -- f
        exact absurd h894 (by decide)
    · -- f
      exact absurd rfl h887

set_option maxHeartbeats 8000000 in
set_option maxRecDepth 100000 in
theorem lc_apart {p : Program} {l : Launch} {e : Env} {s : State} {m : MethodId} {below : List Frame} {meth : Method} {c : Code} {H : Heap} {locs : List Loc} {cells slots : Nat} {Q : State → Prop} {D : va_G} {cY : Nat → ClassId} {A : Nat → Prop} {sc L : Nat} {xs : Nat → Int32} {b : Nat → Nat} {rr : Nat → Nat → Nat} {a : Nat → Nat} {oo od z0 : Nat} {ls : Array Slot} (E : LE p s m sc c D cY A L xs) (hlT : l.stackTraces = false) (hi4 : z0 + 4 ≤ L) (hL : L ≤ 2048) (hroom : cells + 1 ≤ room_1.cells ∧ slots + 6 ≤ room_1.slots) {n k : Nat} {g : Nat → Nat → Nat} {col : Nat → Nat} {fG fW : Nat → Nat → Int32} {fR fH fA fS : Nat → Nat → Int64} {fRs : Nat → Int64} {fOt : Nat → Int32} {fMi : Nat → Int64} {fEn fEb fPy : Nat → Int32} {fB : Nat → Nat → Int64} {fCc : Nat → Int32} {th : Int32} {fto fpay fcol : Nat → Int32} {fnow fthn foth fmnr fwts : Nat → Int64} {fmap fnxt : Nat → Int32} {fO : Nat → Int64} {fE : Nat → UInt64} (hI : LV n k g col fG fW fPy fCc fto fpay fcol) (hP : va_P D vwCl (LB cY b rr a oo od n k n k fG fW fR fH fA fS fRs fOt fMi fEn fEb fPy fB fCc th fto fpay fcol fnow fthn foth fmnr fwts fmap fnxt fO fE).flatten H) (hD : va_D A (LB cY b rr a oo od n k n k fG fW fR fH fA fS fRs fOt fMi fEn fEb fPy fB fCc th fto fpay fcol fnow fthn foth fmnr fwts fmap fnxt fO fE).flatten) (hS : va_S A s.heap H locs) (hl : lv_has ls 9 [(5, .int (nI z0)), (4, .ref od), (3, .ref oo), (2, .ref (a 0)), (1, .ref (b 0)), (0, .ref sc)]) (K : LK p l e s m below meth c sc D cY A b rr a oo od z0 cells slots Q) : W p l e room_1 s m #[Value.ref sc] below meth c H locs cells slots Q (F0 m 912 ls []) := by
  obtain ⟨hx, hb, hml, hts, hown, hK, hVK, hA, hX, hH, hsc, hscl, hscA⟩ := E
  obtain ⟨⟨hn1, hn6, hk1, hk12⟩, hG, hgn, hW, hT, hPy, hC6⟩ := id hI
  rcases Bool.eq_false_or_eq_true (inR (xs (z0 + 1)) (nI 0) (nI (n - 1)) && inR (xs (z0 + 2)) (nI 0) (nI (n - 1))) with hc1 | hc1
  · -- holds
    rcases Bool.eq_false_or_eq_true (inR (xs (z0 + 3)) (nI 0) (nI 12)) with hc2 | hc2
    · -- holds
      obtain ⟨hca, hcb⟩ := two_ hc1
      obtain ⟨i, hi_, e1⟩ := inR_of (by omega) hca
      obtain ⟨w, hw_, e2⟩ := inR_of (by omega) hcb
      obtain ⟨t, ht_, e3⟩ := inR_of (by omega) hc2
      refine lv_aload_n hx hb dL_law__912 rfl (lv_at hl 4 rfl) ?_
      refine lv_aload_n hx hb dL_law__913 rfl (lv_at hl 5 rfl) ?_
      refine lv_iload hx hb dL_law__914 (lv_at hl 0 rfl) ?_
      refine lv_iconst (v := nI 1) hx hb dL_law__916 (by decide) ?_
      refine lv_iadd hx hb dL_law__917 ?_
      refine eqi (x' := nI (z0 + 1)) (nI_add _ _) ?_
      refine s_ld hx hb hsc hscl hscA hS (by omega) hL dL_law__918 ?_
      refine eqi (x' := nI i) e1 ?_
      refine lv_aload_n hx hb dL_law__919 rfl (lv_at hl 5 rfl) ?_
      refine lv_iload hx hb dL_law__920 (lv_at hl 0 rfl) ?_
      refine lv_iconst (v := nI 2) hx hb dL_law__922 (by decide) ?_
      refine lv_iadd hx hb dL_law__923 ?_
      refine eqi (x' := nI (z0 + 2)) (nI_add _ _) ?_
      refine s_ld hx hb hsc hscl hscA hS (by omega) hL dL_law__924 ?_
      refine eqi (x' := nI w) e2 ?_
      refine lv_aload_n hx hb dL_law__925 rfl (lv_at hl 5 rfl) ?_
      refine lv_iload hx hb dL_law__926 (lv_at hl 0 rfl) ?_
      refine lv_iconst (v := nI 3) hx hb dL_law__928 (by decide) ?_
      refine lv_iadd hx hb dL_law__929 ?_
      refine eqi (x' := nI (z0 + 3)) (nI_add _ _) ?_
      refine s_ld hx hb hsc hscl hscA hS (by omega) hL dL_law__930 ?_
      refine eqi (x' := nI t) e3 ?_
      refine lv_aload_n hx hb dL_law__931 rfl (lv_at hl 2 rfl) ?_
      refine hh_i (CL := [hO b, cO b (nI n) (nI k), kO b, oQ (cY 2) (b 2) (rr 0) 6, gI (cY 0) (rr 0) 12 fG 6, oQ (cY 3) (b 8) (rr 4) 13, gJ (cY 1) (rr 4) 36 fA 13, [(oo, .inl (cY 1, 1, .inr (.inl fO)))]]) (vx_runSX (As := [.ref (b 0), .int (nI i), .int (nI w), .int (nI t), .ref oo]) (rest := []) ⟨hx, hb, hml, hown, hts⟩ (c_L_apart_ok l D cY H.size b rr n k fG fA g i w t oo fO (by omega) (by omega) (by omega) (by omega) hG hgn (by omega) (by omega) (by omega)) (vx_cwSW 5 hts gL_law__L_apart rfl rfl rfl (by decide +kernel) ⟨Nat.le_of_ble_eq_true rfl, Nat.le_of_ble_eq_true rfl⟩) (b_preHS hVK hP hD hS hA hX hH [0, 1, 11, 2, 3, 12, 13, 41] rfl rfl) rfl rfl hl.1 rfl (lv_room (Nat.le_of_ble_eq_true rfl)) dL_law__932 ⟨by omega, by omega⟩) hP hD hS hA [0, 1, 11, 2, 3, 12, 13, 41] rfl rfl (fun _ => rfl) (fun r932 uu H locs hq hP hD hS => ?_)
      obtain ⟨fA1_1, rfl⟩ : ∃ z, z = uu := ⟨_, rfl⟩
      try dsimp only at hq
      subst hq
      have hP : va_P D vwCl (LB cY b rr a oo od n k n k fG fW fR fH fA1_1 fS fRs fOt fMi fEn fEb fPy fB fCc th fto fpay fcol fnow fthn foth fmnr fwts fmap fnxt (vp_updL fO 0 (lN (AB g k t i w))) fE).flatten H := hP
      have hD : va_D A (LB cY b rr a oo od n k n k fG fW fR fH fA1_1 fS fRs fOt fMi fEn fEb fPy fB fCc th fto fpay fcol fnow fthn foth fmnr fwts fmap fnxt (vp_updL fO 0 (lN (AB g k t i w))) fE).flatten := hD
      refine lv_istore (lv' := [(6, .int (nI 0)), (5, .int (nI z0)), (4, .ref od), (3, .ref oo), (2, .ref (a 0)), (1, .ref (b 0)), (0, .ref sc)]) hx hb dL_law__935 hl (by decide) rfl (fun ls hl => ?_)
      refine lv_aload_n hx hb dL_law__937 rfl (lv_at hl 4 rfl) ?_
      refine lv_aload_n hx hb dL_law__938 rfl (lv_at hl 6 rfl) ?_
      refine lv_iload hx hb dL_law__939 (lv_at hl 1 rfl) ?_
      refine lv_iconst (v := nI 1) hx hb dL_law__941 (by decide) ?_
      refine lv_iadd hx hb dL_law__942 ?_
      refine eqi (x' := nI (z0 + 1)) (nI_add _ _) ?_
      refine s_ld hx hb hsc hscl hscA hS (by omega) hL dL_law__943 ?_
      refine eqi (x' := nI i) e1 ?_
      refine lv_aload_n hx hb dL_law__944 rfl (lv_at hl 6 rfl) ?_
      refine lv_iload hx hb dL_law__945 (lv_at hl 1 rfl) ?_
      refine lv_iconst (v := nI 2) hx hb dL_law__947 (by decide) ?_
      refine lv_iadd hx hb dL_law__948 ?_
      refine eqi (x' := nI (z0 + 2)) (nI_add _ _) ?_
      refine s_ld hx hb hsc hscl hscA hS (by omega) hL dL_law__949 ?_
      refine eqi (x' := nI w) e2 ?_
      refine lv_aload_n hx hb dL_law__950 rfl (lv_at hl 6 rfl) ?_
      refine lv_iload hx hb dL_law__951 (lv_at hl 1 rfl) ?_
      refine lv_iconst (v := nI 3) hx hb dL_law__953 (by decide) ?_
      refine lv_iadd hx hb dL_law__954 ?_
      refine eqi (x' := nI (z0 + 3)) (nI_add _ _) ?_
      refine s_ld hx hb hsc hscl hscA hS (by omega) hL dL_law__955 ?_
      refine eqi (x' := nI t) e3 ?_
      refine ca_l (CL := [mO a (nI n) (nI k) th, [(a 1, .inl (cY 0, 72, .inl fto))], [(a 4, .inl (cY 1, 64, .inr (.inl fnow)))], [(a 5, .inl (cY 1, 64, .inr (.inl fthn)))]]) (va_runV (As := [.int (nI i), .int (nI w), .int (nI t)]) (rest := []) ⟨hx, hb, hml, hown, hts⟩ (c_X9_apart_ok l D cY H.size a n k th fto fnow fthn g i w t (by omega) (by omega) (by omega) (by omega) hT hgn (by omega) (by omega) (by omega)) (cwV 3 hts gL_law__X9_apart rfl rfl rfl (by decide +kernel) ⟨Nat.le_of_ble_eq_true rfl, Nat.le_of_ble_eq_true rfl⟩) (b_preV hVK hP hD [30, 31, 34, 35] rfl rfl 30 rfl rfl) rfl rfl hl.1 rfl (lv_room (Nat.le_of_ble_eq_true rfl)) dL_law__956 ⟨by omega, by omega⟩) hP hD hS hA [30, 31, 34, 35] rfl rfl (fun _ => rfl) (fun r956 uu H locs hq hP hD hS => ?_)
      obtain ⟨fnow1_2, fthn1_3⟩ := uu
      try dsimp only at hq
      subst hq
      have hP : va_P D vwCl (LB cY b rr a oo od n k n k fG fW fR fH fA1_1 fS fRs fOt fMi fEn fEb fPy fB fCc (nI 0) fto fpay fcol fnow1_2 fthn1_3 foth fmnr fwts fmap fnxt (vp_updL fO 0 (lN (AB g k t i w))) fE).flatten H := hP
      have hD : va_D A (LB cY b rr a oo od n k n k fG fW fR fH fA1_1 fS fRs fOt fMi fEn fEb fPy fB fCc (nI 0) fto fpay fcol fnow1_2 fthn1_3 foth fmnr fwts fmap fnxt (vp_updL fO 0 (lN (AB g k t i w))) fE).flatten := hD
      refine lv_lstore (lv' := [(7, .long (lN (sm (PL (pr g) 36 k (prs i w) t) 36))), (6, .int (nI 0)), (5, .int (nI z0)), (4, .ref od), (3, .ref oo), (2, .ref (a 0)), (1, .ref (b 0)), (0, .ref sc)]) hx hb dL_law__959 hl (by decide) rfl (fun ls hl => ?_)
      refine lv_aload_n hx hb dL_law__961 rfl (lv_at hl 5 rfl) ?_
      refine ca_i (CL := [mO a (nI n) (nI k) (nI 0)]) (va_runV (As := []) (rest := []) ⟨hx, hb, hml, hown, hts⟩ (c_X9_thrown l D cY H.size a n k (nI 0)) (cwV 0 hts gL_law__X9_thrown rfl rfl rfl (by decide +kernel) ⟨Nat.le_of_ble_eq_true rfl, Nat.le_of_ble_eq_true rfl⟩) (b_preV hVK hP hD [30] rfl rfl 30 rfl rfl) rfl rfl hl.1 rfl (lv_room (Nat.le_of_ble_eq_true rfl)) dL_law__962 ⟨by omega, by omega⟩) hP hD hS hA [30] rfl rfl (fun _ => rfl) (fun r962 uu H locs hq hP hD hS => ?_)
      subst hq
      have hP : va_P D vwCl (LB cY b rr a oo od n k n k fG fW fR fH fA1_1 fS fRs fOt fMi fEn fEb fPy fB fCc (nI 0) fto fpay fcol fnow1_2 fthn1_3 foth fmnr fwts fmap fnxt (vp_updL fO 0 (lN (AB g k t i w))) fE).flatten H := hP
      have hD : va_D A (LB cY b rr a oo od n k n k fG fW fR fH fA1_1 fS fRs fOt fMi fEn fEb fPy fB fCc (nI 0) fto fpay fcol fnow1_2 fthn1_3 foth fmnr fwts fmap fnxt (vp_updL fO 0 (lN (AB g k t i w))) fE).flatten := hD
      refine lv_iload hx hb dL_law__965 (lv_at hl 1 rfl) ?_
      refine n_icmp_eq (tgt := 972) hx hb dL_law__967 (by decide) (by omega) (by omega) (fun h967 => ?_) (fun h967 => ?_)
      · -- t
        refine lv_iload hx hb dL_law__972 (lv_at hl 1 rfl) ?_
        refine n_if_ne (tgt := 988) hx hb dL_law__974 (by decide) (by omega) (fun h974 => ?_) (fun h974 => ?_)
        · -- t
          exact absurd rfl h974
        · -- f
          refine lv_aload_n hx hb dL_law__977 rfl (lv_at hl 4 rfl) ?_
          refine lv_iconst (v := nI 0) hx hb dL_law__978 (by decide) ?_
          refine b_lald hx hb hK hP 41 1 rfl rfl (by omega) (by omega) dL_law__979 ?_
          refine eql (x' := lN (AB g k t i w)) pk_uLs ?_
          refine lv_lload hx hb dL_law__980 (lv_at hl 0 rfl) ?_
          refine W.lcmp hx hb dL_law__982 ?_
          refine l_if_eq (tgt := 988) hx hb dL_law__983 (by decide) (fun h983 => ?_) (fun h983 => ?_)
          · -- t
            refine lv_goto (tgt := 1823) hx hb dL_law__988 (by decide) ?_
            refine W.widen (Nat.le_add_right cells 1) (Nat.le_add_right slots 6) ?_
            exact K n k g col fG fW fR fH fA1_1 fS fRs fOt fMi fEn fEb fPy fB fCc (nI 0) fto fpay fcol fnow1_2 fthn1_3 foth fmnr fwts fmap fnxt (vp_updL fO 0 (lN (AB g k t i w))) fE hI _ _ hP hD hS _ (lv_sub hl [2, 3, 4, 5, 6, 7] rfl)
          · -- f
            exact absurd (q_apart hgn hn6 (by omega) (by omega)) h983
      · -- f
        exact absurd rfl h967
    · -- not
      refine lv_aload_n hx hb dL_law__912 rfl (lv_at hl 4 rfl) ?_
      refine lv_aload_n hx hb dL_law__913 rfl (lv_at hl 5 rfl) ?_
      refine lv_iload hx hb dL_law__914 (lv_at hl 0 rfl) ?_
      refine lv_iconst (v := nI 1) hx hb dL_law__916 (by decide) ?_
      refine lv_iadd hx hb dL_law__917 ?_
      refine eqi (x' := nI (z0 + 1)) (nI_add _ _) ?_
      refine s_ld hx hb hsc hscl hscA hS (by omega) hL dL_law__918 ?_
      refine lv_aload_n hx hb dL_law__919 rfl (lv_at hl 5 rfl) ?_
      refine lv_iload hx hb dL_law__920 (lv_at hl 0 rfl) ?_
      refine lv_iconst (v := nI 2) hx hb dL_law__922 (by decide) ?_
      refine lv_iadd hx hb dL_law__923 ?_
      refine eqi (x' := nI (z0 + 2)) (nI_add _ _) ?_
      refine s_ld hx hb hsc hscl hscA hS (by omega) hL dL_law__924 ?_
      refine lv_aload_n hx hb dL_law__925 rfl (lv_at hl 5 rfl) ?_
      refine lv_iload hx hb dL_law__926 (lv_at hl 0 rfl) ?_
      refine lv_iconst (v := nI 3) hx hb dL_law__928 (by decide) ?_
      refine lv_iadd hx hb dL_law__929 ?_
      refine eqi (x' := nI (z0 + 3)) (nI_add _ _) ?_
      refine s_ld hx hb hsc hscl hscA hS (by omega) hL dL_law__930 ?_
      refine lv_aload_n hx hb dL_law__931 rfl (lv_at hl 2 rfl) ?_
      refine hh_i (CL := [hO b, cO b (nI n) (nI k), [(oo, .inl (cY 1, 1, .inr (.inl fO)))]]) (vx_runSX (As := [.ref (b 0), .int (xs (z0 + 1)), .int (xs (z0 + 2)), .int (xs (z0 + 3)), .ref oo]) (rest := []) ⟨hx, hb, hml, hown, hts⟩ (c_L_apart_b2 l D cY H.size b n k (xs (z0 + 1)) (xs (z0 + 2)) (xs (z0 + 3)) oo fO hlT (by omega) (by omega) (by omega) (by omega) hc1 hc2) (vx_cwSW 5 hts gL_law__L_apart rfl rfl rfl (by decide +kernel) ⟨Nat.le_of_ble_eq_true rfl, Nat.le_of_ble_eq_true rfl⟩) (b_preHS hVK hP hD hS hA hX hH [0, 1, 41] rfl rfl) rfl rfl hl.1 rfl (lv_room (Nat.le_of_ble_eq_true rfl)) dL_law__932 ⟨by omega, by omega⟩) hP hD hS hA [0, 1, 41] rfl rfl (fun _ => rfl) (fun r932 uu H locs hq hP hD hS => ?_)
      subst hq
      have hP : va_P D vwCl (LB cY b rr a oo od n k n k fG fW fR fH fA fS fRs fOt fMi fEn fEb fPy fB fCc th fto fpay fcol fnow fthn foth fmnr fwts fmap fnxt fO fE).flatten H := hP
      have hD : va_D A (LB cY b rr a oo od n k n k fG fW fR fH fA fS fRs fOt fMi fEn fEb fPy fB fCc th fto fpay fcol fnow fthn foth fmnr fwts fmap fnxt fO fE).flatten := hD
      refine lv_istore (lv' := [(6, .int (nI 2)), (5, .int (nI z0)), (4, .ref od), (3, .ref oo), (2, .ref (a 0)), (1, .ref (b 0)), (0, .ref sc)]) hx hb dL_law__935 hl (by decide) rfl (fun ls hl => ?_)
      refine lv_aload_n hx hb dL_law__937 rfl (lv_at hl 4 rfl) ?_
      refine lv_aload_n hx hb dL_law__938 rfl (lv_at hl 6 rfl) ?_
      refine lv_iload hx hb dL_law__939 (lv_at hl 1 rfl) ?_
      refine lv_iconst (v := nI 1) hx hb dL_law__941 (by decide) ?_
      refine lv_iadd hx hb dL_law__942 ?_
      refine eqi (x' := nI (z0 + 1)) (nI_add _ _) ?_
      refine s_ld hx hb hsc hscl hscA hS (by omega) hL dL_law__943 ?_
      refine lv_aload_n hx hb dL_law__944 rfl (lv_at hl 6 rfl) ?_
      refine lv_iload hx hb dL_law__945 (lv_at hl 1 rfl) ?_
      refine lv_iconst (v := nI 2) hx hb dL_law__947 (by decide) ?_
      refine lv_iadd hx hb dL_law__948 ?_
      refine eqi (x' := nI (z0 + 2)) (nI_add _ _) ?_
      refine s_ld hx hb hsc hscl hscA hS (by omega) hL dL_law__949 ?_
      refine lv_aload_n hx hb dL_law__950 rfl (lv_at hl 6 rfl) ?_
      refine lv_iload hx hb dL_law__951 (lv_at hl 1 rfl) ?_
      refine lv_iconst (v := nI 3) hx hb dL_law__953 (by decide) ?_
      refine lv_iadd hx hb dL_law__954 ?_
      refine eqi (x' := nI (z0 + 3)) (nI_add _ _) ?_
      refine s_ld hx hb hsc hscl hscA hS (by omega) hL dL_law__955 ?_
      refine ca_l (CL := [mO a (nI n) (nI k) th]) (va_runV (As := [.int (xs (z0 + 1)), .int (xs (z0 + 2)), .int (xs (z0 + 3))]) (rest := []) ⟨hx, hb, hml, hown, hts⟩ (c_X9_apart_b2 l D cY H.size a n k th (xs (z0 + 1)) (xs (z0 + 2)) (xs (z0 + 3)) (by omega) (by omega) (by omega) (by omega) hc1 hc2) (cwV 3 hts gL_law__X9_apart rfl rfl rfl (by decide +kernel) ⟨Nat.le_of_ble_eq_true rfl, Nat.le_of_ble_eq_true rfl⟩) (b_preV hVK hP hD [30] rfl rfl 30 rfl rfl) rfl rfl hl.1 rfl (lv_room (Nat.le_of_ble_eq_true rfl)) dL_law__956 ⟨by omega, by omega⟩) hP hD hS hA [30] rfl rfl (fun _ => rfl) (fun r956 uu H locs hq hP hD hS => ?_)
      subst hq
      have hP : va_P D vwCl (LB cY b rr a oo od n k n k fG fW fR fH fA fS fRs fOt fMi fEn fEb fPy fB fCc (nI 2) fto fpay fcol fnow fthn foth fmnr fwts fmap fnxt fO fE).flatten H := hP
      have hD : va_D A (LB cY b rr a oo od n k n k fG fW fR fH fA fS fRs fOt fMi fEn fEb fPy fB fCc (nI 2) fto fpay fcol fnow fthn foth fmnr fwts fmap fnxt fO fE).flatten := hD
      refine lv_lstore (lv' := [(7, .long (lN 0)), (6, .int (nI 2)), (5, .int (nI z0)), (4, .ref od), (3, .ref oo), (2, .ref (a 0)), (1, .ref (b 0)), (0, .ref sc)]) hx hb dL_law__959 hl (by decide) rfl (fun ls hl => ?_)
      refine lv_aload_n hx hb dL_law__961 rfl (lv_at hl 5 rfl) ?_
      refine ca_i (CL := [mO a (nI n) (nI k) (nI 2)]) (va_runV (As := []) (rest := []) ⟨hx, hb, hml, hown, hts⟩ (c_X9_thrown l D cY H.size a n k (nI 2)) (cwV 0 hts gL_law__X9_thrown rfl rfl rfl (by decide +kernel) ⟨Nat.le_of_ble_eq_true rfl, Nat.le_of_ble_eq_true rfl⟩) (b_preV hVK hP hD [30] rfl rfl 30 rfl rfl) rfl rfl hl.1 rfl (lv_room (Nat.le_of_ble_eq_true rfl)) dL_law__962 ⟨by omega, by omega⟩) hP hD hS hA [30] rfl rfl (fun _ => rfl) (fun r962 uu H locs hq hP hD hS => ?_)
      subst hq
      have hP : va_P D vwCl (LB cY b rr a oo od n k n k fG fW fR fH fA fS fRs fOt fMi fEn fEb fPy fB fCc (nI 2) fto fpay fcol fnow fthn foth fmnr fwts fmap fnxt fO fE).flatten H := hP
      have hD : va_D A (LB cY b rr a oo od n k n k fG fW fR fH fA fS fRs fOt fMi fEn fEb fPy fB fCc (nI 2) fto fpay fcol fnow fthn foth fmnr fwts fmap fnxt fO fE).flatten := hD
      refine lv_iload hx hb dL_law__965 (lv_at hl 1 rfl) ?_
      refine n_icmp_eq (tgt := 972) hx hb dL_law__967 (by decide) (by omega) (by omega) (fun h967 => ?_) (fun h967 => ?_)
      · -- t
        refine lv_iload hx hb dL_law__972 (lv_at hl 1 rfl) ?_
        refine n_if_ne (tgt := 988) hx hb dL_law__974 (by decide) (by omega) (fun h974 => ?_) (fun h974 => ?_)
        · -- t
          refine lv_goto (tgt := 1823) hx hb dL_law__988 (by decide) ?_
          exact K n k g col fG fW fR fH fA fS fRs fOt fMi fEn fEb fPy fB fCc (nI 2) fto fpay fcol fnow fthn foth fmnr fwts fmap fnxt fO fE hI _ _ hP hD hS _ (lv_sub hl [2, 3, 4, 5, 6, 7] rfl)
        · -- f
          exact absurd h974 (by decide)
      · -- f
        exact absurd rfl h967
  · -- not
    refine lv_aload_n hx hb dL_law__912 rfl (lv_at hl 4 rfl) ?_
    refine lv_aload_n hx hb dL_law__913 rfl (lv_at hl 5 rfl) ?_
    refine lv_iload hx hb dL_law__914 (lv_at hl 0 rfl) ?_
    refine lv_iconst (v := nI 1) hx hb dL_law__916 (by decide) ?_
    refine lv_iadd hx hb dL_law__917 ?_
    refine eqi (x' := nI (z0 + 1)) (nI_add _ _) ?_
    refine s_ld hx hb hsc hscl hscA hS (by omega) hL dL_law__918 ?_
    refine lv_aload_n hx hb dL_law__919 rfl (lv_at hl 5 rfl) ?_
    refine lv_iload hx hb dL_law__920 (lv_at hl 0 rfl) ?_
    refine lv_iconst (v := nI 2) hx hb dL_law__922 (by decide) ?_
    refine lv_iadd hx hb dL_law__923 ?_
    refine eqi (x' := nI (z0 + 2)) (nI_add _ _) ?_
    refine s_ld hx hb hsc hscl hscA hS (by omega) hL dL_law__924 ?_
    refine lv_aload_n hx hb dL_law__925 rfl (lv_at hl 5 rfl) ?_
    refine lv_iload hx hb dL_law__926 (lv_at hl 0 rfl) ?_
    refine lv_iconst (v := nI 3) hx hb dL_law__928 (by decide) ?_
    refine lv_iadd hx hb dL_law__929 ?_
    refine eqi (x' := nI (z0 + 3)) (nI_add _ _) ?_
    refine s_ld hx hb hsc hscl hscA hS (by omega) hL dL_law__930 ?_
    refine lv_aload_n hx hb dL_law__931 rfl (lv_at hl 2 rfl) ?_
    refine hh_i (CL := [hO b, cO b (nI n) (nI k), [(oo, .inl (cY 1, 1, .inr (.inl fO)))]]) (vx_runSX (As := [.ref (b 0), .int (xs (z0 + 1)), .int (xs (z0 + 2)), .int (xs (z0 + 3)), .ref oo]) (rest := []) ⟨hx, hb, hml, hown, hts⟩ (c_L_apart_b1 l D cY H.size b n k (xs (z0 + 1)) (xs (z0 + 2)) (xs (z0 + 3)) oo fO hlT (by omega) (by omega) (by omega) (by omega) hc1) (vx_cwSW 5 hts gL_law__L_apart rfl rfl rfl (by decide +kernel) ⟨Nat.le_of_ble_eq_true rfl, Nat.le_of_ble_eq_true rfl⟩) (b_preHS hVK hP hD hS hA hX hH [0, 1, 41] rfl rfl) rfl rfl hl.1 rfl (lv_room (Nat.le_of_ble_eq_true rfl)) dL_law__932 ⟨by omega, by omega⟩) hP hD hS hA [0, 1, 41] rfl rfl (fun _ => rfl) (fun r932 uu H locs hq hP hD hS => ?_)
    subst hq
    have hP : va_P D vwCl (LB cY b rr a oo od n k n k fG fW fR fH fA fS fRs fOt fMi fEn fEb fPy fB fCc th fto fpay fcol fnow fthn foth fmnr fwts fmap fnxt fO fE).flatten H := hP
    have hD : va_D A (LB cY b rr a oo od n k n k fG fW fR fH fA fS fRs fOt fMi fEn fEb fPy fB fCc th fto fpay fcol fnow fthn foth fmnr fwts fmap fnxt fO fE).flatten := hD
    refine lv_istore (lv' := [(6, .int (nI 1)), (5, .int (nI z0)), (4, .ref od), (3, .ref oo), (2, .ref (a 0)), (1, .ref (b 0)), (0, .ref sc)]) hx hb dL_law__935 hl (by decide) rfl (fun ls hl => ?_)
    refine lv_aload_n hx hb dL_law__937 rfl (lv_at hl 4 rfl) ?_
    refine lv_aload_n hx hb dL_law__938 rfl (lv_at hl 6 rfl) ?_
    refine lv_iload hx hb dL_law__939 (lv_at hl 1 rfl) ?_
    refine lv_iconst (v := nI 1) hx hb dL_law__941 (by decide) ?_
    refine lv_iadd hx hb dL_law__942 ?_
    refine eqi (x' := nI (z0 + 1)) (nI_add _ _) ?_
    refine s_ld hx hb hsc hscl hscA hS (by omega) hL dL_law__943 ?_
    refine lv_aload_n hx hb dL_law__944 rfl (lv_at hl 6 rfl) ?_
    refine lv_iload hx hb dL_law__945 (lv_at hl 1 rfl) ?_
    refine lv_iconst (v := nI 2) hx hb dL_law__947 (by decide) ?_
    refine lv_iadd hx hb dL_law__948 ?_
    refine eqi (x' := nI (z0 + 2)) (nI_add _ _) ?_
    refine s_ld hx hb hsc hscl hscA hS (by omega) hL dL_law__949 ?_
    refine lv_aload_n hx hb dL_law__950 rfl (lv_at hl 6 rfl) ?_
    refine lv_iload hx hb dL_law__951 (lv_at hl 1 rfl) ?_
    refine lv_iconst (v := nI 3) hx hb dL_law__953 (by decide) ?_
    refine lv_iadd hx hb dL_law__954 ?_
    refine eqi (x' := nI (z0 + 3)) (nI_add _ _) ?_
    refine s_ld hx hb hsc hscl hscA hS (by omega) hL dL_law__955 ?_
    refine ca_l (CL := [mO a (nI n) (nI k) th]) (va_runV (As := [.int (xs (z0 + 1)), .int (xs (z0 + 2)), .int (xs (z0 + 3))]) (rest := []) ⟨hx, hb, hml, hown, hts⟩ (c_X9_apart_b1 l D cY H.size a n k th (xs (z0 + 1)) (xs (z0 + 2)) (xs (z0 + 3)) (by omega) (by omega) (by omega) (by omega) hc1) (cwV 3 hts gL_law__X9_apart rfl rfl rfl (by decide +kernel) ⟨Nat.le_of_ble_eq_true rfl, Nat.le_of_ble_eq_true rfl⟩) (b_preV hVK hP hD [30] rfl rfl 30 rfl rfl) rfl rfl hl.1 rfl (lv_room (Nat.le_of_ble_eq_true rfl)) dL_law__956 ⟨by omega, by omega⟩) hP hD hS hA [30] rfl rfl (fun _ => rfl) (fun r956 uu H locs hq hP hD hS => ?_)
    subst hq
    have hP : va_P D vwCl (LB cY b rr a oo od n k n k fG fW fR fH fA fS fRs fOt fMi fEn fEb fPy fB fCc (nI 1) fto fpay fcol fnow fthn foth fmnr fwts fmap fnxt fO fE).flatten H := hP
    have hD : va_D A (LB cY b rr a oo od n k n k fG fW fR fH fA fS fRs fOt fMi fEn fEb fPy fB fCc (nI 1) fto fpay fcol fnow fthn foth fmnr fwts fmap fnxt fO fE).flatten := hD
    refine lv_lstore (lv' := [(7, .long (lN 0)), (6, .int (nI 1)), (5, .int (nI z0)), (4, .ref od), (3, .ref oo), (2, .ref (a 0)), (1, .ref (b 0)), (0, .ref sc)]) hx hb dL_law__959 hl (by decide) rfl (fun ls hl => ?_)
    refine lv_aload_n hx hb dL_law__961 rfl (lv_at hl 5 rfl) ?_
    refine ca_i (CL := [mO a (nI n) (nI k) (nI 1)]) (va_runV (As := []) (rest := []) ⟨hx, hb, hml, hown, hts⟩ (c_X9_thrown l D cY H.size a n k (nI 1)) (cwV 0 hts gL_law__X9_thrown rfl rfl rfl (by decide +kernel) ⟨Nat.le_of_ble_eq_true rfl, Nat.le_of_ble_eq_true rfl⟩) (b_preV hVK hP hD [30] rfl rfl 30 rfl rfl) rfl rfl hl.1 rfl (lv_room (Nat.le_of_ble_eq_true rfl)) dL_law__962 ⟨by omega, by omega⟩) hP hD hS hA [30] rfl rfl (fun _ => rfl) (fun r962 uu H locs hq hP hD hS => ?_)
    subst hq
    have hP : va_P D vwCl (LB cY b rr a oo od n k n k fG fW fR fH fA fS fRs fOt fMi fEn fEb fPy fB fCc (nI 1) fto fpay fcol fnow fthn foth fmnr fwts fmap fnxt fO fE).flatten H := hP
    have hD : va_D A (LB cY b rr a oo od n k n k fG fW fR fH fA fS fRs fOt fMi fEn fEb fPy fB fCc (nI 1) fto fpay fcol fnow fthn foth fmnr fwts fmap fnxt fO fE).flatten := hD
    refine lv_iload hx hb dL_law__965 (lv_at hl 1 rfl) ?_
    refine n_icmp_eq (tgt := 972) hx hb dL_law__967 (by decide) (by omega) (by omega) (fun h967 => ?_) (fun h967 => ?_)
    · -- t
      refine lv_iload hx hb dL_law__972 (lv_at hl 1 rfl) ?_
      refine n_if_ne (tgt := 988) hx hb dL_law__974 (by decide) (by omega) (fun h974 => ?_) (fun h974 => ?_)
      · -- t
        refine lv_goto (tgt := 1823) hx hb dL_law__988 (by decide) ?_
        exact K n k g col fG fW fR fH fA fS fRs fOt fMi fEn fEb fPy fB fCc (nI 1) fto fpay fcol fnow fthn foth fmnr fwts fmap fnxt fO fE hI _ _ hP hD hS _ (lv_sub hl [2, 3, 4, 5, 6, 7] rfl)
      · -- f
        exact absurd h974 (by decide)
    · -- f
      exact absurd rfl h967

set_option maxHeartbeats 8000000 in
set_option maxRecDepth 100000 in
theorem lc_together {p : Program} {l : Launch} {e : Env} {s : State} {m : MethodId} {below : List Frame} {meth : Method} {c : Code} {H : Heap} {locs : List Loc} {cells slots : Nat} {Q : State → Prop} {D : va_G} {cY : Nat → ClassId} {A : Nat → Prop} {sc L : Nat} {xs : Nat → Int32} {b : Nat → Nat} {rr : Nat → Nat → Nat} {a : Nat → Nat} {oo od z0 : Nat} {ls : Array Slot} (E : LE p s m sc c D cY A L xs) (hlT : l.stackTraces = false) (hi4 : z0 + 4 ≤ L) (hL : L ≤ 2048) (hroom : cells + 1 ≤ room_1.cells ∧ slots + 6 ≤ room_1.slots) {n k : Nat} {g : Nat → Nat → Nat} {col : Nat → Nat} {fG fW : Nat → Nat → Int32} {fR fH fA fS : Nat → Nat → Int64} {fRs : Nat → Int64} {fOt : Nat → Int32} {fMi : Nat → Int64} {fEn fEb fPy : Nat → Int32} {fB : Nat → Nat → Int64} {fCc : Nat → Int32} {th : Int32} {fto fpay fcol : Nat → Int32} {fnow fthn foth fmnr fwts : Nat → Int64} {fmap fnxt : Nat → Int32} {fO : Nat → Int64} {fE : Nat → UInt64} (hI : LV n k g col fG fW fPy fCc fto fpay fcol) (hP : va_P D vwCl (LB cY b rr a oo od n k n k fG fW fR fH fA fS fRs fOt fMi fEn fEb fPy fB fCc th fto fpay fcol fnow fthn foth fmnr fwts fmap fnxt fO fE).flatten H) (hD : va_D A (LB cY b rr a oo od n k n k fG fW fR fH fA fS fRs fOt fMi fEn fEb fPy fB fCc th fto fpay fcol fnow fthn foth fmnr fwts fmap fnxt fO fE).flatten) (hS : va_S A s.heap H locs) (hl : lv_has ls 9 [(5, .int (nI z0)), (4, .ref od), (3, .ref oo), (2, .ref (a 0)), (1, .ref (b 0)), (0, .ref sc)]) (K : LK p l e s m below meth c sc D cY A b rr a oo od z0 cells slots Q) : W p l e room_1 s m #[Value.ref sc] below meth c H locs cells slots Q (F0 m 991 ls []) := by
  obtain ⟨hx, hb, hml, hts, hown, hK, hVK, hA, hX, hH, hsc, hscl, hscA⟩ := E
  obtain ⟨⟨hn1, hn6, hk1, hk12⟩, hG, hgn, hW, hT, hPy, hC6⟩ := id hI
  rcases Bool.eq_false_or_eq_true (inR (xs (z0 + 2)) (nI 0) (nI (n - 1))) with hc1 | hc1
  · -- holds
    rcases Bool.eq_false_or_eq_true (inR (xs (z0 + 1)) (nI 0) (nI 12)) with hc2 | hc2
    · -- holds
      obtain ⟨w, hw_, e2⟩ := inR_of (by omega) hc1
      obtain ⟨t, ht_, e1⟩ := inR_of (by omega) hc2
      refine lv_aload_n hx hb dL_law__991 rfl (lv_at hl 4 rfl) ?_
      refine lv_aload_n hx hb dL_law__992 rfl (lv_at hl 5 rfl) ?_
      refine lv_iload hx hb dL_law__993 (lv_at hl 0 rfl) ?_
      refine lv_iconst (v := nI 1) hx hb dL_law__995 (by decide) ?_
      refine lv_iadd hx hb dL_law__996 ?_
      refine eqi (x' := nI (z0 + 1)) (nI_add _ _) ?_
      refine s_ld hx hb hsc hscl hscA hS (by omega) hL dL_law__997 ?_
      refine eqi (x' := nI t) e1 ?_
      refine lv_aload_n hx hb dL_law__998 rfl (lv_at hl 5 rfl) ?_
      refine lv_iload hx hb dL_law__999 (lv_at hl 0 rfl) ?_
      refine lv_iconst (v := nI 2) hx hb dL_law__1001 (by decide) ?_
      refine lv_iadd hx hb dL_law__1002 ?_
      refine eqi (x' := nI (z0 + 2)) (nI_add _ _) ?_
      refine s_ld hx hb hsc hscl hscA hS (by omega) hL dL_law__1003 ?_
      refine eqi (x' := nI w) e2 ?_
      refine lv_aload_n hx hb dL_law__1004 rfl (lv_at hl 2 rfl) ?_
      refine hh_i (CL := [hO b, cO b (nI n) (nI k), kO b, oQ (cY 2) (b 2) (rr 0) 6, gI (cY 0) (rr 0) 12 fG 6, oQ (cY 3) (b 9) (rr 5) 13, gJ (cY 1) (rr 5) 64 fS 13, [(oo, .inl (cY 1, 1, .inr (.inl fO)))]]) (vx_runSX (As := [.ref (b 0), .int (nI t), .int (nI w), .ref oo]) (rest := []) ⟨hx, hb, hml, hown, hts⟩ (c_L_together_ok l D cY H.size b rr n k fG fS g t w oo fO (by omega) (by omega) (by omega) (by omega) hG hgn (by omega) (by omega)) (vx_cwSW 4 hts gL_law__L_together rfl rfl rfl (by decide +kernel) ⟨Nat.le_of_ble_eq_true rfl, Nat.le_of_ble_eq_true rfl⟩) (b_preHS hVK hP hD hS hA hX hH [0, 1, 11, 2, 3, 14, 15, 41] rfl rfl) rfl rfl hl.1 rfl (lv_room (Nat.le_of_ble_eq_true rfl)) dL_law__1005 ⟨by omega, by omega⟩) hP hD hS hA [0, 1, 11, 2, 3, 14, 15, 41] rfl rfl (fun _ => rfl) (fun r1005 uu H locs hq hP hD hS => ?_)
      obtain ⟨fS1_1, rfl⟩ : ∃ z, z = uu := ⟨_, rfl⟩
      try dsimp only at hq
      subst hq
      have hP : va_P D vwCl (LB cY b rr a oo od n k n k fG fW fR fH fA fS1_1 fRs fOt fMi fEn fEb fPy fB fCc th fto fpay fcol fnow fthn foth fmnr fwts fmap fnxt (vp_updL fO 0 (lN (PL (ig g n) 64 k (2 ^ n - 1) t (2 ^ w)))) fE).flatten H := hP
      have hD : va_D A (LB cY b rr a oo od n k n k fG fW fR fH fA fS1_1 fRs fOt fMi fEn fEb fPy fB fCc th fto fpay fcol fnow fthn foth fmnr fwts fmap fnxt (vp_updL fO 0 (lN (PL (ig g n) 64 k (2 ^ n - 1) t (2 ^ w)))) fE).flatten := hD
      refine lv_istore (lv' := [(6, .int (nI 0)), (5, .int (nI z0)), (4, .ref od), (3, .ref oo), (2, .ref (a 0)), (1, .ref (b 0)), (0, .ref sc)]) hx hb dL_law__1008 hl (by decide) rfl (fun ls hl => ?_)
      refine lv_aload_n hx hb dL_law__1010 rfl (lv_at hl 4 rfl) ?_
      refine lv_aload_n hx hb dL_law__1011 rfl (lv_at hl 6 rfl) ?_
      refine lv_iload hx hb dL_law__1012 (lv_at hl 1 rfl) ?_
      refine lv_iconst (v := nI 1) hx hb dL_law__1014 (by decide) ?_
      refine lv_iadd hx hb dL_law__1015 ?_
      refine eqi (x' := nI (z0 + 1)) (nI_add _ _) ?_
      refine s_ld hx hb hsc hscl hscA hS (by omega) hL dL_law__1016 ?_
      refine eqi (x' := nI t) e1 ?_
      refine lv_aload_n hx hb dL_law__1017 rfl (lv_at hl 6 rfl) ?_
      refine lv_iload hx hb dL_law__1018 (lv_at hl 1 rfl) ?_
      refine lv_iconst (v := nI 2) hx hb dL_law__1020 (by decide) ?_
      refine lv_iadd hx hb dL_law__1021 ?_
      refine eqi (x' := nI (z0 + 2)) (nI_add _ _) ?_
      refine s_ld hx hb hsc hscl hscA hS (by omega) hL dL_law__1022 ?_
      refine eqi (x' := nI w) e2 ?_
      refine ca_l (CL := [mO a (nI n) (nI k) th, [(a 1, .inl (cY 0, 72, .inl fto))], [(a 4, .inl (cY 1, 64, .inr (.inl fnow)))], [(a 5, .inl (cY 1, 64, .inr (.inl fthn)))]]) (va_runV (As := [.int (nI t), .int (nI w)]) (rest := []) ⟨hx, hb, hml, hown, hts⟩ (c_X9_together_ok l D cY H.size a n k th fto fnow fthn g t w (by omega) (by omega) (by omega) (by omega) hT hgn (by omega) (by omega)) (cwV 2 hts gL_law__X9_together rfl rfl rfl (by decide +kernel) ⟨Nat.le_of_ble_eq_true rfl, Nat.le_of_ble_eq_true rfl⟩) (b_preV hVK hP hD [30, 31, 34, 35] rfl rfl 30 rfl rfl) rfl rfl hl.1 rfl (lv_room (Nat.le_of_ble_eq_true rfl)) dL_law__1023 ⟨by omega, by omega⟩) hP hD hS hA [30, 31, 34, 35] rfl rfl (fun _ => rfl) (fun r1023 uu H locs hq hP hD hS => ?_)
      obtain ⟨fnow1_2, fthn1_3⟩ := uu
      try dsimp only at hq
      subst hq
      have hP : va_P D vwCl (LB cY b rr a oo od n k n k fG fW fR fH fA fS1_1 fRs fOt fMi fEn fEb fPy fB fCc (nI 0) fto fpay fcol fnow1_2 fthn1_3 foth fmnr fwts fmap fnxt (vp_updL fO 0 (lN (PL (ig g n) 64 k (2 ^ n - 1) t (2 ^ w)))) fE).flatten H := hP
      have hD : va_D A (LB cY b rr a oo od n k n k fG fW fR fH fA fS1_1 fRs fOt fMi fEn fEb fPy fB fCc (nI 0) fto fpay fcol fnow1_2 fthn1_3 foth fmnr fwts fmap fnxt (vp_updL fO 0 (lN (PL (ig g n) 64 k (2 ^ n - 1) t (2 ^ w)))) fE).flatten := hD
      refine lv_lstore (lv' := [(7, .long (lN (PL (ig g n) 64 k (2 ^ n - 1) t (2 ^ w)))), (6, .int (nI 0)), (5, .int (nI z0)), (4, .ref od), (3, .ref oo), (2, .ref (a 0)), (1, .ref (b 0)), (0, .ref sc)]) hx hb dL_law__1026 hl (by decide) rfl (fun ls hl => ?_)
      refine lv_aload_n hx hb dL_law__1028 rfl (lv_at hl 5 rfl) ?_
      refine ca_i (CL := [mO a (nI n) (nI k) (nI 0)]) (va_runV (As := []) (rest := []) ⟨hx, hb, hml, hown, hts⟩ (c_X9_thrown l D cY H.size a n k (nI 0)) (cwV 0 hts gL_law__X9_thrown rfl rfl rfl (by decide +kernel) ⟨Nat.le_of_ble_eq_true rfl, Nat.le_of_ble_eq_true rfl⟩) (b_preV hVK hP hD [30] rfl rfl 30 rfl rfl) rfl rfl hl.1 rfl (lv_room (Nat.le_of_ble_eq_true rfl)) dL_law__1029 ⟨by omega, by omega⟩) hP hD hS hA [30] rfl rfl (fun _ => rfl) (fun r1029 uu H locs hq hP hD hS => ?_)
      subst hq
      have hP : va_P D vwCl (LB cY b rr a oo od n k n k fG fW fR fH fA fS1_1 fRs fOt fMi fEn fEb fPy fB fCc (nI 0) fto fpay fcol fnow1_2 fthn1_3 foth fmnr fwts fmap fnxt (vp_updL fO 0 (lN (PL (ig g n) 64 k (2 ^ n - 1) t (2 ^ w)))) fE).flatten H := hP
      have hD : va_D A (LB cY b rr a oo od n k n k fG fW fR fH fA fS1_1 fRs fOt fMi fEn fEb fPy fB fCc (nI 0) fto fpay fcol fnow1_2 fthn1_3 foth fmnr fwts fmap fnxt (vp_updL fO 0 (lN (PL (ig g n) 64 k (2 ^ n - 1) t (2 ^ w)))) fE).flatten := hD
      refine lv_iload hx hb dL_law__1032 (lv_at hl 1 rfl) ?_
      refine n_icmp_eq (tgt := 1039) hx hb dL_law__1034 (by decide) (by omega) (by omega) (fun h1034 => ?_) (fun h1034 => ?_)
      · -- t
        refine lv_iload hx hb dL_law__1039 (lv_at hl 1 rfl) ?_
        refine n_if_ne (tgt := 1055) hx hb dL_law__1041 (by decide) (by omega) (fun h1041 => ?_) (fun h1041 => ?_)
        · -- t
          exact absurd rfl h1041
        · -- f
          refine lv_aload_n hx hb dL_law__1044 rfl (lv_at hl 4 rfl) ?_
          refine lv_iconst (v := nI 0) hx hb dL_law__1045 (by decide) ?_
          refine b_lald hx hb hK hP 41 1 rfl rfl (by omega) (by omega) dL_law__1046 ?_
          refine eql (x' := lN (PL (ig g n) 64 k (2 ^ n - 1) t (2 ^ w))) pk_uLs ?_
          refine lv_lload hx hb dL_law__1047 (lv_at hl 0 rfl) ?_
          refine W.lcmp hx hb dL_law__1049 ?_
          refine l_if_eq (tgt := 1055) hx hb dL_law__1050 (by decide) (fun h1050 => ?_) (fun h1050 => ?_)
          · -- t
            refine lv_goto (tgt := 1823) hx hb dL_law__1055 (by decide) ?_
            refine W.widen (Nat.le_add_right cells 1) (Nat.le_add_right slots 6) ?_
            exact K n k g col fG fW fR fH fA fS1_1 fRs fOt fMi fEn fEb fPy fB fCc (nI 0) fto fpay fcol fnow1_2 fthn1_3 foth fmnr fwts fmap fnxt (vp_updL fO 0 (lN (PL (ig g n) 64 k (2 ^ n - 1) t (2 ^ w)))) fE hI _ _ hP hD hS _ (lv_sub hl [2, 3, 4, 5, 6, 7] rfl)
          · -- f
            exact absurd (rfl) h1050
      · -- f
        exact absurd rfl h1034
    · -- not
      refine lv_aload_n hx hb dL_law__991 rfl (lv_at hl 4 rfl) ?_
      refine lv_aload_n hx hb dL_law__992 rfl (lv_at hl 5 rfl) ?_
      refine lv_iload hx hb dL_law__993 (lv_at hl 0 rfl) ?_
      refine lv_iconst (v := nI 1) hx hb dL_law__995 (by decide) ?_
      refine lv_iadd hx hb dL_law__996 ?_
      refine eqi (x' := nI (z0 + 1)) (nI_add _ _) ?_
      refine s_ld hx hb hsc hscl hscA hS (by omega) hL dL_law__997 ?_
      refine lv_aload_n hx hb dL_law__998 rfl (lv_at hl 5 rfl) ?_
      refine lv_iload hx hb dL_law__999 (lv_at hl 0 rfl) ?_
      refine lv_iconst (v := nI 2) hx hb dL_law__1001 (by decide) ?_
      refine lv_iadd hx hb dL_law__1002 ?_
      refine eqi (x' := nI (z0 + 2)) (nI_add _ _) ?_
      refine s_ld hx hb hsc hscl hscA hS (by omega) hL dL_law__1003 ?_
      refine lv_aload_n hx hb dL_law__1004 rfl (lv_at hl 2 rfl) ?_
      refine hh_i (CL := [hO b, cO b (nI n) (nI k), [(oo, .inl (cY 1, 1, .inr (.inl fO)))]]) (vx_runSX (As := [.ref (b 0), .int (xs (z0 + 1)), .int (xs (z0 + 2)), .ref oo]) (rest := []) ⟨hx, hb, hml, hown, hts⟩ (c_L_together_b2 l D cY H.size b n k (xs (z0 + 1)) (xs (z0 + 2)) oo fO hlT (by omega) (by omega) (by omega) (by omega) hc1 hc2) (vx_cwSW 4 hts gL_law__L_together rfl rfl rfl (by decide +kernel) ⟨Nat.le_of_ble_eq_true rfl, Nat.le_of_ble_eq_true rfl⟩) (b_preHS hVK hP hD hS hA hX hH [0, 1, 41] rfl rfl) rfl rfl hl.1 rfl (lv_room (Nat.le_of_ble_eq_true rfl)) dL_law__1005 ⟨by omega, by omega⟩) hP hD hS hA [0, 1, 41] rfl rfl (fun _ => rfl) (fun r1005 uu H locs hq hP hD hS => ?_)
      subst hq
      have hP : va_P D vwCl (LB cY b rr a oo od n k n k fG fW fR fH fA fS fRs fOt fMi fEn fEb fPy fB fCc th fto fpay fcol fnow fthn foth fmnr fwts fmap fnxt fO fE).flatten H := hP
      have hD : va_D A (LB cY b rr a oo od n k n k fG fW fR fH fA fS fRs fOt fMi fEn fEb fPy fB fCc th fto fpay fcol fnow fthn foth fmnr fwts fmap fnxt fO fE).flatten := hD
      refine lv_istore (lv' := [(6, .int (nI 2)), (5, .int (nI z0)), (4, .ref od), (3, .ref oo), (2, .ref (a 0)), (1, .ref (b 0)), (0, .ref sc)]) hx hb dL_law__1008 hl (by decide) rfl (fun ls hl => ?_)
      refine lv_aload_n hx hb dL_law__1010 rfl (lv_at hl 4 rfl) ?_
      refine lv_aload_n hx hb dL_law__1011 rfl (lv_at hl 6 rfl) ?_
      refine lv_iload hx hb dL_law__1012 (lv_at hl 1 rfl) ?_
      refine lv_iconst (v := nI 1) hx hb dL_law__1014 (by decide) ?_
      refine lv_iadd hx hb dL_law__1015 ?_
      refine eqi (x' := nI (z0 + 1)) (nI_add _ _) ?_
      refine s_ld hx hb hsc hscl hscA hS (by omega) hL dL_law__1016 ?_
      refine lv_aload_n hx hb dL_law__1017 rfl (lv_at hl 6 rfl) ?_
      refine lv_iload hx hb dL_law__1018 (lv_at hl 1 rfl) ?_
      refine lv_iconst (v := nI 2) hx hb dL_law__1020 (by decide) ?_
      refine lv_iadd hx hb dL_law__1021 ?_
      refine eqi (x' := nI (z0 + 2)) (nI_add _ _) ?_
      refine s_ld hx hb hsc hscl hscA hS (by omega) hL dL_law__1022 ?_
      refine ca_l (CL := [mO a (nI n) (nI k) th]) (va_runV (As := [.int (xs (z0 + 1)), .int (xs (z0 + 2))]) (rest := []) ⟨hx, hb, hml, hown, hts⟩ (c_X9_together_b2 l D cY H.size a n k th (xs (z0 + 1)) (xs (z0 + 2)) (by omega) (by omega) (by omega) (by omega) hc1 hc2) (cwV 2 hts gL_law__X9_together rfl rfl rfl (by decide +kernel) ⟨Nat.le_of_ble_eq_true rfl, Nat.le_of_ble_eq_true rfl⟩) (b_preV hVK hP hD [30] rfl rfl 30 rfl rfl) rfl rfl hl.1 rfl (lv_room (Nat.le_of_ble_eq_true rfl)) dL_law__1023 ⟨by omega, by omega⟩) hP hD hS hA [30] rfl rfl (fun _ => rfl) (fun r1023 uu H locs hq hP hD hS => ?_)
      subst hq
      have hP : va_P D vwCl (LB cY b rr a oo od n k n k fG fW fR fH fA fS fRs fOt fMi fEn fEb fPy fB fCc (nI 2) fto fpay fcol fnow fthn foth fmnr fwts fmap fnxt fO fE).flatten H := hP
      have hD : va_D A (LB cY b rr a oo od n k n k fG fW fR fH fA fS fRs fOt fMi fEn fEb fPy fB fCc (nI 2) fto fpay fcol fnow fthn foth fmnr fwts fmap fnxt fO fE).flatten := hD
      refine lv_lstore (lv' := [(7, .long (lN 0)), (6, .int (nI 2)), (5, .int (nI z0)), (4, .ref od), (3, .ref oo), (2, .ref (a 0)), (1, .ref (b 0)), (0, .ref sc)]) hx hb dL_law__1026 hl (by decide) rfl (fun ls hl => ?_)
      refine lv_aload_n hx hb dL_law__1028 rfl (lv_at hl 5 rfl) ?_
      refine ca_i (CL := [mO a (nI n) (nI k) (nI 2)]) (va_runV (As := []) (rest := []) ⟨hx, hb, hml, hown, hts⟩ (c_X9_thrown l D cY H.size a n k (nI 2)) (cwV 0 hts gL_law__X9_thrown rfl rfl rfl (by decide +kernel) ⟨Nat.le_of_ble_eq_true rfl, Nat.le_of_ble_eq_true rfl⟩) (b_preV hVK hP hD [30] rfl rfl 30 rfl rfl) rfl rfl hl.1 rfl (lv_room (Nat.le_of_ble_eq_true rfl)) dL_law__1029 ⟨by omega, by omega⟩) hP hD hS hA [30] rfl rfl (fun _ => rfl) (fun r1029 uu H locs hq hP hD hS => ?_)
      subst hq
      have hP : va_P D vwCl (LB cY b rr a oo od n k n k fG fW fR fH fA fS fRs fOt fMi fEn fEb fPy fB fCc (nI 2) fto fpay fcol fnow fthn foth fmnr fwts fmap fnxt fO fE).flatten H := hP
      have hD : va_D A (LB cY b rr a oo od n k n k fG fW fR fH fA fS fRs fOt fMi fEn fEb fPy fB fCc (nI 2) fto fpay fcol fnow fthn foth fmnr fwts fmap fnxt fO fE).flatten := hD
      refine lv_iload hx hb dL_law__1032 (lv_at hl 1 rfl) ?_
      refine n_icmp_eq (tgt := 1039) hx hb dL_law__1034 (by decide) (by omega) (by omega) (fun h1034 => ?_) (fun h1034 => ?_)
      · -- t
        refine lv_iload hx hb dL_law__1039 (lv_at hl 1 rfl) ?_
        refine n_if_ne (tgt := 1055) hx hb dL_law__1041 (by decide) (by omega) (fun h1041 => ?_) (fun h1041 => ?_)
        · -- t
          refine lv_goto (tgt := 1823) hx hb dL_law__1055 (by decide) ?_
          exact K n k g col fG fW fR fH fA fS fRs fOt fMi fEn fEb fPy fB fCc (nI 2) fto fpay fcol fnow fthn foth fmnr fwts fmap fnxt fO fE hI _ _ hP hD hS _ (lv_sub hl [2, 3, 4, 5, 6, 7] rfl)
        · -- f
          exact absurd h1041 (by decide)
      · -- f
        exact absurd rfl h1034
  · -- not
    refine lv_aload_n hx hb dL_law__991 rfl (lv_at hl 4 rfl) ?_
    refine lv_aload_n hx hb dL_law__992 rfl (lv_at hl 5 rfl) ?_
    refine lv_iload hx hb dL_law__993 (lv_at hl 0 rfl) ?_
    refine lv_iconst (v := nI 1) hx hb dL_law__995 (by decide) ?_
    refine lv_iadd hx hb dL_law__996 ?_
    refine eqi (x' := nI (z0 + 1)) (nI_add _ _) ?_
    refine s_ld hx hb hsc hscl hscA hS (by omega) hL dL_law__997 ?_
    refine lv_aload_n hx hb dL_law__998 rfl (lv_at hl 5 rfl) ?_
    refine lv_iload hx hb dL_law__999 (lv_at hl 0 rfl) ?_
    refine lv_iconst (v := nI 2) hx hb dL_law__1001 (by decide) ?_
    refine lv_iadd hx hb dL_law__1002 ?_
    refine eqi (x' := nI (z0 + 2)) (nI_add _ _) ?_
    refine s_ld hx hb hsc hscl hscA hS (by omega) hL dL_law__1003 ?_
    refine lv_aload_n hx hb dL_law__1004 rfl (lv_at hl 2 rfl) ?_
    refine hh_i (CL := [hO b, cO b (nI n) (nI k), [(oo, .inl (cY 1, 1, .inr (.inl fO)))]]) (vx_runSX (As := [.ref (b 0), .int (xs (z0 + 1)), .int (xs (z0 + 2)), .ref oo]) (rest := []) ⟨hx, hb, hml, hown, hts⟩ (c_L_together_b1 l D cY H.size b n k (xs (z0 + 1)) (xs (z0 + 2)) oo fO hlT (by omega) (by omega) (by omega) (by omega) hc1) (vx_cwSW 4 hts gL_law__L_together rfl rfl rfl (by decide +kernel) ⟨Nat.le_of_ble_eq_true rfl, Nat.le_of_ble_eq_true rfl⟩) (b_preHS hVK hP hD hS hA hX hH [0, 1, 41] rfl rfl) rfl rfl hl.1 rfl (lv_room (Nat.le_of_ble_eq_true rfl)) dL_law__1005 ⟨by omega, by omega⟩) hP hD hS hA [0, 1, 41] rfl rfl (fun _ => rfl) (fun r1005 uu H locs hq hP hD hS => ?_)
    subst hq
    have hP : va_P D vwCl (LB cY b rr a oo od n k n k fG fW fR fH fA fS fRs fOt fMi fEn fEb fPy fB fCc th fto fpay fcol fnow fthn foth fmnr fwts fmap fnxt fO fE).flatten H := hP
    have hD : va_D A (LB cY b rr a oo od n k n k fG fW fR fH fA fS fRs fOt fMi fEn fEb fPy fB fCc th fto fpay fcol fnow fthn foth fmnr fwts fmap fnxt fO fE).flatten := hD
    refine lv_istore (lv' := [(6, .int (nI 1)), (5, .int (nI z0)), (4, .ref od), (3, .ref oo), (2, .ref (a 0)), (1, .ref (b 0)), (0, .ref sc)]) hx hb dL_law__1008 hl (by decide) rfl (fun ls hl => ?_)
    refine lv_aload_n hx hb dL_law__1010 rfl (lv_at hl 4 rfl) ?_
    refine lv_aload_n hx hb dL_law__1011 rfl (lv_at hl 6 rfl) ?_
    refine lv_iload hx hb dL_law__1012 (lv_at hl 1 rfl) ?_
    refine lv_iconst (v := nI 1) hx hb dL_law__1014 (by decide) ?_
    refine lv_iadd hx hb dL_law__1015 ?_
    refine eqi (x' := nI (z0 + 1)) (nI_add _ _) ?_
    refine s_ld hx hb hsc hscl hscA hS (by omega) hL dL_law__1016 ?_
    refine lv_aload_n hx hb dL_law__1017 rfl (lv_at hl 6 rfl) ?_
    refine lv_iload hx hb dL_law__1018 (lv_at hl 1 rfl) ?_
    refine lv_iconst (v := nI 2) hx hb dL_law__1020 (by decide) ?_
    refine lv_iadd hx hb dL_law__1021 ?_
    refine eqi (x' := nI (z0 + 2)) (nI_add _ _) ?_
    refine s_ld hx hb hsc hscl hscA hS (by omega) hL dL_law__1022 ?_
    refine ca_l (CL := [mO a (nI n) (nI k) th]) (va_runV (As := [.int (xs (z0 + 1)), .int (xs (z0 + 2))]) (rest := []) ⟨hx, hb, hml, hown, hts⟩ (c_X9_together_b1 l D cY H.size a n k th (xs (z0 + 1)) (xs (z0 + 2)) (by omega) (by omega) (by omega) (by omega) hc1) (cwV 2 hts gL_law__X9_together rfl rfl rfl (by decide +kernel) ⟨Nat.le_of_ble_eq_true rfl, Nat.le_of_ble_eq_true rfl⟩) (b_preV hVK hP hD [30] rfl rfl 30 rfl rfl) rfl rfl hl.1 rfl (lv_room (Nat.le_of_ble_eq_true rfl)) dL_law__1023 ⟨by omega, by omega⟩) hP hD hS hA [30] rfl rfl (fun _ => rfl) (fun r1023 uu H locs hq hP hD hS => ?_)
    subst hq
    have hP : va_P D vwCl (LB cY b rr a oo od n k n k fG fW fR fH fA fS fRs fOt fMi fEn fEb fPy fB fCc (nI 1) fto fpay fcol fnow fthn foth fmnr fwts fmap fnxt fO fE).flatten H := hP
    have hD : va_D A (LB cY b rr a oo od n k n k fG fW fR fH fA fS fRs fOt fMi fEn fEb fPy fB fCc (nI 1) fto fpay fcol fnow fthn foth fmnr fwts fmap fnxt fO fE).flatten := hD
    refine lv_lstore (lv' := [(7, .long (lN 0)), (6, .int (nI 1)), (5, .int (nI z0)), (4, .ref od), (3, .ref oo), (2, .ref (a 0)), (1, .ref (b 0)), (0, .ref sc)]) hx hb dL_law__1026 hl (by decide) rfl (fun ls hl => ?_)
    refine lv_aload_n hx hb dL_law__1028 rfl (lv_at hl 5 rfl) ?_
    refine ca_i (CL := [mO a (nI n) (nI k) (nI 1)]) (va_runV (As := []) (rest := []) ⟨hx, hb, hml, hown, hts⟩ (c_X9_thrown l D cY H.size a n k (nI 1)) (cwV 0 hts gL_law__X9_thrown rfl rfl rfl (by decide +kernel) ⟨Nat.le_of_ble_eq_true rfl, Nat.le_of_ble_eq_true rfl⟩) (b_preV hVK hP hD [30] rfl rfl 30 rfl rfl) rfl rfl hl.1 rfl (lv_room (Nat.le_of_ble_eq_true rfl)) dL_law__1029 ⟨by omega, by omega⟩) hP hD hS hA [30] rfl rfl (fun _ => rfl) (fun r1029 uu H locs hq hP hD hS => ?_)
    subst hq
    have hP : va_P D vwCl (LB cY b rr a oo od n k n k fG fW fR fH fA fS fRs fOt fMi fEn fEb fPy fB fCc (nI 1) fto fpay fcol fnow fthn foth fmnr fwts fmap fnxt fO fE).flatten H := hP
    have hD : va_D A (LB cY b rr a oo od n k n k fG fW fR fH fA fS fRs fOt fMi fEn fEb fPy fB fCc (nI 1) fto fpay fcol fnow fthn foth fmnr fwts fmap fnxt fO fE).flatten := hD
    refine lv_iload hx hb dL_law__1032 (lv_at hl 1 rfl) ?_
    refine n_icmp_eq (tgt := 1039) hx hb dL_law__1034 (by decide) (by omega) (by omega) (fun h1034 => ?_) (fun h1034 => ?_)
    · -- t
      refine lv_iload hx hb dL_law__1039 (lv_at hl 1 rfl) ?_
      refine n_if_ne (tgt := 1055) hx hb dL_law__1041 (by decide) (by omega) (fun h1041 => ?_) (fun h1041 => ?_)
      · -- t
        refine lv_goto (tgt := 1823) hx hb dL_law__1055 (by decide) ?_
        exact K n k g col fG fW fR fH fA fS fRs fOt fMi fEn fEb fPy fB fCc (nI 1) fto fpay fcol fnow fthn foth fmnr fwts fmap fnxt fO fE hI _ _ hP hD hS _ (lv_sub hl [2, 3, 4, 5, 6, 7] rfl)
      · -- f
        exact absurd h1041 (by decide)
    · -- f
      exact absurd rfl h1034

set_option maxHeartbeats 8000000 in
set_option maxRecDepth 100000 in
theorem lc_hits {p : Program} {l : Launch} {e : Env} {s : State} {m : MethodId} {below : List Frame} {meth : Method} {c : Code} {H : Heap} {locs : List Loc} {cells slots : Nat} {Q : State → Prop} {D : va_G} {cY : Nat → ClassId} {A : Nat → Prop} {sc L : Nat} {xs : Nat → Int32} {b : Nat → Nat} {rr : Nat → Nat → Nat} {a : Nat → Nat} {oo od z0 : Nat} {ls : Array Slot} (E : LE p s m sc c D cY A L xs) (hlT : l.stackTraces = false) (hi4 : z0 + 4 ≤ L) (hL : L ≤ 2048) (hroom : cells + 1 ≤ room_1.cells ∧ slots + 6 ≤ room_1.slots) {n k : Nat} {g : Nat → Nat → Nat} {col : Nat → Nat} {fG fW : Nat → Nat → Int32} {fR fH fA fS : Nat → Nat → Int64} {fRs : Nat → Int64} {fOt : Nat → Int32} {fMi : Nat → Int64} {fEn fEb fPy : Nat → Int32} {fB : Nat → Nat → Int64} {fCc : Nat → Int32} {th : Int32} {fto fpay fcol : Nat → Int32} {fnow fthn foth fmnr fwts : Nat → Int64} {fmap fnxt : Nat → Int32} {fO : Nat → Int64} {fE : Nat → UInt64} (hI : LV n k g col fG fW fPy fCc fto fpay fcol) (hP : va_P D vwCl (LB cY b rr a oo od n k n k fG fW fR fH fA fS fRs fOt fMi fEn fEb fPy fB fCc th fto fpay fcol fnow fthn foth fmnr fwts fmap fnxt fO fE).flatten H) (hD : va_D A (LB cY b rr a oo od n k n k fG fW fR fH fA fS fRs fOt fMi fEn fEb fPy fB fCc th fto fpay fcol fnow fthn foth fmnr fwts fmap fnxt fO fE).flatten) (hS : va_S A s.heap H locs) (hl : lv_has ls 9 [(5, .int (nI z0)), (4, .ref od), (3, .ref oo), (2, .ref (a 0)), (1, .ref (b 0)), (0, .ref sc)]) (K : LK p l e s m below meth c sc D cY A b rr a oo od z0 cells slots Q) : W p l e room_1 s m #[Value.ref sc] below meth c H locs cells slots Q (F0 m 1058 ls []) := by
  obtain ⟨hx, hb, hml, hts, hown, hK, hVK, hA, hX, hH, hsc, hscl, hscA⟩ := E
  obtain ⟨⟨hn1, hn6, hk1, hk12⟩, hG, hgn, hW, hT, hPy, hC6⟩ := id hI
  rcases Bool.eq_false_or_eq_true (inR (xs (z0 + 1)) (nI 0) (nI (n - 1)) && inR (xs (z0 + 3)) (nI 0) (nI (n - 1))) with hc1 | hc1
  · -- holds
    rcases Bool.eq_false_or_eq_true (inR (xs (z0 + 2)) (nI 0) (nI 12)) with hc2 | hc2
    · -- holds
      obtain ⟨hca, hcb⟩ := two_ hc1
      obtain ⟨i, hi_, e1⟩ := inR_of (by omega) hca
      obtain ⟨t, ht_, e2⟩ := inR_of (by omega) hc2
      obtain ⟨w, hw_, e3⟩ := inR_of (by omega) hcb
      refine lv_aload_n hx hb dL_law__1058 rfl (lv_at hl 4 rfl) ?_
      refine lv_aload_n hx hb dL_law__1059 rfl (lv_at hl 5 rfl) ?_
      refine lv_iload hx hb dL_law__1060 (lv_at hl 0 rfl) ?_
      refine lv_iconst (v := nI 1) hx hb dL_law__1062 (by decide) ?_
      refine lv_iadd hx hb dL_law__1063 ?_
      refine eqi (x' := nI (z0 + 1)) (nI_add _ _) ?_
      refine s_ld hx hb hsc hscl hscA hS (by omega) hL dL_law__1064 ?_
      refine eqi (x' := nI i) e1 ?_
      refine lv_aload_n hx hb dL_law__1065 rfl (lv_at hl 5 rfl) ?_
      refine lv_iload hx hb dL_law__1066 (lv_at hl 0 rfl) ?_
      refine lv_iconst (v := nI 2) hx hb dL_law__1068 (by decide) ?_
      refine lv_iadd hx hb dL_law__1069 ?_
      refine eqi (x' := nI (z0 + 2)) (nI_add _ _) ?_
      refine s_ld hx hb hsc hscl hscA hS (by omega) hL dL_law__1070 ?_
      refine eqi (x' := nI t) e2 ?_
      refine lv_aload_n hx hb dL_law__1071 rfl (lv_at hl 5 rfl) ?_
      refine lv_iload hx hb dL_law__1072 (lv_at hl 0 rfl) ?_
      refine lv_iconst (v := nI 3) hx hb dL_law__1074 (by decide) ?_
      refine lv_iadd hx hb dL_law__1075 ?_
      refine eqi (x' := nI (z0 + 3)) (nI_add _ _) ?_
      refine s_ld hx hb hsc hscl hscA hS (by omega) hL dL_law__1076 ?_
      refine eqi (x' := nI w) e3 ?_
      refine lv_aload_n hx hb dL_law__1077 rfl (lv_at hl 2 rfl) ?_
      refine hh_i (CL := [hO b, cO b (nI n) (nI k), lO b, oQ (cY 2) (b 3) (rr 1) 6, gI (cY 0) (rr 1) 6 fW 6, oQ (cY 3) (b 6) (rr 3) 13, gJ (cY 1) (rr 3) 6 fH 13, [(oo, .inl (cY 1, 1, .inr (.inl fO)))]]) (vx_runSX (As := [.ref (b 0), .int (nI i), .int (nI t), .int (nI w), .ref oo]) (rest := []) ⟨hx, hb, hml, hown, hts⟩ (c_L_hits_ok l D cY H.size b rr n k fW fH g i t w oo fO (by omega) (by omega) (by omega) (by omega) hW (by omega) (by omega) (by omega)) (vx_cwSW 5 hts gL_law__L_hits rfl rfl rfl (by decide +kernel) ⟨Nat.le_of_ble_eq_true rfl, Nat.le_of_ble_eq_true rfl⟩) (b_preHS hVK hP hD hS hA hX hH [0, 1, 6, 4, 5, 9, 10, 41] rfl rfl) rfl rfl hl.1 rfl (lv_room (Nat.le_of_ble_eq_true rfl)) dL_law__1078 ⟨by omega, by omega⟩) hP hD hS hA [0, 1, 6, 4, 5, 9, 10, 41] rfl rfl (fun _ => rfl) (fun r1078 uu H locs hq hP hD hS => ?_)
      obtain ⟨fH1_1, rfl⟩ : ∃ z, z = uu := ⟨_, rfl⟩
      try dsimp only at hq
      subst hq
      have hP : va_P D vwCl (LB cY b rr a oo od n k n k fG fW fR fH1_1 fA fS fRs fOt fMi fEn fEb fPy fB fCc th fto fpay fcol fnow fthn foth fmnr fwts fmap fnxt (vp_updL fO 0 (lN (HB g n k w t i))) fE).flatten H := hP
      have hD : va_D A (LB cY b rr a oo od n k n k fG fW fR fH1_1 fA fS fRs fOt fMi fEn fEb fPy fB fCc th fto fpay fcol fnow fthn foth fmnr fwts fmap fnxt (vp_updL fO 0 (lN (HB g n k w t i))) fE).flatten := hD
      refine lv_istore (lv' := [(6, .int (nI 0)), (5, .int (nI z0)), (4, .ref od), (3, .ref oo), (2, .ref (a 0)), (1, .ref (b 0)), (0, .ref sc)]) hx hb dL_law__1081 hl (by decide) rfl (fun ls hl => ?_)
      refine lv_aload_n hx hb dL_law__1083 rfl (lv_at hl 4 rfl) ?_
      refine lv_aload_n hx hb dL_law__1084 rfl (lv_at hl 6 rfl) ?_
      refine lv_iload hx hb dL_law__1085 (lv_at hl 1 rfl) ?_
      refine lv_iconst (v := nI 1) hx hb dL_law__1087 (by decide) ?_
      refine lv_iadd hx hb dL_law__1088 ?_
      refine eqi (x' := nI (z0 + 1)) (nI_add _ _) ?_
      refine s_ld hx hb hsc hscl hscA hS (by omega) hL dL_law__1089 ?_
      refine eqi (x' := nI i) e1 ?_
      refine lv_aload_n hx hb dL_law__1090 rfl (lv_at hl 6 rfl) ?_
      refine lv_iload hx hb dL_law__1091 (lv_at hl 1 rfl) ?_
      refine lv_iconst (v := nI 2) hx hb dL_law__1093 (by decide) ?_
      refine lv_iadd hx hb dL_law__1094 ?_
      refine eqi (x' := nI (z0 + 2)) (nI_add _ _) ?_
      refine s_ld hx hb hsc hscl hscA hS (by omega) hL dL_law__1095 ?_
      refine eqi (x' := nI t) e2 ?_
      refine lv_aload_n hx hb dL_law__1096 rfl (lv_at hl 6 rfl) ?_
      refine lv_iload hx hb dL_law__1097 (lv_at hl 1 rfl) ?_
      refine lv_iconst (v := nI 3) hx hb dL_law__1099 (by decide) ?_
      refine lv_iadd hx hb dL_law__1100 ?_
      refine eqi (x' := nI (z0 + 3)) (nI_add _ _) ?_
      refine s_ld hx hb hsc hscl hscA hS (by omega) hL dL_law__1101 ?_
      refine eqi (x' := nI w) e3 ?_
      refine ca_l (CL := [mO a (nI n) (nI k) th, [(a 1, .inl (cY 0, 72, .inl fto))], [(a 4, .inl (cY 1, 64, .inr (.inl fnow)))], [(a 5, .inl (cY 1, 64, .inr (.inl fthn)))]]) (va_runV (As := [.int (nI i), .int (nI t), .int (nI w)]) (rest := []) ⟨hx, hb, hml, hown, hts⟩ (c_X9_hits_ok l D cY H.size a n k th fto fnow fthn g i t w (by omega) (by omega) (by omega) (by omega) hT hgn (by omega) (by omega) (by omega)) (cwV 3 hts gL_law__X9_hits rfl rfl rfl (by decide +kernel) ⟨Nat.le_of_ble_eq_true rfl, Nat.le_of_ble_eq_true rfl⟩) (b_preV hVK hP hD [30, 31, 34, 35] rfl rfl 30 rfl rfl) rfl rfl hl.1 rfl (lv_room (Nat.le_of_ble_eq_true rfl)) dL_law__1102 ⟨by omega, by omega⟩) hP hD hS hA [30, 31, 34, 35] rfl rfl (fun _ => rfl) (fun r1102 uu H locs hq hP hD hS => ?_)
      obtain ⟨fnow1_2, fthn1_3⟩ := uu
      try dsimp only at hq
      subst hq
      have hP : va_P D vwCl (LB cY b rr a oo od n k n k fG fW fR fH1_1 fA fS fRs fOt fMi fEn fEb fPy fB fCc (nI 0) fto fpay fcol fnow1_2 fthn1_3 foth fmnr fwts fmap fnxt (vp_updL fO 0 (lN (HB g n k w t i))) fE).flatten H := hP
      have hD : va_D A (LB cY b rr a oo od n k n k fG fW fR fH1_1 fA fS fRs fOt fMi fEn fEb fPy fB fCc (nI 0) fto fpay fcol fnow1_2 fthn1_3 foth fmnr fwts fmap fnxt (vp_updL fO 0 (lN (HB g n k w t i))) fE).flatten := hD
      refine lv_lstore (lv' := [(7, .long (lN (HS g n k i w t (t + 1)))), (6, .int (nI 0)), (5, .int (nI z0)), (4, .ref od), (3, .ref oo), (2, .ref (a 0)), (1, .ref (b 0)), (0, .ref sc)]) hx hb dL_law__1105 hl (by decide) rfl (fun ls hl => ?_)
      refine lv_aload_n hx hb dL_law__1107 rfl (lv_at hl 5 rfl) ?_
      refine ca_i (CL := [mO a (nI n) (nI k) (nI 0)]) (va_runV (As := []) (rest := []) ⟨hx, hb, hml, hown, hts⟩ (c_X9_thrown l D cY H.size a n k (nI 0)) (cwV 0 hts gL_law__X9_thrown rfl rfl rfl (by decide +kernel) ⟨Nat.le_of_ble_eq_true rfl, Nat.le_of_ble_eq_true rfl⟩) (b_preV hVK hP hD [30] rfl rfl 30 rfl rfl) rfl rfl hl.1 rfl (lv_room (Nat.le_of_ble_eq_true rfl)) dL_law__1108 ⟨by omega, by omega⟩) hP hD hS hA [30] rfl rfl (fun _ => rfl) (fun r1108 uu H locs hq hP hD hS => ?_)
      subst hq
      have hP : va_P D vwCl (LB cY b rr a oo od n k n k fG fW fR fH1_1 fA fS fRs fOt fMi fEn fEb fPy fB fCc (nI 0) fto fpay fcol fnow1_2 fthn1_3 foth fmnr fwts fmap fnxt (vp_updL fO 0 (lN (HB g n k w t i))) fE).flatten H := hP
      have hD : va_D A (LB cY b rr a oo od n k n k fG fW fR fH1_1 fA fS fRs fOt fMi fEn fEb fPy fB fCc (nI 0) fto fpay fcol fnow1_2 fthn1_3 foth fmnr fwts fmap fnxt (vp_updL fO 0 (lN (HB g n k w t i))) fE).flatten := hD
      refine lv_iload hx hb dL_law__1111 (lv_at hl 1 rfl) ?_
      refine n_icmp_eq (tgt := 1118) hx hb dL_law__1113 (by decide) (by omega) (by omega) (fun h1113 => ?_) (fun h1113 => ?_)
      · -- t
        refine lv_iload hx hb dL_law__1118 (lv_at hl 1 rfl) ?_
        refine n_if_ne (tgt := 1134) hx hb dL_law__1120 (by decide) (by omega) (fun h1120 => ?_) (fun h1120 => ?_)
        · -- t
          exact absurd rfl h1120
        · -- f
          refine lv_aload_n hx hb dL_law__1123 rfl (lv_at hl 4 rfl) ?_
          refine lv_iconst (v := nI 0) hx hb dL_law__1124 (by decide) ?_
          refine b_lald hx hb hK hP 41 1 rfl rfl (by omega) (by omega) dL_law__1125 ?_
          refine eql (x' := lN (HB g n k w t i)) pk_uLs ?_
          refine lv_lload hx hb dL_law__1126 (lv_at hl 0 rfl) ?_
          refine W.lcmp hx hb dL_law__1128 ?_
          refine l_if_eq (tgt := 1134) hx hb dL_law__1129 (by decide) (fun h1129 => ?_) (fun h1129 => ?_)
          · -- t
            refine lv_goto (tgt := 1823) hx hb dL_law__1134 (by decide) ?_
            refine W.widen (Nat.le_add_right cells 1) (Nat.le_add_right slots 6) ?_
            exact K n k g col fG fW fR fH1_1 fA fS fRs fOt fMi fEn fEb fPy fB fCc (nI 0) fto fpay fcol fnow1_2 fthn1_3 foth fmnr fwts fmap fnxt (vp_updL fO 0 (lN (HB g n k w t i))) fE hI _ _ hP hD hS _ (lv_sub hl [2, 3, 4, 5, 6, 7] rfl)
          · -- f
            exact absurd (congrArg lN (HB_HS (by omega) t i (by omega))) h1129
      · -- f
        exact absurd rfl h1113
    · -- not
      refine lv_aload_n hx hb dL_law__1058 rfl (lv_at hl 4 rfl) ?_
      refine lv_aload_n hx hb dL_law__1059 rfl (lv_at hl 5 rfl) ?_
      refine lv_iload hx hb dL_law__1060 (lv_at hl 0 rfl) ?_
      refine lv_iconst (v := nI 1) hx hb dL_law__1062 (by decide) ?_
      refine lv_iadd hx hb dL_law__1063 ?_
      refine eqi (x' := nI (z0 + 1)) (nI_add _ _) ?_
      refine s_ld hx hb hsc hscl hscA hS (by omega) hL dL_law__1064 ?_
      refine lv_aload_n hx hb dL_law__1065 rfl (lv_at hl 5 rfl) ?_
      refine lv_iload hx hb dL_law__1066 (lv_at hl 0 rfl) ?_
      refine lv_iconst (v := nI 2) hx hb dL_law__1068 (by decide) ?_
      refine lv_iadd hx hb dL_law__1069 ?_
      refine eqi (x' := nI (z0 + 2)) (nI_add _ _) ?_
      refine s_ld hx hb hsc hscl hscA hS (by omega) hL dL_law__1070 ?_
      refine lv_aload_n hx hb dL_law__1071 rfl (lv_at hl 5 rfl) ?_
      refine lv_iload hx hb dL_law__1072 (lv_at hl 0 rfl) ?_
      refine lv_iconst (v := nI 3) hx hb dL_law__1074 (by decide) ?_
      refine lv_iadd hx hb dL_law__1075 ?_
      refine eqi (x' := nI (z0 + 3)) (nI_add _ _) ?_
      refine s_ld hx hb hsc hscl hscA hS (by omega) hL dL_law__1076 ?_
      refine lv_aload_n hx hb dL_law__1077 rfl (lv_at hl 2 rfl) ?_
      refine hh_i (CL := [hO b, cO b (nI n) (nI k), [(oo, .inl (cY 1, 1, .inr (.inl fO)))]]) (vx_runSX (As := [.ref (b 0), .int (xs (z0 + 1)), .int (xs (z0 + 2)), .int (xs (z0 + 3)), .ref oo]) (rest := []) ⟨hx, hb, hml, hown, hts⟩ (c_L_hits_b2 l D cY H.size b n k (xs (z0 + 1)) (xs (z0 + 2)) (xs (z0 + 3)) oo fO hlT (by omega) (by omega) (by omega) (by omega) hc1 hc2) (vx_cwSW 5 hts gL_law__L_hits rfl rfl rfl (by decide +kernel) ⟨Nat.le_of_ble_eq_true rfl, Nat.le_of_ble_eq_true rfl⟩) (b_preHS hVK hP hD hS hA hX hH [0, 1, 41] rfl rfl) rfl rfl hl.1 rfl (lv_room (Nat.le_of_ble_eq_true rfl)) dL_law__1078 ⟨by omega, by omega⟩) hP hD hS hA [0, 1, 41] rfl rfl (fun _ => rfl) (fun r1078 uu H locs hq hP hD hS => ?_)
      subst hq
      have hP : va_P D vwCl (LB cY b rr a oo od n k n k fG fW fR fH fA fS fRs fOt fMi fEn fEb fPy fB fCc th fto fpay fcol fnow fthn foth fmnr fwts fmap fnxt fO fE).flatten H := hP
      have hD : va_D A (LB cY b rr a oo od n k n k fG fW fR fH fA fS fRs fOt fMi fEn fEb fPy fB fCc th fto fpay fcol fnow fthn foth fmnr fwts fmap fnxt fO fE).flatten := hD
      refine lv_istore (lv' := [(6, .int (nI 2)), (5, .int (nI z0)), (4, .ref od), (3, .ref oo), (2, .ref (a 0)), (1, .ref (b 0)), (0, .ref sc)]) hx hb dL_law__1081 hl (by decide) rfl (fun ls hl => ?_)
      refine lv_aload_n hx hb dL_law__1083 rfl (lv_at hl 4 rfl) ?_
      refine lv_aload_n hx hb dL_law__1084 rfl (lv_at hl 6 rfl) ?_
      refine lv_iload hx hb dL_law__1085 (lv_at hl 1 rfl) ?_
      refine lv_iconst (v := nI 1) hx hb dL_law__1087 (by decide) ?_
      refine lv_iadd hx hb dL_law__1088 ?_
      refine eqi (x' := nI (z0 + 1)) (nI_add _ _) ?_
      refine s_ld hx hb hsc hscl hscA hS (by omega) hL dL_law__1089 ?_
      refine lv_aload_n hx hb dL_law__1090 rfl (lv_at hl 6 rfl) ?_
      refine lv_iload hx hb dL_law__1091 (lv_at hl 1 rfl) ?_
      refine lv_iconst (v := nI 2) hx hb dL_law__1093 (by decide) ?_
      refine lv_iadd hx hb dL_law__1094 ?_
      refine eqi (x' := nI (z0 + 2)) (nI_add _ _) ?_
      refine s_ld hx hb hsc hscl hscA hS (by omega) hL dL_law__1095 ?_
      refine lv_aload_n hx hb dL_law__1096 rfl (lv_at hl 6 rfl) ?_
      refine lv_iload hx hb dL_law__1097 (lv_at hl 1 rfl) ?_
      refine lv_iconst (v := nI 3) hx hb dL_law__1099 (by decide) ?_
      refine lv_iadd hx hb dL_law__1100 ?_
      refine eqi (x' := nI (z0 + 3)) (nI_add _ _) ?_
      refine s_ld hx hb hsc hscl hscA hS (by omega) hL dL_law__1101 ?_
      refine ca_l (CL := [mO a (nI n) (nI k) th]) (va_runV (As := [.int (xs (z0 + 1)), .int (xs (z0 + 2)), .int (xs (z0 + 3))]) (rest := []) ⟨hx, hb, hml, hown, hts⟩ (c_X9_hits_b2 l D cY H.size a n k th (xs (z0 + 1)) (xs (z0 + 2)) (xs (z0 + 3)) (by omega) (by omega) (by omega) (by omega) hc1 hc2) (cwV 3 hts gL_law__X9_hits rfl rfl rfl (by decide +kernel) ⟨Nat.le_of_ble_eq_true rfl, Nat.le_of_ble_eq_true rfl⟩) (b_preV hVK hP hD [30] rfl rfl 30 rfl rfl) rfl rfl hl.1 rfl (lv_room (Nat.le_of_ble_eq_true rfl)) dL_law__1102 ⟨by omega, by omega⟩) hP hD hS hA [30] rfl rfl (fun _ => rfl) (fun r1102 uu H locs hq hP hD hS => ?_)
      subst hq
      have hP : va_P D vwCl (LB cY b rr a oo od n k n k fG fW fR fH fA fS fRs fOt fMi fEn fEb fPy fB fCc (nI 2) fto fpay fcol fnow fthn foth fmnr fwts fmap fnxt fO fE).flatten H := hP
      have hD : va_D A (LB cY b rr a oo od n k n k fG fW fR fH fA fS fRs fOt fMi fEn fEb fPy fB fCc (nI 2) fto fpay fcol fnow fthn foth fmnr fwts fmap fnxt fO fE).flatten := hD
      refine lv_lstore (lv' := [(7, .long (lN 0)), (6, .int (nI 2)), (5, .int (nI z0)), (4, .ref od), (3, .ref oo), (2, .ref (a 0)), (1, .ref (b 0)), (0, .ref sc)]) hx hb dL_law__1105 hl (by decide) rfl (fun ls hl => ?_)
      refine lv_aload_n hx hb dL_law__1107 rfl (lv_at hl 5 rfl) ?_
      refine ca_i (CL := [mO a (nI n) (nI k) (nI 2)]) (va_runV (As := []) (rest := []) ⟨hx, hb, hml, hown, hts⟩ (c_X9_thrown l D cY H.size a n k (nI 2)) (cwV 0 hts gL_law__X9_thrown rfl rfl rfl (by decide +kernel) ⟨Nat.le_of_ble_eq_true rfl, Nat.le_of_ble_eq_true rfl⟩) (b_preV hVK hP hD [30] rfl rfl 30 rfl rfl) rfl rfl hl.1 rfl (lv_room (Nat.le_of_ble_eq_true rfl)) dL_law__1108 ⟨by omega, by omega⟩) hP hD hS hA [30] rfl rfl (fun _ => rfl) (fun r1108 uu H locs hq hP hD hS => ?_)
      subst hq
      have hP : va_P D vwCl (LB cY b rr a oo od n k n k fG fW fR fH fA fS fRs fOt fMi fEn fEb fPy fB fCc (nI 2) fto fpay fcol fnow fthn foth fmnr fwts fmap fnxt fO fE).flatten H := hP
      have hD : va_D A (LB cY b rr a oo od n k n k fG fW fR fH fA fS fRs fOt fMi fEn fEb fPy fB fCc (nI 2) fto fpay fcol fnow fthn foth fmnr fwts fmap fnxt fO fE).flatten := hD
      refine lv_iload hx hb dL_law__1111 (lv_at hl 1 rfl) ?_
      refine n_icmp_eq (tgt := 1118) hx hb dL_law__1113 (by decide) (by omega) (by omega) (fun h1113 => ?_) (fun h1113 => ?_)
      · -- t
        refine lv_iload hx hb dL_law__1118 (lv_at hl 1 rfl) ?_
        refine n_if_ne (tgt := 1134) hx hb dL_law__1120 (by decide) (by omega) (fun h1120 => ?_) (fun h1120 => ?_)
        · -- t
          refine lv_goto (tgt := 1823) hx hb dL_law__1134 (by decide) ?_
          exact K n k g col fG fW fR fH fA fS fRs fOt fMi fEn fEb fPy fB fCc (nI 2) fto fpay fcol fnow fthn foth fmnr fwts fmap fnxt fO fE hI _ _ hP hD hS _ (lv_sub hl [2, 3, 4, 5, 6, 7] rfl)
        · -- f
          exact absurd h1120 (by decide)
      · -- f
        exact absurd rfl h1113
  · -- not
    refine lv_aload_n hx hb dL_law__1058 rfl (lv_at hl 4 rfl) ?_
    refine lv_aload_n hx hb dL_law__1059 rfl (lv_at hl 5 rfl) ?_
    refine lv_iload hx hb dL_law__1060 (lv_at hl 0 rfl) ?_
    refine lv_iconst (v := nI 1) hx hb dL_law__1062 (by decide) ?_
    refine lv_iadd hx hb dL_law__1063 ?_
    refine eqi (x' := nI (z0 + 1)) (nI_add _ _) ?_
    refine s_ld hx hb hsc hscl hscA hS (by omega) hL dL_law__1064 ?_
    refine lv_aload_n hx hb dL_law__1065 rfl (lv_at hl 5 rfl) ?_
    refine lv_iload hx hb dL_law__1066 (lv_at hl 0 rfl) ?_
    refine lv_iconst (v := nI 2) hx hb dL_law__1068 (by decide) ?_
    refine lv_iadd hx hb dL_law__1069 ?_
    refine eqi (x' := nI (z0 + 2)) (nI_add _ _) ?_
    refine s_ld hx hb hsc hscl hscA hS (by omega) hL dL_law__1070 ?_
    refine lv_aload_n hx hb dL_law__1071 rfl (lv_at hl 5 rfl) ?_
    refine lv_iload hx hb dL_law__1072 (lv_at hl 0 rfl) ?_
    refine lv_iconst (v := nI 3) hx hb dL_law__1074 (by decide) ?_
    refine lv_iadd hx hb dL_law__1075 ?_
    refine eqi (x' := nI (z0 + 3)) (nI_add _ _) ?_
    refine s_ld hx hb hsc hscl hscA hS (by omega) hL dL_law__1076 ?_
    refine lv_aload_n hx hb dL_law__1077 rfl (lv_at hl 2 rfl) ?_
    refine hh_i (CL := [hO b, cO b (nI n) (nI k), [(oo, .inl (cY 1, 1, .inr (.inl fO)))]]) (vx_runSX (As := [.ref (b 0), .int (xs (z0 + 1)), .int (xs (z0 + 2)), .int (xs (z0 + 3)), .ref oo]) (rest := []) ⟨hx, hb, hml, hown, hts⟩ (c_L_hits_b1 l D cY H.size b n k (xs (z0 + 1)) (xs (z0 + 2)) (xs (z0 + 3)) oo fO hlT (by omega) (by omega) (by omega) (by omega) hc1) (vx_cwSW 5 hts gL_law__L_hits rfl rfl rfl (by decide +kernel) ⟨Nat.le_of_ble_eq_true rfl, Nat.le_of_ble_eq_true rfl⟩) (b_preHS hVK hP hD hS hA hX hH [0, 1, 41] rfl rfl) rfl rfl hl.1 rfl (lv_room (Nat.le_of_ble_eq_true rfl)) dL_law__1078 ⟨by omega, by omega⟩) hP hD hS hA [0, 1, 41] rfl rfl (fun _ => rfl) (fun r1078 uu H locs hq hP hD hS => ?_)
    subst hq
    have hP : va_P D vwCl (LB cY b rr a oo od n k n k fG fW fR fH fA fS fRs fOt fMi fEn fEb fPy fB fCc th fto fpay fcol fnow fthn foth fmnr fwts fmap fnxt fO fE).flatten H := hP
    have hD : va_D A (LB cY b rr a oo od n k n k fG fW fR fH fA fS fRs fOt fMi fEn fEb fPy fB fCc th fto fpay fcol fnow fthn foth fmnr fwts fmap fnxt fO fE).flatten := hD
    refine lv_istore (lv' := [(6, .int (nI 1)), (5, .int (nI z0)), (4, .ref od), (3, .ref oo), (2, .ref (a 0)), (1, .ref (b 0)), (0, .ref sc)]) hx hb dL_law__1081 hl (by decide) rfl (fun ls hl => ?_)
    refine lv_aload_n hx hb dL_law__1083 rfl (lv_at hl 4 rfl) ?_
    refine lv_aload_n hx hb dL_law__1084 rfl (lv_at hl 6 rfl) ?_
    refine lv_iload hx hb dL_law__1085 (lv_at hl 1 rfl) ?_
    refine lv_iconst (v := nI 1) hx hb dL_law__1087 (by decide) ?_
    refine lv_iadd hx hb dL_law__1088 ?_
    refine eqi (x' := nI (z0 + 1)) (nI_add _ _) ?_
    refine s_ld hx hb hsc hscl hscA hS (by omega) hL dL_law__1089 ?_
    refine lv_aload_n hx hb dL_law__1090 rfl (lv_at hl 6 rfl) ?_
    refine lv_iload hx hb dL_law__1091 (lv_at hl 1 rfl) ?_
    refine lv_iconst (v := nI 2) hx hb dL_law__1093 (by decide) ?_
    refine lv_iadd hx hb dL_law__1094 ?_
    refine eqi (x' := nI (z0 + 2)) (nI_add _ _) ?_
    refine s_ld hx hb hsc hscl hscA hS (by omega) hL dL_law__1095 ?_
    refine lv_aload_n hx hb dL_law__1096 rfl (lv_at hl 6 rfl) ?_
    refine lv_iload hx hb dL_law__1097 (lv_at hl 1 rfl) ?_
    refine lv_iconst (v := nI 3) hx hb dL_law__1099 (by decide) ?_
    refine lv_iadd hx hb dL_law__1100 ?_
    refine eqi (x' := nI (z0 + 3)) (nI_add _ _) ?_
    refine s_ld hx hb hsc hscl hscA hS (by omega) hL dL_law__1101 ?_
    refine ca_l (CL := [mO a (nI n) (nI k) th]) (va_runV (As := [.int (xs (z0 + 1)), .int (xs (z0 + 2)), .int (xs (z0 + 3))]) (rest := []) ⟨hx, hb, hml, hown, hts⟩ (c_X9_hits_b1 l D cY H.size a n k th (xs (z0 + 1)) (xs (z0 + 2)) (xs (z0 + 3)) (by omega) (by omega) (by omega) (by omega) hc1) (cwV 3 hts gL_law__X9_hits rfl rfl rfl (by decide +kernel) ⟨Nat.le_of_ble_eq_true rfl, Nat.le_of_ble_eq_true rfl⟩) (b_preV hVK hP hD [30] rfl rfl 30 rfl rfl) rfl rfl hl.1 rfl (lv_room (Nat.le_of_ble_eq_true rfl)) dL_law__1102 ⟨by omega, by omega⟩) hP hD hS hA [30] rfl rfl (fun _ => rfl) (fun r1102 uu H locs hq hP hD hS => ?_)
    subst hq
    have hP : va_P D vwCl (LB cY b rr a oo od n k n k fG fW fR fH fA fS fRs fOt fMi fEn fEb fPy fB fCc (nI 1) fto fpay fcol fnow fthn foth fmnr fwts fmap fnxt fO fE).flatten H := hP
    have hD : va_D A (LB cY b rr a oo od n k n k fG fW fR fH fA fS fRs fOt fMi fEn fEb fPy fB fCc (nI 1) fto fpay fcol fnow fthn foth fmnr fwts fmap fnxt fO fE).flatten := hD
    refine lv_lstore (lv' := [(7, .long (lN 0)), (6, .int (nI 1)), (5, .int (nI z0)), (4, .ref od), (3, .ref oo), (2, .ref (a 0)), (1, .ref (b 0)), (0, .ref sc)]) hx hb dL_law__1105 hl (by decide) rfl (fun ls hl => ?_)
    refine lv_aload_n hx hb dL_law__1107 rfl (lv_at hl 5 rfl) ?_
    refine ca_i (CL := [mO a (nI n) (nI k) (nI 1)]) (va_runV (As := []) (rest := []) ⟨hx, hb, hml, hown, hts⟩ (c_X9_thrown l D cY H.size a n k (nI 1)) (cwV 0 hts gL_law__X9_thrown rfl rfl rfl (by decide +kernel) ⟨Nat.le_of_ble_eq_true rfl, Nat.le_of_ble_eq_true rfl⟩) (b_preV hVK hP hD [30] rfl rfl 30 rfl rfl) rfl rfl hl.1 rfl (lv_room (Nat.le_of_ble_eq_true rfl)) dL_law__1108 ⟨by omega, by omega⟩) hP hD hS hA [30] rfl rfl (fun _ => rfl) (fun r1108 uu H locs hq hP hD hS => ?_)
    subst hq
    have hP : va_P D vwCl (LB cY b rr a oo od n k n k fG fW fR fH fA fS fRs fOt fMi fEn fEb fPy fB fCc (nI 1) fto fpay fcol fnow fthn foth fmnr fwts fmap fnxt fO fE).flatten H := hP
    have hD : va_D A (LB cY b rr a oo od n k n k fG fW fR fH fA fS fRs fOt fMi fEn fEb fPy fB fCc (nI 1) fto fpay fcol fnow fthn foth fmnr fwts fmap fnxt fO fE).flatten := hD
    refine lv_iload hx hb dL_law__1111 (lv_at hl 1 rfl) ?_
    refine n_icmp_eq (tgt := 1118) hx hb dL_law__1113 (by decide) (by omega) (by omega) (fun h1113 => ?_) (fun h1113 => ?_)
    · -- t
      refine lv_iload hx hb dL_law__1118 (lv_at hl 1 rfl) ?_
      refine n_if_ne (tgt := 1134) hx hb dL_law__1120 (by decide) (by omega) (fun h1120 => ?_) (fun h1120 => ?_)
      · -- t
        refine lv_goto (tgt := 1823) hx hb dL_law__1134 (by decide) ?_
        exact K n k g col fG fW fR fH fA fS fRs fOt fMi fEn fEb fPy fB fCc (nI 1) fto fpay fcol fnow fthn foth fmnr fwts fmap fnxt fO fE hI _ _ hP hD hS _ (lv_sub hl [2, 3, 4, 5, 6, 7] rfl)
      · -- f
        exact absurd h1120 (by decide)
    · -- f
      exact absurd rfl h1113

