set_option maxHeartbeats 4000000 in
set_option maxRecDepth 100000 in
theorem c_X8_gtw0 (l : Launch) (D : va_G) (cY : Nat → ClassId) (sz : Nat) (b : Nat → Nat) (rr : Nat → Nat → Nat) (n : Nat) (k : Nat) (fG : Nat → Nat → Int32) (g : Nat → Nat → Nat) (w : Nat) (i : Nat) (hn1 : 1 ≤ n) (hn6 : n ≤ 6) (hk1 : 1 ≤ k) (hk12 : k ≤ 12) (hG : ∀ i j, i < n → j < k → fG i j = nI (g i j)) (hgn : ∀ i j, i < n → j < k → g i j < n) (hw : w < n) (hi : i < n) : Met l yX8_goThroughWords wsX8_goThroughWords ({ frames := 0, cells := 0, slots := 0, locals := 40 * (0) }) (cP D cY [.ref (b 1), .int (nI i), .int (nI 0), .int (nI w)] [cO b (nI n) (nI k), oQ (cY 2) (b 2) (rr 0) 6, gI (cY 0) (rr 0) 12 fG 6] sz) (qL (S := Unit) D cY (fun r uu => r = lN (RW g k w 0 i)) (fun uu => [cO b (nI n) (nI k), oQ (cY 2) (b 2) (rr 0) 6, gI (cY 0) (rr 0) 12 fG 6]) (va_A ([cO b (nI n) (nI k), oQ (cY 2) (b 2) (rr 0) 6, gI (cY 0) (rr 0) 12 fG 6] : List va_W).flatten sz)) 0 0 (va_A ([cO b (nI n) (nI k), oQ (cY 2) (b 2) (rr 0) 6, gI (cY 0) (rr 0) 12 fG 6] : List va_W).flatten sz) := by
  refine mtB (Qc := fun A => qL (S := Unit) D cY (fun r uu => r = lN (RW g k w 0 i)) (fun uu => [cO b (nI n) (nI k), oQ (cY 2) (b 2) (rr 0) 6, gI (cY 0) (rr 0) 12 fG 6]) A) (cc := cX8_goThroughWords) (maxL := 7) (ret := (some .long)) (by decide) rfl (Nat.le_of_ble_eq_true rfl) ?_
  intro p e s m below meth c A ls hx hb hr hml hts hown hlocks hnm hsz hP hK hVK hD hS hA hl
  have hown : s.vm.findClass RX8 = some m.cls := hown
  have hl : lv_has ls 7 [(0, .ref (b 1)), (1, .int (nI i)), (2, .int (nI 0)), (3, .int (nI w))] := hl
  have hP : va_P D vwCl ([cO b (nI n) (nI k), oQ (cY 2) (b 2) (rr 0) 6, gI (cY 0) (rr 0) 12 fG 6] : List va_W).flatten s.heap := hP
  have hD : va_D A ([cO b (nI n) (nI k), oQ (cY 2) (b 2) (rr 0) 6, gI (cY 0) (rr 0) 12 fG 6] : List va_W).flatten := hD
  refine lv_iload_n hx hb dX8_goThroughWords_0 rfl (lv_at hl 2 rfl) ?_
  refine n_if_gt (tgt := 15) hx hb dX8_goThroughWords_1 (by decide) (by omega) (fun h1 => ?_) (fun h1 => ?_)
  · -- t
    exact absurd h1 (by omega)
  · -- f
    refine lv_iload_n hx hb dX8_goThroughWords_4 rfl (lv_at hl 1 rfl) ?_
    refine lv_iload_n hx hb dX8_goThroughWords_5 rfl (lv_at hl 3 rfl) ?_
    refine n_icmp_ne (tgt := 13) hx hb dX8_goThroughWords_6 (by decide) (by omega) (by omega) (fun h6 => ?_) (fun h6 => ?_)
    · -- t
      refine lv_lconst (v := lN 0) hx hb dX8_goThroughWords_13 (by decide) ?_
      exact r_l hx hb hr hlocks hP hD hS () rfl (by first | exact congrArg lN (if_pos h6).symm | exact congrArg lN (if_neg h6).symm) dX8_goThroughWords_14
    · -- f
      refine lv_lconst (v := lN 1) hx hb dX8_goThroughWords_9 (by decide) ?_
      refine lv_goto (tgt := 14) hx hb dX8_goThroughWords_10 (by decide) ?_
      exact r_l hx hb hr hlocks hP hD hS () rfl (by first | exact congrArg lN (if_pos h6).symm | exact congrArg lN (if_neg h6).symm) dX8_goThroughWords_14

set_option maxHeartbeats 4000000 in
set_option maxRecDepth 100000 in
theorem c_X8_gtwS (l : Launch) (D : va_G) (cY : Nat → ClassId) (sz : Nat) (b : Nat → Nat) (rr : Nat → Nat → Nat) (n : Nat) (k : Nat) (fG : Nat → Nat → Int32) (g : Nat → Nat → Nat) (w : Nat) (t : Nat) (i : Nat) (hn1 : 1 ≤ n) (hn6 : n ≤ 6) (hk1 : 1 ≤ k) (hk12 : k ≤ 12) (hG : ∀ i j, i < n → j < k → fG i j = nI (g i j)) (hgn : ∀ i j, i < n → j < k → g i j < n) (hw : w < n) (ht4 : t < 4) (ih : ∀ sz i : Nat, i < n → Met l yX8_goThroughWords wsX8_goThroughWords ({ frames := t, cells := 0, slots := 0, locals := 40 * (t) }) (cP D cY [.ref (b 1), .int (nI i), .int (nI t), .int (nI w)] [cO b (nI n) (nI k), oQ (cY 2) (b 2) (rr 0) 6, gI (cY 0) (rr 0) 12 fG 6] sz) (qL (S := Unit) D cY (fun r uu => r = lN (RW g k w t i)) (fun uu => [cO b (nI n) (nI k), oQ (cY 2) (b 2) (rr 0) 6, gI (cY 0) (rr 0) 12 fG 6]) (va_A ([cO b (nI n) (nI k), oQ (cY 2) (b 2) (rr 0) 6, gI (cY 0) (rr 0) 12 fG 6] : List va_W).flatten sz)) 0 0 (va_A ([cO b (nI n) (nI k), oQ (cY 2) (b 2) (rr 0) 6, gI (cY 0) (rr 0) 12 fG 6] : List va_W).flatten sz)) (hi : i < n) : Met l yX8_goThroughWords wsX8_goThroughWords ({ frames := t + 1, cells := 0, slots := 0, locals := 40 * (t + 1) }) (cP D cY [.ref (b 1), .int (nI i), .int (nI (t + 1)), .int (nI w)] [cO b (nI n) (nI k), oQ (cY 2) (b 2) (rr 0) 6, gI (cY 0) (rr 0) 12 fG 6] sz) (qL (S := Unit) D cY (fun r uu => r = lN (RW g k w (t + 1) i)) (fun uu => [cO b (nI n) (nI k), oQ (cY 2) (b 2) (rr 0) 6, gI (cY 0) (rr 0) 12 fG 6]) (va_A ([cO b (nI n) (nI k), oQ (cY 2) (b 2) (rr 0) 6, gI (cY 0) (rr 0) 12 fG 6] : List va_W).flatten sz)) 0 0 (va_A ([cO b (nI n) (nI k), oQ (cY 2) (b 2) (rr 0) 6, gI (cY 0) (rr 0) 12 fG 6] : List va_W).flatten sz) := by
  refine mtB (Qc := fun A => qL (S := Unit) D cY (fun r uu => r = lN (RW g k w (t + 1) i)) (fun uu => [cO b (nI n) (nI k), oQ (cY 2) (b 2) (rr 0) 6, gI (cY 0) (rr 0) 12 fG 6]) A) (cc := cX8_goThroughWords) (maxL := 7) (ret := (some .long)) (by decide) rfl (Nat.le_of_ble_eq_true rfl) ?_
  intro p e s m below meth c A ls hx hb hr hml hts hown hlocks hnm hsz hP hK hVK hD hS hA hl
  have hown : s.vm.findClass RX8 = some m.cls := hown
  have hl : lv_has ls 7 [(0, .ref (b 1)), (1, .int (nI i)), (2, .int (nI (t + 1))), (3, .int (nI w))] := hl
  have hP : va_P D vwCl ([cO b (nI n) (nI k), oQ (cY 2) (b 2) (rr 0) 6, gI (cY 0) (rr 0) 12 fG 6] : List va_W).flatten s.heap := hP
  have hD : va_D A ([cO b (nI n) (nI k), oQ (cY 2) (b 2) (rr 0) 6, gI (cY 0) (rr 0) 12 fG 6] : List va_W).flatten := hD
  refine lv_iload_n hx hb dX8_goThroughWords_0 rfl (lv_at hl 2 rfl) ?_
  refine n_if_gt (tgt := 15) hx hb dX8_goThroughWords_1 (by decide) (by omega) (fun h1 => ?_) (fun h1 => ?_)
  · -- t
    refine lv_lconst (v := lN 0) hx hb dX8_goThroughWords_15 (by decide) ?_
    refine lv_lstore (lv' := [(4, .long (lN 0)), (0, .ref (b 1)), (1, .int (nI i)), (2, .int (nI (t + 1))), (3, .int (nI w))]) hx hb dX8_goThroughWords_16 hl (by decide) rfl (fun ls hl => ?_)
    refine lv_iconst (v := nI 0) hx hb dX8_goThroughWords_18 (by decide) ?_
    refine lv_istore (lv' := [(6, .int (nI 0)), (4, .long (lN 0)), (0, .ref (b 1)), (1, .int (nI i)), (2, .int (nI (t + 1))), (3, .int (nI w))]) hx hb dX8_goThroughWords_19 hl (by decide) rfl (fun ls hl => ?_)
    have L21 : ∀ q : Nat, q ≤ k →  ∀ (H : Heap) (locs : List Loc), va_P D vwCl ([cO b (nI n) (nI k), oQ (cY 2) (b 2) (rr 0) 6, gI (cY 0) (rr 0) 12 fG 6] : List va_W).flatten H → va_D A ([cO b (nI n) (nI k), oQ (cY 2) (b 2) (rr 0) 6, gI (cY 0) (rr 0) 12 fG 6] : List va_W).flatten → va_S A s.heap H locs → ∀ (ls : Array Slot), lv_has ls 7 [(0, .ref (b 1)), (1, .int (nI i)), (2, .int (nI (t + 1))), (3, .int (nI w)), (4, .long (lN (sm (fun s => RW g k w t (g i s)) q))), (6, .int (nI q))] → W p l e ({ frames := t + 1, cells := 0, slots := 0, locals := 40 * (t + 1) }) s m ([.ref (b 1), .int (nI i), .int (nI (t + 1)), .int (nI w)] : List Value).toArray below meth c H locs 0 0 (MQ below (qL (S := Unit) D cY (fun r uu => r = lN (RW g k w (t + 1) i)) (fun uu => [cO b (nI n) (nI k), oQ (cY 2) (b 2) (rr 0) 6, gI (cY 0) (rr 0) 12 fG 6]) A) ([.ref (b 1), .int (nI i), .int (nI (t + 1)), .int (nI w)] : List Value).toArray s 0 0 A) (F0 m 21 ls []) := by
      refine lpW k ?_
      intro q bdq ih21   H locs hP hD hS ls hl
      refine lv_iload hx hb dX8_goThroughWords_21 (lv_at hl 5 rfl) ?_
      refine lv_aload_n hx hb dX8_goThroughWords_23 rfl (lv_at hl 0 rfl) ?_
      refine b_get (ci := 0) (v := .int (nI k)) (C := RX0) (T := TX0) (N := 4) hx hb hts (by decide +kernel) hown hK hP 0 rfl rfl 1 (by decide) (hts (.fieldLink RX8 203 "ChanceHall$Chain" "slots" "I") (by decide +kernel)) (fun _ h9 => h9) rfl dX8_goThroughWords_24 ?_
      refine n_icmp_ge (tgt := 58) hx hb dX8_goThroughWords_27 (by decide) (by omega) (by omega) (fun h27 => ?_) (fun h27 => ?_)
      · -- t
        refine lv_lload hx hb dX8_goThroughWords_58 (lv_at hl 4 rfl) ?_
        exact r_l hx hb hr hlocks hP hD hS () rfl (by (have e : q = k := by omega); subst e; rfl) dX8_goThroughWords_60
      · -- f
        refine lv_lload hx hb dX8_goThroughWords_30 (lv_at hl 4 rfl) ?_
        refine lv_aload_n hx hb dX8_goThroughWords_32 rfl (lv_at hl 0 rfl) ?_
        refine lv_aload_n hx hb dX8_goThroughWords_33 rfl (lv_at hl 0 rfl) ?_
        refine b_get (ci := 0) (v := .ref (b 2)) (C := RX0) (T := TX0) (N := 4) hx hb hts (by decide +kernel) hown hK hP 0 rfl rfl 2 (by decide) (hts (.fieldLink RX8 213 "ChanceHall$Chain" "goesTo" "[[I") (by decide +kernel)) (fun _ h9 => h9) rfl dX8_goThroughWords_34 ?_
        refine lv_iload_n hx hb dX8_goThroughWords_37 rfl (lv_at hl 1 rfl) ?_
        refine g_aald hx hb hK hP 1 2 rfl rfl (by omega) (by decide) dX8_goThroughWords_38 ?_
        refine lv_iload hx hb dX8_goThroughWords_39 (lv_at hl 5 rfl) ?_
        refine g_iald hx hb hK hP 2 0 rfl rfl (by omega) (by omega) (by decide) dX8_goThroughWords_41 ?_
        refine eqi (x' := nI (g i q)) (hG i q hi (by omega)) ?_
        have hgi := hgn i q hi (by omega)
        refine lv_iload_n hx hb dX8_goThroughWords_42 rfl (lv_at hl 2 rfl) ?_
        refine lv_iconst (v := nI 1) hx hb dX8_goThroughWords_43 (by decide) ?_
        refine lv_isub hx hb dX8_goThroughWords_44 ?_
        refine eqi (x' := nI ((t + 1) - 1)) (pk_sub (by omega)) ?_
        refine eqi (x' := nI t) (rfl) ?_
        refine lv_iload_n hx hb dX8_goThroughWords_45 rfl (lv_at hl 3 rfl) ?_
        refine ca_l (CL := [cO b (nI n) (nI k), oQ (cY 2) (b 2) (rr 0) 6, gI (cY 0) (rr 0) 12 fG 6]) (va_runS (As := [.ref (b 1), .int (nI (g i q)), .int (nI t), .int (nI w)]) (rest := [.long (lN (sm (fun s => RW g k w t (g i s)) q))]) ⟨hx, hb, hml, hown, hts⟩ (ih H.size (g i q) hgi) (va_cwS 4 hts gX8_goThroughWords_X8_goThroughWords rfl rfl rfl (by decide +kernel) ⟨by show t + 1 ≤ t + 1; omega, by show 8 + (7 + 11) + 40 * t ≤ 40 * (t + 1); omega⟩) (b_preS hVK hP hD [0, 1, 2] rfl rfl) rfl rfl hl.1 rfl (lv_room (Nat.le_of_ble_eq_true rfl)) dX8_goThroughWords_46 ⟨Nat.le_refl _, Nat.le_refl _⟩) hP hD hS hA [0, 1, 2] rfl rfl (fun _ => rfl) (fun r46 uu H locs hq hP hD hS => ?_)
        subst hq
        have hP : va_P D vwCl ([cO b (nI n) (nI k), oQ (cY 2) (b 2) (rr 0) 6, gI (cY 0) (rr 0) 12 fG 6] : List va_W).flatten H := hP
        have hD : va_D A ([cO b (nI n) (nI k), oQ (cY 2) (b 2) (rr 0) 6, gI (cY 0) (rr 0) 12 fG 6] : List va_W).flatten := hD
        refine lv_ladd hx hb dX8_goThroughWords_49 ?_
        refine eql (x' := lN (sm (fun s => RW g k w t (g i s)) q + RW g k w t (g i q))) (lN_add _ _) ?_
        refine lv_lstore (lv' := [(4, .long (lN (sm (fun s => RW g k w t (g i s)) q + RW g k w t (g i q)))), (0, .ref (b 1)), (1, .int (nI i)), (2, .int (nI (t + 1))), (3, .int (nI w)), (6, .int (nI q))]) hx hb dX8_goThroughWords_50 hl (by decide) rfl (fun ls hl => ?_)
        refine lv_iinc (v := nI (q + 1)) (lv' := [(6, .int (nI (q + 1))), (4, .long (lN (sm (fun s => RW g k w t (g i s)) q + RW g k w t (g i q)))), (0, .ref (b 1)), (1, .int (nI i)), (2, .int (nI (t + 1))), (3, .int (nI w))]) hx hb dX8_goThroughWords_52 hl (k := 5) rfl (nI_1 q) (by decide) rfl (fun ls hl => ?_)
        refine lv_goto (tgt := 21) hx hb dX8_goThroughWords_55 (by decide) ?_
        exact ih21 (by omega)   _ _ hP hD hS _ (lv_sub hl [2, 3, 4, 5, 1, 0] rfl)
    exact L21 0 (by omega)   _ _ hP hD hS _ (lv_sub hl [2, 3, 4, 5, 1, 0] rfl)
  · -- f
    exact absurd h1 (by omega)

set_option maxHeartbeats 4000000 in
theorem c_X8_goThroughWords (l : Launch) (D : va_G) (cY : Nat → ClassId) (sz : Nat) (b : Nat → Nat) (rr : Nat → Nat → Nat) (n : Nat) (k : Nat) (fG : Nat → Nat → Int32) (g : Nat → Nat → Nat) (w : Nat) (i : Nat) (t : Nat) (hn1 : 1 ≤ n) (hn6 : n ≤ 6) (hk1 : 1 ≤ k) (hk12 : k ≤ 12) (hG : ∀ i j, i < n → j < k → fG i j = nI (g i j)) (hgn : ∀ i j, i < n → j < k → g i j < n) (hw : w < n) (hi : i < n) (ht5 : t < 5) : Met l yX8_goThroughWords wsX8_goThroughWords ({ frames := t, cells := 0, slots := 0, locals := 40 * (t) }) (cP D cY [.ref (b 1), .int (nI i), .int (nI t), .int (nI w)] [cO b (nI n) (nI k), oQ (cY 2) (b 2) (rr 0) 6, gI (cY 0) (rr 0) 12 fG 6] sz) (qL (S := Unit) D cY (fun r uu => r = lN (RW g k w t i)) (fun uu => [cO b (nI n) (nI k), oQ (cY 2) (b 2) (rr 0) 6, gI (cY 0) (rr 0) 12 fG 6]) (va_A ([cO b (nI n) (nI k), oQ (cY 2) (b 2) (rr 0) 6, gI (cY 0) (rr 0) 12 fG 6] : List va_W).flatten sz)) 0 0 (va_A ([cO b (nI n) (nI k), oQ (cY 2) (b 2) (rr 0) 6, gI (cY 0) (rr 0) 12 fG 6] : List va_W).flatten sz) := by
  revert sz i hi
  induction t with
  | zero => exact fun sz i hi => c_X8_gtw0 l D cY sz b rr n k fG g w i hn1 hn6 hk1 hk12 hG hgn hw hi
  | succ t ih => exact fun sz i hi => c_X8_gtwS l D cY sz b rr n k fG g w t i hn1 hn6 hk1 hk12 hG hgn hw (by omega) (fun sz i hi => ih (by omega) sz i hi) hi

set_option maxHeartbeats 4000000 in
set_option maxRecDepth 100000 in
theorem c_X8_needState_ok (l : Launch) (D : va_G) (cY : Nat → ClassId) (sz : Nat) (b : Nat → Nat) (n : Nat) (k : Nat) (i : Nat) (hn1 : 1 ≤ n) (hn6 : n ≤ 6) (hk1 : 1 ≤ k) (hk12 : k ≤ 12) (hi : i < n) : Met l yX8_needState wsX8_needState ({ frames := 1, cells := 0, slots := 0, locals := 40 }) (cP D cY [.ref (b 0), .int (nI i)] [hO b, cO b (nI n) (nI k)] sz) (qV (S := Unit) D cY (fun uu => True) (fun uu => [hO b, cO b (nI n) (nI k)]) (va_A ([hO b, cO b (nI n) (nI k)] : List va_W).flatten sz)) 0 0 (va_A ([hO b, cO b (nI n) (nI k)] : List va_W).flatten sz) := by
  refine mtB (Qc := fun A => qV (S := Unit) D cY (fun uu => True) (fun uu => [hO b, cO b (nI n) (nI k)]) A) (cc := cX8_needState) (maxL := 2) (ret := none) (by decide) rfl (Nat.le_of_ble_eq_true rfl) ?_
  intro p e s m below meth c A ls hx hb hr hml hts hown hlocks hnm hsz hP hK hVK hD hS hA hl
  have hown : s.vm.findClass RX8 = some m.cls := hown
  have hl : lv_has ls 2 [(0, .ref (b 0)), (1, .int (nI i))] := hl
  have hP : va_P D vwCl ([hO b, cO b (nI n) (nI k)] : List va_W).flatten s.heap := hP
  have hD : va_D A ([hO b, cO b (nI n) (nI k)] : List va_W).flatten := hD
  refine lv_iload_n hx hb dX8_needState_0 rfl (lv_at hl 1 rfl) ?_
  refine n_if_lt (tgt := 15) hx hb dX8_needState_1 (by decide) (by omega) (fun h1 => ?_) (fun h1 => ?_)
  · -- t
    exact h1.elim
  · -- f
    refine lv_iload_n hx hb dX8_needState_4 rfl (lv_at hl 1 rfl) ?_
    refine lv_aload_n hx hb dX8_needState_5 rfl (lv_at hl 0 rfl) ?_
    refine b_get (ci := 8) (v := .ref (b 1)) (C := RX8) (T := TX8) (N := 8) hx hb hts (by decide +kernel) hown hK hP 0 rfl rfl 0 (by decide) (hts (.fieldLink RX8 10 "ChanceHall" "chain" "LChanceHall$Chain;") (by decide +kernel)) (fun _ h9 => h9) rfl dX8_needState_6 ?_
    refine b_get (ci := 0) (v := .int (nI n)) (C := RX0) (T := TX0) (N := 4) hx hb hts (by decide +kernel) hown hK hP 1 rfl rfl 0 (by decide) (hts (.fieldLink RX8 171 "ChanceHall$Chain" "states" "I") (by decide +kernel)) (fun _ h9 => h9) rfl dX8_needState_9 ?_
    refine n_icmp_lt (tgt := 25) hx hb dX8_needState_12 (by decide) (by omega) (by omega) (fun h12 => ?_) (fun h12 => ?_)
    · -- t
      exact r_v hx hb hr hlocks hP hD hS () rfl (trivial) dX8_needState_25
    · -- f
      exact absurd h12 (by omega)

set_option maxHeartbeats 4000000 in
set_option maxRecDepth 100000 in
theorem c_X8_needSlot_ok (l : Launch) (D : va_G) (cY : Nat → ClassId) (sz : Nat) (b : Nat → Nat) (n : Nat) (k : Nat) (j : Nat) (hn1 : 1 ≤ n) (hn6 : n ≤ 6) (hk1 : 1 ≤ k) (hk12 : k ≤ 12) (hj : j < k) : Met l yX8_needSlot wsX8_needSlot ({ frames := 1, cells := 0, slots := 0, locals := 40 }) (cP D cY [.ref (b 0), .int (nI j)] [hO b, cO b (nI n) (nI k)] sz) (qV (S := Unit) D cY (fun uu => True) (fun uu => [hO b, cO b (nI n) (nI k)]) (va_A ([hO b, cO b (nI n) (nI k)] : List va_W).flatten sz)) 0 0 (va_A ([hO b, cO b (nI n) (nI k)] : List va_W).flatten sz) := by
  refine mtB (Qc := fun A => qV (S := Unit) D cY (fun uu => True) (fun uu => [hO b, cO b (nI n) (nI k)]) A) (cc := cX8_needSlot) (maxL := 2) (ret := none) (by decide) rfl (Nat.le_of_ble_eq_true rfl) ?_
  intro p e s m below meth c A ls hx hb hr hml hts hown hlocks hnm hsz hP hK hVK hD hS hA hl
  have hown : s.vm.findClass RX8 = some m.cls := hown
  have hl : lv_has ls 2 [(0, .ref (b 0)), (1, .int (nI j))] := hl
  have hP : va_P D vwCl ([hO b, cO b (nI n) (nI k)] : List va_W).flatten s.heap := hP
  have hD : va_D A ([hO b, cO b (nI n) (nI k)] : List va_W).flatten := hD
  refine lv_iload_n hx hb dX8_needSlot_0 rfl (lv_at hl 1 rfl) ?_
  refine n_if_lt (tgt := 15) hx hb dX8_needSlot_1 (by decide) (by omega) (fun h1 => ?_) (fun h1 => ?_)
  · -- t
    exact h1.elim
  · -- f
    refine lv_iload_n hx hb dX8_needSlot_4 rfl (lv_at hl 1 rfl) ?_
    refine lv_aload_n hx hb dX8_needSlot_5 rfl (lv_at hl 0 rfl) ?_
    refine b_get (ci := 8) (v := .ref (b 1)) (C := RX8) (T := TX8) (N := 8) hx hb hts (by decide +kernel) hown hK hP 0 rfl rfl 0 (by decide) (hts (.fieldLink RX8 10 "ChanceHall" "chain" "LChanceHall$Chain;") (by decide +kernel)) (fun _ h9 => h9) rfl dX8_needSlot_6 ?_
    refine b_get (ci := 0) (v := .int (nI k)) (C := RX0) (T := TX0) (N := 4) hx hb hts (by decide +kernel) hown hK hP 1 rfl rfl 1 (by decide) (hts (.fieldLink RX8 203 "ChanceHall$Chain" "slots" "I") (by decide +kernel)) (fun _ h9 => h9) rfl dX8_needSlot_9 ?_
    refine n_icmp_lt (tgt := 25) hx hb dX8_needSlot_12 (by decide) (by omega) (by omega) (fun h12 => ?_) (fun h12 => ?_)
    · -- t
      exact r_v hx hb hr hlocks hP hD hS () rfl (trivial) dX8_needSlot_25
    · -- f
      exact absurd h12 (by omega)

set_option maxHeartbeats 4000000 in
set_option maxRecDepth 100000 in
theorem c_X8_needRange_ok (l : Launch) (D : va_G) (cY : Nat → ClassId) (sz : Nat) (x : Int32) (lo : Int32) (hi : Int32) (hrg : inR x lo hi = true) : Met l yX8_needRange wsX8_needRange ({ frames := 1, cells := 0, slots := 0, locals := 40 }) (cP D cY [.int x, .int lo, .int hi] [] sz) (qV (S := Unit) D cY (fun uu => True) (fun uu => []) (va_A ([] : List va_W).flatten sz)) 0 0 (va_A ([] : List va_W).flatten sz) := by
  refine mtB (Qc := fun A => qV (S := Unit) D cY (fun uu => True) (fun uu => []) A) (cc := cX8_needRange) (maxL := 3) (ret := none) (by decide) rfl (Nat.le_of_ble_eq_true rfl) ?_
  intro p e s m below meth c A ls hx hb hr hml hts hown hlocks hnm hsz hP hK hVK hD hS hA hl
  have hown : s.vm.findClass RX8 = some m.cls := hown
  have hl : lv_has ls 3 [(0, .int x), (1, .int lo), (2, .int hi)] := hl
  have hP : va_P D vwCl ([] : List va_W).flatten s.heap := hP
  have hD : va_D A ([] : List va_W).flatten := hD
  refine lv_iload_n hx hb dX8_needRange_0 rfl (lv_at hl 0 rfl) ?_
  refine lv_iload_n hx hb dX8_needRange_1 rfl (lv_at hl 1 rfl) ?_
  refine lv_icmp_lt (tgt := 10) hx hb dX8_needRange_2 (by decide) (fun h2 => ?_) (fun h2 => ?_)
  · -- t
    exact absurd h2 (inR_1 hrg)
  · -- f
    refine lv_iload_n hx hb dX8_needRange_5 rfl (lv_at hl 0 rfl) ?_
    refine lv_iload_n hx hb dX8_needRange_6 rfl (lv_at hl 2 rfl) ?_
    refine lv_icmp_le (tgt := 20) hx hb dX8_needRange_7 (by decide) (fun h7 => ?_) (fun h7 => ?_)
    · -- t
      exact r_v hx hb hr hlocks hP hD hS () rfl (trivial) dX8_needRange_20
    · -- f
      exact absurd (Int32.not_le.mp h7) (inR_2 hrg)

set_option maxHeartbeats 4000000 in
set_option maxRecDepth 100000 in
theorem c_X8_lead_ok (l : Launch) (D : va_G) (cY : Nat → ClassId) (sz : Nat) (b : Nat → Nat) (rr : Nat → Nat → Nat) (n : Nat) (k : Nat) (fG : Nat → Nat → Int32) (fW : Nat → Nat → Int32) (g : Nat → Nat → Nat) (i : Nat) (j : Nat) (w : Nat) (hn1 : 1 ≤ n) (hn6 : n ≤ 6) (hk1 : 1 ≤ k) (hk12 : k ≤ 12) (hG : ∀ i j, i < n → j < k → fG i j = nI (g i j)) (hgn : ∀ i j, i < n → j < k → g i j < n) (hW : ∀ i j, i < n → j < n → fW i j = nI (cnt (g i) j k)) (hi : i < n) (hj : j < k) (hw : w < n) : Met l yX8_lead wsX8_lead ({ frames := 2, cells := 0, slots := 0, locals := 80 }) (cP D cY [.ref (b 0), .int (nI i), .int (nI j), .int (nI w)] [hO b, cO b (nI n) (nI k), oQ (cY 2) (b 2) (rr 0) 6, gI (cY 0) (rr 0) 12 fG 6, oQ (cY 2) (b 3) (rr 1) 6, gI (cY 0) (rr 1) 6 fW 6] sz) (qI (S := Unit) D cY (fun r uu => r = nI (g i j)) (fun uu => [hO b, cO b (nI n) (nI k), oQ (cY 2) (b 2) (rr 0) 6, gI (cY 0) (rr 0) 12 (va_up fG i (upd (fG i) j (nI w))) 6, oQ (cY 2) (b 3) (rr 1) 6, gI (cY 0) (rr 1) 6 (va_up (va_up fW i (upd (fW i) (g i j) (fW i (g i j) - nI 1))) i (upd ((va_up fW i (upd (fW i) (g i j) (fW i (g i j) - nI 1))) i) w (((va_up fW i (upd (fW i) (g i j) (fW i (g i j) - nI 1))) i w) + nI 1))) 6]) (va_A ([hO b, cO b (nI n) (nI k), oQ (cY 2) (b 2) (rr 0) 6, gI (cY 0) (rr 0) 12 fG 6, oQ (cY 2) (b 3) (rr 1) 6, gI (cY 0) (rr 1) 6 fW 6] : List va_W).flatten sz)) 0 0 (va_A ([hO b, cO b (nI n) (nI k), oQ (cY 2) (b 2) (rr 0) 6, gI (cY 0) (rr 0) 12 fG 6, oQ (cY 2) (b 3) (rr 1) 6, gI (cY 0) (rr 1) 6 fW 6] : List va_W).flatten sz) := by
  refine mtB (Qc := fun A => qI (S := Unit) D cY (fun r uu => r = nI (g i j)) (fun uu => [hO b, cO b (nI n) (nI k), oQ (cY 2) (b 2) (rr 0) 6, gI (cY 0) (rr 0) 12 (va_up fG i (upd (fG i) j (nI w))) 6, oQ (cY 2) (b 3) (rr 1) 6, gI (cY 0) (rr 1) 6 (va_up (va_up fW i (upd (fW i) (g i j) (fW i (g i j) - nI 1))) i (upd ((va_up fW i (upd (fW i) (g i j) (fW i (g i j) - nI 1))) i) w (((va_up fW i (upd (fW i) (g i j) (fW i (g i j) - nI 1))) i w) + nI 1))) 6]) A) (cc := cX8_lead) (maxL := 4) (ret := (some .int)) (by decide) rfl (Nat.le_of_ble_eq_true rfl) ?_
  intro p e s m below meth c A ls hx hb hr hml hts hown hlocks hnm hsz hP hK hVK hD hS hA hl
  have hown : s.vm.findClass RX8 = some m.cls := hown
  have hl : lv_has ls 4 [(0, .ref (b 0)), (1, .int (nI i)), (2, .int (nI j)), (3, .int (nI w))] := hl
  have hP : va_P D vwCl ([hO b, cO b (nI n) (nI k), oQ (cY 2) (b 2) (rr 0) 6, gI (cY 0) (rr 0) 12 fG 6, oQ (cY 2) (b 3) (rr 1) 6, gI (cY 0) (rr 1) 6 fW 6] : List va_W).flatten s.heap := hP
  have hD : va_D A ([hO b, cO b (nI n) (nI k), oQ (cY 2) (b 2) (rr 0) 6, gI (cY 0) (rr 0) 12 fG 6, oQ (cY 2) (b 3) (rr 1) 6, gI (cY 0) (rr 1) 6 fW 6] : List va_W).flatten := hD
  refine lv_aload_n hx hb dX8_lead_0 rfl (lv_at hl 0 rfl) ?_
  refine lv_iload_n hx hb dX8_lead_1 rfl (lv_at hl 1 rfl) ?_
  refine ca_v (CL := [hO b, cO b (nI n) (nI k)]) (va_runV (As := [.int (nI i)]) (rest := []) ⟨hx, hb, hml, hown, hts⟩ (c_X8_needState_ok l D cY s.heap.size b n k i (by omega) (by omega) (by omega) (by omega) (by omega)) (cwV 1 hts gX8_lead_X8_needState rfl rfl rfl (by decide +kernel) ⟨Nat.le_of_ble_eq_true rfl, Nat.le_of_ble_eq_true rfl⟩) (b_preV hVK hP hD [0, 1] rfl rfl 0 rfl rfl) rfl rfl hl.1 rfl (lv_room (Nat.le_of_ble_eq_true rfl)) dX8_lead_2 ⟨Nat.le_refl _, Nat.le_refl _⟩) hP hD hS hA [0, 1] rfl rfl (fun _ => rfl) (fun uu H locs hq hP hD hS => ?_)
  have hP : va_P D vwCl ([hO b, cO b (nI n) (nI k), oQ (cY 2) (b 2) (rr 0) 6, gI (cY 0) (rr 0) 12 fG 6, oQ (cY 2) (b 3) (rr 1) 6, gI (cY 0) (rr 1) 6 fW 6] : List va_W).flatten H := hP
  have hD : va_D A ([hO b, cO b (nI n) (nI k), oQ (cY 2) (b 2) (rr 0) 6, gI (cY 0) (rr 0) 12 fG 6, oQ (cY 2) (b 3) (rr 1) 6, gI (cY 0) (rr 1) 6 fW 6] : List va_W).flatten := hD
  refine lv_aload_n hx hb dX8_lead_5 rfl (lv_at hl 0 rfl) ?_
  refine lv_iload_n hx hb dX8_lead_6 rfl (lv_at hl 2 rfl) ?_
  refine ca_v (CL := [hO b, cO b (nI n) (nI k)]) (va_runV (As := [.int (nI j)]) (rest := []) ⟨hx, hb, hml, hown, hts⟩ (c_X8_needSlot_ok l D cY H.size b n k j (by omega) (by omega) (by omega) (by omega) (by omega)) (cwV 1 hts gX8_lead_X8_needSlot rfl rfl rfl (by decide +kernel) ⟨Nat.le_of_ble_eq_true rfl, Nat.le_of_ble_eq_true rfl⟩) (b_preV hVK hP hD [0, 1] rfl rfl 0 rfl rfl) rfl rfl hl.1 rfl (lv_room (Nat.le_of_ble_eq_true rfl)) dX8_lead_7 ⟨Nat.le_refl _, Nat.le_refl _⟩) hP hD hS hA [0, 1] rfl rfl (fun _ => rfl) (fun uu H locs hq hP hD hS => ?_)
  have hP : va_P D vwCl ([hO b, cO b (nI n) (nI k), oQ (cY 2) (b 2) (rr 0) 6, gI (cY 0) (rr 0) 12 fG 6, oQ (cY 2) (b 3) (rr 1) 6, gI (cY 0) (rr 1) 6 fW 6] : List va_W).flatten H := hP
  have hD : va_D A ([hO b, cO b (nI n) (nI k), oQ (cY 2) (b 2) (rr 0) 6, gI (cY 0) (rr 0) 12 fG 6, oQ (cY 2) (b 3) (rr 1) 6, gI (cY 0) (rr 1) 6 fW 6] : List va_W).flatten := hD
  refine lv_aload_n hx hb dX8_lead_10 rfl (lv_at hl 0 rfl) ?_
  refine lv_iload_n hx hb dX8_lead_11 rfl (lv_at hl 3 rfl) ?_
  refine ca_v (CL := [hO b, cO b (nI n) (nI k)]) (va_runV (As := [.int (nI w)]) (rest := []) ⟨hx, hb, hml, hown, hts⟩ (c_X8_needState_ok l D cY H.size b n k w (by omega) (by omega) (by omega) (by omega) (by omega)) (cwV 1 hts gX8_lead_X8_needState rfl rfl rfl (by decide +kernel) ⟨Nat.le_of_ble_eq_true rfl, Nat.le_of_ble_eq_true rfl⟩) (b_preV hVK hP hD [0, 1] rfl rfl 0 rfl rfl) rfl rfl hl.1 rfl (lv_room (Nat.le_of_ble_eq_true rfl)) dX8_lead_12 ⟨Nat.le_refl _, Nat.le_refl _⟩) hP hD hS hA [0, 1] rfl rfl (fun _ => rfl) (fun uu H locs hq hP hD hS => ?_)
  have hP : va_P D vwCl ([hO b, cO b (nI n) (nI k), oQ (cY 2) (b 2) (rr 0) 6, gI (cY 0) (rr 0) 12 fG 6, oQ (cY 2) (b 3) (rr 1) 6, gI (cY 0) (rr 1) 6 fW 6] : List va_W).flatten H := hP
  have hD : va_D A ([hO b, cO b (nI n) (nI k), oQ (cY 2) (b 2) (rr 0) 6, gI (cY 0) (rr 0) 12 fG 6, oQ (cY 2) (b 3) (rr 1) 6, gI (cY 0) (rr 1) 6 fW 6] : List va_W).flatten := hD
  refine lv_aload_n hx hb dX8_lead_15 rfl (lv_at hl 0 rfl) ?_
  refine b_get (ci := 8) (v := .ref (b 1)) (C := RX8) (T := TX8) (N := 8) hx hb hts (by decide +kernel) hown hK hP 0 rfl rfl 0 (by decide) (hts (.fieldLink RX8 10 "ChanceHall" "chain" "LChanceHall$Chain;") (by decide +kernel)) (fun _ h9 => h9) rfl dX8_lead_16 ?_
  refine lv_iload_n hx hb dX8_lead_19 rfl (lv_at hl 1 rfl) ?_
  refine lv_iload_n hx hb dX8_lead_20 rfl (lv_at hl 2 rfl) ?_
  refine lv_iload_n hx hb dX8_lead_21 rfl (lv_at hl 3 rfl) ?_
  refine ca_i (CL := [cO b (nI n) (nI k), oQ (cY 2) (b 2) (rr 0) 6, gI (cY 0) (rr 0) 12 fG 6, oQ (cY 2) (b 3) (rr 1) 6, gI (cY 0) (rr 1) 6 fW 6]) (va_runV (As := [.int (nI i), .int (nI j), .int (nI w)]) (rest := []) ⟨hx, hb, hml, hown, hts⟩ (c_X0_turn l D cY H.size b rr n k fG fW g i j w (by omega) (by omega) (by omega) (by omega) hG hgn hW (by omega) (by omega) (by omega)) (cwV 3 hts gX8_lead_X0_turn rfl rfl rfl (by decide +kernel) ⟨Nat.le_of_ble_eq_true rfl, Nat.le_of_ble_eq_true rfl⟩) (b_preV hVK hP hD [1, 2, 3, 4, 5] rfl rfl 1 rfl rfl) rfl rfl hl.1 rfl (lv_room (Nat.le_of_ble_eq_true rfl)) dX8_lead_22 ⟨Nat.le_refl _, Nat.le_refl _⟩) hP hD hS hA [1, 2, 3, 4, 5] rfl rfl (fun _ => rfl) (fun r22 uu H locs hq hP hD hS => ?_)
  subst hq
  have hP : va_P D vwCl ([hO b, cO b (nI n) (nI k), oQ (cY 2) (b 2) (rr 0) 6, gI (cY 0) (rr 0) 12 (va_up fG i (upd (fG i) j (nI w))) 6, oQ (cY 2) (b 3) (rr 1) 6, gI (cY 0) (rr 1) 6 (va_up (va_up fW i (upd (fW i) (g i j) (fW i (g i j) - nI 1))) i (upd ((va_up fW i (upd (fW i) (g i j) (fW i (g i j) - nI 1))) i) w (((va_up fW i (upd (fW i) (g i j) (fW i (g i j) - nI 1))) i w) + nI 1))) 6] : List va_W).flatten H := hP
  have hD : va_D A ([hO b, cO b (nI n) (nI k), oQ (cY 2) (b 2) (rr 0) 6, gI (cY 0) (rr 0) 12 (va_up fG i (upd (fG i) j (nI w))) 6, oQ (cY 2) (b 3) (rr 1) 6, gI (cY 0) (rr 1) 6 (va_up (va_up fW i (upd (fW i) (g i j) (fW i (g i j) - nI 1))) i (upd ((va_up fW i (upd (fW i) (g i j) (fW i (g i j) - nI 1))) i) w (((va_up fW i (upd (fW i) (g i j) (fW i (g i j) - nI 1))) i w) + nI 1))) 6] : List va_W).flatten := hD
  exact r_i hx hb hr hlocks hP hD hS () rfl (rfl) dX8_lead_25

set_option maxHeartbeats 4000000 in
set_option maxRecDepth 100000 in
theorem c_X8_swap_ok (l : Launch) (D : va_G) (cY : Nat → ClassId) (sz : Nat) (b : Nat → Nat) (rr : Nat → Nat → Nat) (n : Nat) (k : Nat) (fG : Nat → Nat → Int32) (g : Nat → Nat → Nat) (i : Nat) (j : Nat) (w : Nat) (hn1 : 1 ≤ n) (hn6 : n ≤ 6) (hk1 : 1 ≤ k) (hk12 : k ≤ 12) (hG : ∀ i j, i < n → j < k → fG i j = nI (g i j)) (hgn : ∀ i j, i < n → j < k → g i j < n) (hi : i < n) (hj : j < k) (hw : w < k) : Met l yX8_swap wsX8_swap ({ frames := 2, cells := 0, slots := 0, locals := 80 }) (cP D cY [.ref (b 0), .int (nI i), .int (nI j), .int (nI w)] [hO b, cO b (nI n) (nI k), oQ (cY 2) (b 2) (rr 0) 6, gI (cY 0) (rr 0) 12 fG 6] sz) (qV (S := Unit) D cY (fun uu => True) (fun uu => [hO b, cO b (nI n) (nI k), oQ (cY 2) (b 2) (rr 0) 6, gI (cY 0) (rr 0) 12 (va_up (va_up fG i (upd (fG i) j (nI (g i w)))) i (upd ((va_up fG i (upd (fG i) j (nI (g i w)))) i) w (nI (g i j)))) 6]) (va_A ([hO b, cO b (nI n) (nI k), oQ (cY 2) (b 2) (rr 0) 6, gI (cY 0) (rr 0) 12 fG 6] : List va_W).flatten sz)) 0 0 (va_A ([hO b, cO b (nI n) (nI k), oQ (cY 2) (b 2) (rr 0) 6, gI (cY 0) (rr 0) 12 fG 6] : List va_W).flatten sz) := by
  refine mtB (Qc := fun A => qV (S := Unit) D cY (fun uu => True) (fun uu => [hO b, cO b (nI n) (nI k), oQ (cY 2) (b 2) (rr 0) 6, gI (cY 0) (rr 0) 12 (va_up (va_up fG i (upd (fG i) j (nI (g i w)))) i (upd ((va_up fG i (upd (fG i) j (nI (g i w)))) i) w (nI (g i j)))) 6]) A) (cc := cX8_swap) (maxL := 4) (ret := none) (by decide) rfl (Nat.le_of_ble_eq_true rfl) ?_
  intro p e s m below meth c A ls hx hb hr hml hts hown hlocks hnm hsz hP hK hVK hD hS hA hl
  have hown : s.vm.findClass RX8 = some m.cls := hown
  have hl : lv_has ls 4 [(0, .ref (b 0)), (1, .int (nI i)), (2, .int (nI j)), (3, .int (nI w))] := hl
  have hP : va_P D vwCl ([hO b, cO b (nI n) (nI k), oQ (cY 2) (b 2) (rr 0) 6, gI (cY 0) (rr 0) 12 fG 6] : List va_W).flatten s.heap := hP
  have hD : va_D A ([hO b, cO b (nI n) (nI k), oQ (cY 2) (b 2) (rr 0) 6, gI (cY 0) (rr 0) 12 fG 6] : List va_W).flatten := hD
  refine lv_aload_n hx hb dX8_swap_0 rfl (lv_at hl 0 rfl) ?_
  refine lv_iload_n hx hb dX8_swap_1 rfl (lv_at hl 1 rfl) ?_
  refine ca_v (CL := [hO b, cO b (nI n) (nI k)]) (va_runV (As := [.int (nI i)]) (rest := []) ⟨hx, hb, hml, hown, hts⟩ (c_X8_needState_ok l D cY s.heap.size b n k i (by omega) (by omega) (by omega) (by omega) (by omega)) (cwV 1 hts gX8_swap_X8_needState rfl rfl rfl (by decide +kernel) ⟨Nat.le_of_ble_eq_true rfl, Nat.le_of_ble_eq_true rfl⟩) (b_preV hVK hP hD [0, 1] rfl rfl 0 rfl rfl) rfl rfl hl.1 rfl (lv_room (Nat.le_of_ble_eq_true rfl)) dX8_swap_2 ⟨Nat.le_refl _, Nat.le_refl _⟩) hP hD hS hA [0, 1] rfl rfl (fun _ => rfl) (fun uu H locs hq hP hD hS => ?_)
  have hP : va_P D vwCl ([hO b, cO b (nI n) (nI k), oQ (cY 2) (b 2) (rr 0) 6, gI (cY 0) (rr 0) 12 fG 6] : List va_W).flatten H := hP
  have hD : va_D A ([hO b, cO b (nI n) (nI k), oQ (cY 2) (b 2) (rr 0) 6, gI (cY 0) (rr 0) 12 fG 6] : List va_W).flatten := hD
  refine lv_aload_n hx hb dX8_swap_5 rfl (lv_at hl 0 rfl) ?_
  refine lv_iload_n hx hb dX8_swap_6 rfl (lv_at hl 2 rfl) ?_
  refine ca_v (CL := [hO b, cO b (nI n) (nI k)]) (va_runV (As := [.int (nI j)]) (rest := []) ⟨hx, hb, hml, hown, hts⟩ (c_X8_needSlot_ok l D cY H.size b n k j (by omega) (by omega) (by omega) (by omega) (by omega)) (cwV 1 hts gX8_swap_X8_needSlot rfl rfl rfl (by decide +kernel) ⟨Nat.le_of_ble_eq_true rfl, Nat.le_of_ble_eq_true rfl⟩) (b_preV hVK hP hD [0, 1] rfl rfl 0 rfl rfl) rfl rfl hl.1 rfl (lv_room (Nat.le_of_ble_eq_true rfl)) dX8_swap_7 ⟨Nat.le_refl _, Nat.le_refl _⟩) hP hD hS hA [0, 1] rfl rfl (fun _ => rfl) (fun uu H locs hq hP hD hS => ?_)
  have hP : va_P D vwCl ([hO b, cO b (nI n) (nI k), oQ (cY 2) (b 2) (rr 0) 6, gI (cY 0) (rr 0) 12 fG 6] : List va_W).flatten H := hP
  have hD : va_D A ([hO b, cO b (nI n) (nI k), oQ (cY 2) (b 2) (rr 0) 6, gI (cY 0) (rr 0) 12 fG 6] : List va_W).flatten := hD
  refine lv_aload_n hx hb dX8_swap_10 rfl (lv_at hl 0 rfl) ?_
  refine lv_iload_n hx hb dX8_swap_11 rfl (lv_at hl 3 rfl) ?_
  refine ca_v (CL := [hO b, cO b (nI n) (nI k)]) (va_runV (As := [.int (nI w)]) (rest := []) ⟨hx, hb, hml, hown, hts⟩ (c_X8_needSlot_ok l D cY H.size b n k w (by omega) (by omega) (by omega) (by omega) (by omega)) (cwV 1 hts gX8_swap_X8_needSlot rfl rfl rfl (by decide +kernel) ⟨Nat.le_of_ble_eq_true rfl, Nat.le_of_ble_eq_true rfl⟩) (b_preV hVK hP hD [0, 1] rfl rfl 0 rfl rfl) rfl rfl hl.1 rfl (lv_room (Nat.le_of_ble_eq_true rfl)) dX8_swap_12 ⟨Nat.le_refl _, Nat.le_refl _⟩) hP hD hS hA [0, 1] rfl rfl (fun _ => rfl) (fun uu H locs hq hP hD hS => ?_)
  have hP : va_P D vwCl ([hO b, cO b (nI n) (nI k), oQ (cY 2) (b 2) (rr 0) 6, gI (cY 0) (rr 0) 12 fG 6] : List va_W).flatten H := hP
  have hD : va_D A ([hO b, cO b (nI n) (nI k), oQ (cY 2) (b 2) (rr 0) 6, gI (cY 0) (rr 0) 12 fG 6] : List va_W).flatten := hD
  refine lv_aload_n hx hb dX8_swap_15 rfl (lv_at hl 0 rfl) ?_
  refine b_get (ci := 8) (v := .ref (b 1)) (C := RX8) (T := TX8) (N := 8) hx hb hts (by decide +kernel) hown hK hP 0 rfl rfl 0 (by decide) (hts (.fieldLink RX8 10 "ChanceHall" "chain" "LChanceHall$Chain;") (by decide +kernel)) (fun _ h9 => h9) rfl dX8_swap_16 ?_
  refine lv_iload_n hx hb dX8_swap_19 rfl (lv_at hl 1 rfl) ?_
  refine lv_iload_n hx hb dX8_swap_20 rfl (lv_at hl 2 rfl) ?_
  refine lv_iload_n hx hb dX8_swap_21 rfl (lv_at hl 3 rfl) ?_
  refine ca_v (CL := [cO b (nI n) (nI k), oQ (cY 2) (b 2) (rr 0) 6, gI (cY 0) (rr 0) 12 fG 6]) (va_runV (As := [.int (nI i), .int (nI j), .int (nI w)]) (rest := []) ⟨hx, hb, hml, hown, hts⟩ (c_X0_exchange l D cY H.size b rr n k fG g i j w (by omega) (by omega) (by omega) (by omega) hG hgn (by omega) (by omega) (by omega)) (cwV 3 hts gX8_swap_X0_exchange rfl rfl rfl (by decide +kernel) ⟨Nat.le_of_ble_eq_true rfl, Nat.le_of_ble_eq_true rfl⟩) (b_preV hVK hP hD [1, 2, 3] rfl rfl 1 rfl rfl) rfl rfl hl.1 rfl (lv_room (Nat.le_of_ble_eq_true rfl)) dX8_swap_22 ⟨Nat.le_refl _, Nat.le_refl _⟩) hP hD hS hA [1, 2, 3] rfl rfl (fun _ => rfl) (fun uu H locs hq hP hD hS => ?_)
  have hP : va_P D vwCl ([hO b, cO b (nI n) (nI k), oQ (cY 2) (b 2) (rr 0) 6, gI (cY 0) (rr 0) 12 (va_up (va_up fG i (upd (fG i) j (nI (g i w)))) i (upd ((va_up fG i (upd (fG i) j (nI (g i w)))) i) w (nI (g i j)))) 6] : List va_W).flatten H := hP
  have hD : va_D A ([hO b, cO b (nI n) (nI k), oQ (cY 2) (b 2) (rr 0) 6, gI (cY 0) (rr 0) 12 (va_up (va_up fG i (upd (fG i) j (nI (g i w)))) i (upd ((va_up fG i (upd (fG i) j (nI (g i w)))) i) w (nI (g i j)))) 6] : List va_W).flatten := hD
  exact r_v hx hb hr hlocks hP hD hS () rfl (trivial) dX8_swap_25

set_option maxHeartbeats 4000000 in
set_option maxRecDepth 100000 in
theorem c_X8_pay_ok (l : Launch) (D : va_G) (cY : Nat → ClassId) (sz : Nat) (b : Nat → Nat) (n : Nat) (k : Nat) (fPy : Nat → Int32) (g : Nat → Nat → Nat) (i : Nat) (v0 : Int32) (hn1 : 1 ≤ n) (hn6 : n ≤ 6) (hk1 : 1 ≤ k) (hk12 : k ≤ 12) (hi : i < n) (hv : inR v0 (-100000) (nI 100000) = true) : Met l yX8_pay wsX8_pay ({ frames := 2, cells := 0, slots := 0, locals := 80 }) (cP D cY [.ref (b 0), .int (nI i), .int v0] [hO b, cO b (nI n) (nI k), gO b, [(b 19, .inl (cY 0, 6, .inl fPy))]] sz) (qI (S := Unit) D cY (fun r uu => r = fPy i) (fun uu => [hO b, cO b (nI n) (nI k), gO b, [(b 19, .inl (cY 0, 6, .inl (upd fPy i v0)))]]) (va_A ([hO b, cO b (nI n) (nI k), gO b, [(b 19, .inl (cY 0, 6, .inl fPy))]] : List va_W).flatten sz)) 0 0 (va_A ([hO b, cO b (nI n) (nI k), gO b, [(b 19, .inl (cY 0, 6, .inl fPy))]] : List va_W).flatten sz) := by
  refine mtB (Qc := fun A => qI (S := Unit) D cY (fun r uu => r = fPy i) (fun uu => [hO b, cO b (nI n) (nI k), gO b, [(b 19, .inl (cY 0, 6, .inl (upd fPy i v0)))]]) A) (cc := cX8_pay) (maxL := 3) (ret := (some .int)) (by decide) rfl (Nat.le_of_ble_eq_true rfl) ?_
  intro p e s m below meth c A ls hx hb hr hml hts hown hlocks hnm hsz hP hK hVK hD hS hA hl
  have hown : s.vm.findClass RX8 = some m.cls := hown
  have hl : lv_has ls 3 [(0, .ref (b 0)), (1, .int (nI i)), (2, .int v0)] := hl
  have hP : va_P D vwCl ([hO b, cO b (nI n) (nI k), gO b, [(b 19, .inl (cY 0, 6, .inl fPy))]] : List va_W).flatten s.heap := hP
  have hD : va_D A ([hO b, cO b (nI n) (nI k), gO b, [(b 19, .inl (cY 0, 6, .inl fPy))]] : List va_W).flatten := hD
  refine lv_aload_n hx hb dX8_pay_0 rfl (lv_at hl 0 rfl) ?_
  refine lv_iload_n hx hb dX8_pay_1 rfl (lv_at hl 1 rfl) ?_
  refine ca_v (CL := [hO b, cO b (nI n) (nI k)]) (va_runV (As := [.int (nI i)]) (rest := []) ⟨hx, hb, hml, hown, hts⟩ (c_X8_needState_ok l D cY s.heap.size b n k i (by omega) (by omega) (by omega) (by omega) (by omega)) (cwV 1 hts gX8_pay_X8_needState rfl rfl rfl (by decide +kernel) ⟨Nat.le_of_ble_eq_true rfl, Nat.le_of_ble_eq_true rfl⟩) (b_preV hVK hP hD [0, 1] rfl rfl 0 rfl rfl) rfl rfl hl.1 rfl (lv_room (Nat.le_of_ble_eq_true rfl)) dX8_pay_2 ⟨Nat.le_refl _, Nat.le_refl _⟩) hP hD hS hA [0, 1] rfl rfl (fun _ => rfl) (fun uu H locs hq hP hD hS => ?_)
  have hP : va_P D vwCl ([hO b, cO b (nI n) (nI k), gO b, [(b 19, .inl (cY 0, 6, .inl fPy))]] : List va_W).flatten H := hP
  have hD : va_D A ([hO b, cO b (nI n) (nI k), gO b, [(b 19, .inl (cY 0, 6, .inl fPy))]] : List va_W).flatten := hD
  refine lv_iload_n hx hb dX8_pay_5 rfl (lv_at hl 2 rfl) ?_
  refine lv_ldc (v := (-100000)) hx hb hown (hts (.constant RX8 93 (-100000)) (by decide +kernel)) dX8_pay_6 ?_
  refine lv_ldc (v := 100000) hx hb hown (hts (.constant RX8 94 100000) (by decide +kernel)) dX8_pay_8 ?_
  refine eqi (x' := nI 100000) (by decide) ?_
  refine ca_v (CL := []) (va_runS (As := [.int v0, .int (-100000), .int (nI 100000)]) (rest := []) ⟨hx, hb, hml, hown, hts⟩ (c_X8_needRange_ok l D cY H.size v0 (-100000) (nI 100000) hv) (va_cwS 3 hts gX8_pay_X8_needRange rfl rfl rfl (by decide +kernel) ⟨Nat.le_of_ble_eq_true rfl, Nat.le_of_ble_eq_true rfl⟩) (b_preS hVK hP hD [] rfl rfl) rfl rfl hl.1 rfl (lv_room (Nat.le_of_ble_eq_true rfl)) dX8_pay_10 ⟨Nat.le_refl _, Nat.le_refl _⟩) hP hD hS hA [] rfl rfl (fun _ => rfl) (fun uu H locs hq hP hD hS => ?_)
  have hP : va_P D vwCl ([hO b, cO b (nI n) (nI k), gO b, [(b 19, .inl (cY 0, 6, .inl fPy))]] : List va_W).flatten H := hP
  have hD : va_D A ([hO b, cO b (nI n) (nI k), gO b, [(b 19, .inl (cY 0, 6, .inl fPy))]] : List va_W).flatten := hD
  refine lv_aload_n hx hb dX8_pay_13 rfl (lv_at hl 0 rfl) ?_
  refine b_get (ci := 8) (v := .ref (b 18)) (C := RX8) (T := TX8) (N := 8) hx hb hts (by decide +kernel) hown hK hP 0 rfl rfl 6 (by decide) (hts (.fieldLink RX8 56 "ChanceHall" "games" "LChanceHall$Games;") (by decide +kernel)) (fun _ h9 => h9) rfl dX8_pay_14 ?_
  refine lv_iload_n hx hb dX8_pay_17 rfl (lv_at hl 1 rfl) ?_
  refine lv_iload_n hx hb dX8_pay_18 rfl (lv_at hl 2 rfl) ?_
  refine ca_i (CL := [gO b, [(b 19, .inl (cY 0, 6, .inl fPy))]]) (va_runV (As := [.int (nI i), .int v0]) (rest := []) ⟨hx, hb, hml, hown, hts⟩ (c_X4_setPay l D cY H.size b fPy i v0 (by omega)) (cwV 2 hts gX8_pay_X4_setPay rfl rfl rfl (by decide +kernel) ⟨Nat.le_of_ble_eq_true rfl, Nat.le_of_ble_eq_true rfl⟩) (b_preV hVK hP hD [2, 3] rfl rfl 2 rfl rfl) rfl rfl hl.1 rfl (lv_room (Nat.le_of_ble_eq_true rfl)) dX8_pay_19 ⟨Nat.le_refl _, Nat.le_refl _⟩) hP hD hS hA [2, 3] rfl rfl (fun _ => rfl) (fun r19 uu H locs hq hP hD hS => ?_)
  subst hq
  have hP : va_P D vwCl ([hO b, cO b (nI n) (nI k), gO b, [(b 19, .inl (cY 0, 6, .inl (upd fPy i v0)))]] : List va_W).flatten H := hP
  have hD : va_D A ([hO b, cO b (nI n) (nI k), gO b, [(b 19, .inl (cY 0, 6, .inl (upd fPy i v0)))]] : List va_W).flatten := hD
  exact r_i hx hb hr hlocks hP hD hS () rfl (rfl) dX8_pay_22

set_option maxHeartbeats 4000000 in
set_option maxRecDepth 100000 in
theorem c_X8_colour_ok (l : Launch) (D : va_G) (cY : Nat → ClassId) (sz : Nat) (b : Nat → Nat) (n : Nat) (k : Nat) (fCc : Nat → Int32) (g : Nat → Nat → Nat) (i : Nat) (v0 : Int32) (hn1 : 1 ≤ n) (hn6 : n ≤ 6) (hk1 : 1 ≤ k) (hk12 : k ≤ 12) (hi : i < n) (hv : inR v0 (nI 0) (nI 5) = true) : Met l yX8_colour wsX8_colour ({ frames := 2, cells := 0, slots := 0, locals := 80 }) (cP D cY [.ref (b 0), .int (nI i), .int v0] [hO b, cO b (nI n) (nI k), uO b, [(b 22, .inl (cY 0, 6, .inl fCc))]] sz) (qI (S := Unit) D cY (fun r uu => r = fCc i) (fun uu => [hO b, cO b (nI n) (nI k), uO b, [(b 22, .inl (cY 0, 6, .inl (upd fCc i v0)))]]) (va_A ([hO b, cO b (nI n) (nI k), uO b, [(b 22, .inl (cY 0, 6, .inl fCc))]] : List va_W).flatten sz)) 0 0 (va_A ([hO b, cO b (nI n) (nI k), uO b, [(b 22, .inl (cY 0, 6, .inl fCc))]] : List va_W).flatten sz) := by
  refine mtB (Qc := fun A => qI (S := Unit) D cY (fun r uu => r = fCc i) (fun uu => [hO b, cO b (nI n) (nI k), uO b, [(b 22, .inl (cY 0, 6, .inl (upd fCc i v0)))]]) A) (cc := cX8_colour) (maxL := 3) (ret := (some .int)) (by decide) rfl (Nat.le_of_ble_eq_true rfl) ?_
  intro p e s m below meth c A ls hx hb hr hml hts hown hlocks hnm hsz hP hK hVK hD hS hA hl
  have hown : s.vm.findClass RX8 = some m.cls := hown
  have hl : lv_has ls 3 [(0, .ref (b 0)), (1, .int (nI i)), (2, .int v0)] := hl
  have hP : va_P D vwCl ([hO b, cO b (nI n) (nI k), uO b, [(b 22, .inl (cY 0, 6, .inl fCc))]] : List va_W).flatten s.heap := hP
  have hD : va_D A ([hO b, cO b (nI n) (nI k), uO b, [(b 22, .inl (cY 0, 6, .inl fCc))]] : List va_W).flatten := hD
  refine lv_aload_n hx hb dX8_colour_0 rfl (lv_at hl 0 rfl) ?_
  refine lv_iload_n hx hb dX8_colour_1 rfl (lv_at hl 1 rfl) ?_
  refine ca_v (CL := [hO b, cO b (nI n) (nI k)]) (va_runV (As := [.int (nI i)]) (rest := []) ⟨hx, hb, hml, hown, hts⟩ (c_X8_needState_ok l D cY s.heap.size b n k i (by omega) (by omega) (by omega) (by omega) (by omega)) (cwV 1 hts gX8_colour_X8_needState rfl rfl rfl (by decide +kernel) ⟨Nat.le_of_ble_eq_true rfl, Nat.le_of_ble_eq_true rfl⟩) (b_preV hVK hP hD [0, 1] rfl rfl 0 rfl rfl) rfl rfl hl.1 rfl (lv_room (Nat.le_of_ble_eq_true rfl)) dX8_colour_2 ⟨Nat.le_refl _, Nat.le_refl _⟩) hP hD hS hA [0, 1] rfl rfl (fun _ => rfl) (fun uu H locs hq hP hD hS => ?_)
  have hP : va_P D vwCl ([hO b, cO b (nI n) (nI k), uO b, [(b 22, .inl (cY 0, 6, .inl fCc))]] : List va_W).flatten H := hP
  have hD : va_D A ([hO b, cO b (nI n) (nI k), uO b, [(b 22, .inl (cY 0, 6, .inl fCc))]] : List va_W).flatten := hD
  refine lv_iload_n hx hb dX8_colour_5 rfl (lv_at hl 2 rfl) ?_
  refine lv_iconst (v := nI 0) hx hb dX8_colour_6 (by decide) ?_
  refine lv_iconst (v := nI 5) hx hb dX8_colour_7 (by decide) ?_
  refine ca_v (CL := []) (va_runS (As := [.int v0, .int (nI 0), .int (nI 5)]) (rest := []) ⟨hx, hb, hml, hown, hts⟩ (c_X8_needRange_ok l D cY H.size v0 (nI 0) (nI 5) hv) (va_cwS 3 hts gX8_colour_X8_needRange rfl rfl rfl (by decide +kernel) ⟨Nat.le_of_ble_eq_true rfl, Nat.le_of_ble_eq_true rfl⟩) (b_preS hVK hP hD [] rfl rfl) rfl rfl hl.1 rfl (lv_room (Nat.le_of_ble_eq_true rfl)) dX8_colour_8 ⟨Nat.le_refl _, Nat.le_refl _⟩) hP hD hS hA [] rfl rfl (fun _ => rfl) (fun uu H locs hq hP hD hS => ?_)
  have hP : va_P D vwCl ([hO b, cO b (nI n) (nI k), uO b, [(b 22, .inl (cY 0, 6, .inl fCc))]] : List va_W).flatten H := hP
  have hD : va_D A ([hO b, cO b (nI n) (nI k), uO b, [(b 22, .inl (cY 0, 6, .inl fCc))]] : List va_W).flatten := hD
  refine lv_aload_n hx hb dX8_colour_11 rfl (lv_at hl 0 rfl) ?_
  refine b_get (ci := 8) (v := .ref (b 21)) (C := RX8) (T := TX8) (N := 8) hx hb hts (by decide +kernel) hown hK hP 0 rfl rfl 7 (by decide) (hts (.fieldLink RX8 63 "ChanceHall" "lumps" "LChanceHall$Lumps;") (by decide +kernel)) (fun _ h9 => h9) rfl dX8_colour_12 ?_
  refine lv_iload_n hx hb dX8_colour_15 rfl (lv_at hl 1 rfl) ?_
  refine lv_iload_n hx hb dX8_colour_16 rfl (lv_at hl 2 rfl) ?_
  refine ca_i (CL := [uO b, [(b 22, .inl (cY 0, 6, .inl fCc))]]) (va_runV (As := [.int (nI i), .int v0]) (rest := []) ⟨hx, hb, hml, hown, hts⟩ (c_X6_setColour l D cY H.size b fCc i v0 (by omega)) (cwV 2 hts gX8_colour_X6_setColour rfl rfl rfl (by decide +kernel) ⟨Nat.le_of_ble_eq_true rfl, Nat.le_of_ble_eq_true rfl⟩) (b_preV hVK hP hD [2, 3] rfl rfl 2 rfl rfl) rfl rfl hl.1 rfl (lv_room (Nat.le_of_ble_eq_true rfl)) dX8_colour_17 ⟨Nat.le_refl _, Nat.le_refl _⟩) hP hD hS hA [2, 3] rfl rfl (fun _ => rfl) (fun r17 uu H locs hq hP hD hS => ?_)
  subst hq
  have hP : va_P D vwCl ([hO b, cO b (nI n) (nI k), uO b, [(b 22, .inl (cY 0, 6, .inl (upd fCc i v0)))]] : List va_W).flatten H := hP
  have hD : va_D A ([hO b, cO b (nI n) (nI k), uO b, [(b 22, .inl (cY 0, 6, .inl (upd fCc i v0)))]] : List va_W).flatten := hD
  exact r_i hx hb hr hlocks hP hD hS () rfl (rfl) dX8_colour_20

set_option maxHeartbeats 4000000 in
set_option maxRecDepth 100000 in
theorem c_X8_weight_ok (l : Launch) (D : va_G) (cY : Nat → ClassId) (sz : Nat) (b : Nat → Nat) (rr : Nat → Nat → Nat) (n : Nat) (k : Nat) (fW : Nat → Nat → Int32) (g : Nat → Nat → Nat) (i : Nat) (w : Nat) (hn1 : 1 ≤ n) (hn6 : n ≤ 6) (hk1 : 1 ≤ k) (hk12 : k ≤ 12) (hW : ∀ i j, i < n → j < n → fW i j = nI (cnt (g i) j k)) (hi : i < n) (hw : w < n) : Met l yX8_weight wsX8_weight ({ frames := 2, cells := 0, slots := 0, locals := 80 }) (cP D cY [.ref (b 0), .int (nI i), .int (nI w)] [hO b, cO b (nI n) (nI k), oQ (cY 2) (b 3) (rr 1) 6, gI (cY 0) (rr 1) 6 fW 6] sz) (qI (S := Unit) D cY (fun r uu => r = nI (cnt (g i) w k)) (fun uu => [hO b, cO b (nI n) (nI k), oQ (cY 2) (b 3) (rr 1) 6, gI (cY 0) (rr 1) 6 fW 6]) (va_A ([hO b, cO b (nI n) (nI k), oQ (cY 2) (b 3) (rr 1) 6, gI (cY 0) (rr 1) 6 fW 6] : List va_W).flatten sz)) 0 0 (va_A ([hO b, cO b (nI n) (nI k), oQ (cY 2) (b 3) (rr 1) 6, gI (cY 0) (rr 1) 6 fW 6] : List va_W).flatten sz) := by
  refine mtB (Qc := fun A => qI (S := Unit) D cY (fun r uu => r = nI (cnt (g i) w k)) (fun uu => [hO b, cO b (nI n) (nI k), oQ (cY 2) (b 3) (rr 1) 6, gI (cY 0) (rr 1) 6 fW 6]) A) (cc := cX8_weight) (maxL := 3) (ret := (some .int)) (by decide) rfl (Nat.le_of_ble_eq_true rfl) ?_
  intro p e s m below meth c A ls hx hb hr hml hts hown hlocks hnm hsz hP hK hVK hD hS hA hl
  have hown : s.vm.findClass RX8 = some m.cls := hown
  have hl : lv_has ls 3 [(0, .ref (b 0)), (1, .int (nI i)), (2, .int (nI w))] := hl
  have hP : va_P D vwCl ([hO b, cO b (nI n) (nI k), oQ (cY 2) (b 3) (rr 1) 6, gI (cY 0) (rr 1) 6 fW 6] : List va_W).flatten s.heap := hP
  have hD : va_D A ([hO b, cO b (nI n) (nI k), oQ (cY 2) (b 3) (rr 1) 6, gI (cY 0) (rr 1) 6 fW 6] : List va_W).flatten := hD
  refine lv_aload_n hx hb dX8_weight_0 rfl (lv_at hl 0 rfl) ?_
  refine lv_iload_n hx hb dX8_weight_1 rfl (lv_at hl 1 rfl) ?_
  refine ca_v (CL := [hO b, cO b (nI n) (nI k)]) (va_runV (As := [.int (nI i)]) (rest := []) ⟨hx, hb, hml, hown, hts⟩ (c_X8_needState_ok l D cY s.heap.size b n k i (by omega) (by omega) (by omega) (by omega) (by omega)) (cwV 1 hts gX8_weight_X8_needState rfl rfl rfl (by decide +kernel) ⟨Nat.le_of_ble_eq_true rfl, Nat.le_of_ble_eq_true rfl⟩) (b_preV hVK hP hD [0, 1] rfl rfl 0 rfl rfl) rfl rfl hl.1 rfl (lv_room (Nat.le_of_ble_eq_true rfl)) dX8_weight_2 ⟨Nat.le_refl _, Nat.le_refl _⟩) hP hD hS hA [0, 1] rfl rfl (fun _ => rfl) (fun uu H locs hq hP hD hS => ?_)
  have hP : va_P D vwCl ([hO b, cO b (nI n) (nI k), oQ (cY 2) (b 3) (rr 1) 6, gI (cY 0) (rr 1) 6 fW 6] : List va_W).flatten H := hP
  have hD : va_D A ([hO b, cO b (nI n) (nI k), oQ (cY 2) (b 3) (rr 1) 6, gI (cY 0) (rr 1) 6 fW 6] : List va_W).flatten := hD
  refine lv_aload_n hx hb dX8_weight_5 rfl (lv_at hl 0 rfl) ?_
  refine lv_iload_n hx hb dX8_weight_6 rfl (lv_at hl 2 rfl) ?_
  refine ca_v (CL := [hO b, cO b (nI n) (nI k)]) (va_runV (As := [.int (nI w)]) (rest := []) ⟨hx, hb, hml, hown, hts⟩ (c_X8_needState_ok l D cY H.size b n k w (by omega) (by omega) (by omega) (by omega) (by omega)) (cwV 1 hts gX8_weight_X8_needState rfl rfl rfl (by decide +kernel) ⟨Nat.le_of_ble_eq_true rfl, Nat.le_of_ble_eq_true rfl⟩) (b_preV hVK hP hD [0, 1] rfl rfl 0 rfl rfl) rfl rfl hl.1 rfl (lv_room (Nat.le_of_ble_eq_true rfl)) dX8_weight_7 ⟨Nat.le_refl _, Nat.le_refl _⟩) hP hD hS hA [0, 1] rfl rfl (fun _ => rfl) (fun uu H locs hq hP hD hS => ?_)
  have hP : va_P D vwCl ([hO b, cO b (nI n) (nI k), oQ (cY 2) (b 3) (rr 1) 6, gI (cY 0) (rr 1) 6 fW 6] : List va_W).flatten H := hP
  have hD : va_D A ([hO b, cO b (nI n) (nI k), oQ (cY 2) (b 3) (rr 1) 6, gI (cY 0) (rr 1) 6 fW 6] : List va_W).flatten := hD
  refine lv_aload_n hx hb dX8_weight_10 rfl (lv_at hl 0 rfl) ?_
  refine b_get (ci := 8) (v := .ref (b 1)) (C := RX8) (T := TX8) (N := 8) hx hb hts (by decide +kernel) hown hK hP 0 rfl rfl 0 (by decide) (hts (.fieldLink RX8 10 "ChanceHall" "chain" "LChanceHall$Chain;") (by decide +kernel)) (fun _ h9 => h9) rfl dX8_weight_11 ?_
  refine b_get (ci := 0) (v := .ref (b 3)) (C := RX0) (T := TX0) (N := 4) hx hb hts (by decide +kernel) hown hK hP 1 rfl rfl 3 (by decide) (hts (.fieldLink RX8 102 "ChanceHall$Chain" "weights" "[[I") (by decide +kernel)) (fun _ h9 => h9) rfl dX8_weight_14 ?_
  refine lv_iload_n hx hb dX8_weight_17 rfl (lv_at hl 1 rfl) ?_
  refine g_aald hx hb hK hP 2 2 rfl rfl (by omega) (by decide) dX8_weight_18 ?_
  refine lv_iload_n hx hb dX8_weight_19 rfl (lv_at hl 2 rfl) ?_
  refine g_iald hx hb hK hP 3 0 rfl rfl (by omega) (by omega) (by decide) dX8_weight_20 ?_
  exact r_i hx hb hr hlocks hP hD hS () rfl (hW i w hi hw) dX8_weight_21

set_option maxHeartbeats 4000000 in
set_option maxRecDepth 100000 in
theorem c_X8_words_ok (l : Launch) (D : va_G) (cY : Nat → ClassId) (sz : Nat) (b : Nat → Nat) (n : Nat) (k : Nat) (g : Nat → Nat → Nat) (t : Nat) (hn1 : 1 ≤ n) (hn6 : n ≤ 6) (hk1 : 1 ≤ k) (hk12 : k ≤ 12) (ht : t ≤ 12) : Met l yX8_words wsX8_words ({ frames := 2, cells := 0, slots := 0, locals := 80 }) (cP D cY [.ref (b 0), .int (nI t)] [hO b, cO b (nI n) (nI k)] sz) (qL (S := Unit) D cY (fun r uu => r = lN (k ^ t)) (fun uu => [hO b, cO b (nI n) (nI k)]) (va_A ([hO b, cO b (nI n) (nI k)] : List va_W).flatten sz)) 0 0 (va_A ([hO b, cO b (nI n) (nI k)] : List va_W).flatten sz) := by
  refine mtB (Qc := fun A => qL (S := Unit) D cY (fun r uu => r = lN (k ^ t)) (fun uu => [hO b, cO b (nI n) (nI k)]) A) (cc := cX8_words) (maxL := 2) (ret := (some .long)) (by decide) rfl (Nat.le_of_ble_eq_true rfl) ?_
  intro p e s m below meth c A ls hx hb hr hml hts hown hlocks hnm hsz hP hK hVK hD hS hA hl
  have hown : s.vm.findClass RX8 = some m.cls := hown
  have hl : lv_has ls 2 [(0, .ref (b 0)), (1, .int (nI t))] := hl
  have hP : va_P D vwCl ([hO b, cO b (nI n) (nI k)] : List va_W).flatten s.heap := hP
  have hD : va_D A ([hO b, cO b (nI n) (nI k)] : List va_W).flatten := hD
  refine lv_iload_n hx hb dX8_words_0 rfl (lv_at hl 1 rfl) ?_
  refine lv_iconst (v := nI 0) hx hb dX8_words_1 (by decide) ?_
  refine lv_bipush (v := nI 12) hx hb dX8_words_2 (by decide) ?_
  refine ca_v (CL := []) (va_runS (As := [.int (nI t), .int (nI 0), .int (nI 12)]) (rest := []) ⟨hx, hb, hml, hown, hts⟩ (c_X8_needRange_ok l D cY s.heap.size (nI t) (nI 0) (nI 12) (inR_t (by omega) (by omega) (by omega))) (va_cwS 3 hts gX8_words_X8_needRange rfl rfl rfl (by decide +kernel) ⟨Nat.le_of_ble_eq_true rfl, Nat.le_of_ble_eq_true rfl⟩) (b_preS hVK hP hD [] rfl rfl) rfl rfl hl.1 rfl (lv_room (Nat.le_of_ble_eq_true rfl)) dX8_words_4 ⟨Nat.le_refl _, Nat.le_refl _⟩) hP hD hS hA [] rfl rfl (fun _ => rfl) (fun uu H locs hq hP hD hS => ?_)
  have hP : va_P D vwCl ([hO b, cO b (nI n) (nI k)] : List va_W).flatten H := hP
  have hD : va_D A ([hO b, cO b (nI n) (nI k)] : List va_W).flatten := hD
  refine lv_aload_n hx hb dX8_words_7 rfl (lv_at hl 0 rfl) ?_
  refine b_get (ci := 8) (v := .ref (b 1)) (C := RX8) (T := TX8) (N := 8) hx hb hts (by decide +kernel) hown hK hP 0 rfl rfl 0 (by decide) (hts (.fieldLink RX8 10 "ChanceHall" "chain" "LChanceHall$Chain;") (by decide +kernel)) (fun _ h9 => h9) rfl dX8_words_8 ?_
  refine lv_iload_n hx hb dX8_words_11 rfl (lv_at hl 1 rfl) ?_
  refine ca_l (CL := [cO b (nI n) (nI k)]) (va_runV (As := [.int (nI t)]) (rest := []) ⟨hx, hb, hml, hown, hts⟩ (c_X0_countWords l D cY H.size b n k t (by omega) (by omega) (by omega) (by omega) (by omega)) (cwV 1 hts gX8_words_X0_countWords rfl rfl rfl (by decide +kernel) ⟨Nat.le_of_ble_eq_true rfl, Nat.le_of_ble_eq_true rfl⟩) (b_preV hVK hP hD [1] rfl rfl 1 rfl rfl) rfl rfl hl.1 rfl (lv_room (Nat.le_of_ble_eq_true rfl)) dX8_words_12 ⟨Nat.le_refl _, Nat.le_refl _⟩) hP hD hS hA [1] rfl rfl (fun _ => rfl) (fun r12 uu H locs hq hP hD hS => ?_)
  subst hq
  have hP : va_P D vwCl ([hO b, cO b (nI n) (nI k)] : List va_W).flatten H := hP
  have hD : va_D A ([hO b, cO b (nI n) (nI k)] : List va_W).flatten := hD
  exact r_l hx hb hr hlocks hP hD hS () rfl (rfl) dX8_words_15

set_option maxHeartbeats 4000000 in
set_option maxRecDepth 100000 in
theorem c_X8_law_ok (l : Launch) (D : va_G) (cY : Nat → ClassId) (sz : Nat) (b : Nat → Nat) (rr : Nat → Nat → Nat) (n : Nat) (k : Nat) (fW : Nat → Nat → Int32) (fR : Nat → Nat → Int64) (g : Nat → Nat → Nat) (i : Nat) (t : Nat) (w : Nat) (hn1 : 1 ≤ n) (hn6 : n ≤ 6) (hk1 : 1 ≤ k) (hk12 : k ≤ 12) (hW : ∀ i j, i < n → j < n → fW i j = nI (cnt (g i) j k)) (hi : i < n) (hw : w < n) (ht : t ≤ 12) : Met l yX8_law wsX8_law ({ frames := 4, cells := 0, slots := 0, locals := 160 }) (cP D cY [.ref (b 0), .int (nI i), .int (nI t), .int (nI w)] [hO b, cO b (nI n) (nI k), lO b, oQ (cY 2) (b 3) (rr 1) 6, gI (cY 0) (rr 1) 6 fW 6, oQ (cY 3) (b 5) (rr 2) 13, gJ (cY 1) (rr 2) 36 fR 13] sz) (qL (S := (Nat → Nat → Int64)) D cY (fun r uu => r = lN (PL g n k i t w)) (fun uu => [hO b, cO b (nI n) (nI k), lO b, oQ (cY 2) (b 3) (rr 1) 6, gI (cY 0) (rr 1) 6 fW 6, oQ (cY 3) (b 5) (rr 2) 13, gJ (cY 1) (rr 2) 36 uu 13]) (va_A ([hO b, cO b (nI n) (nI k), lO b, oQ (cY 2) (b 3) (rr 1) 6, gI (cY 0) (rr 1) 6 fW 6, oQ (cY 3) (b 5) (rr 2) 13, gJ (cY 1) (rr 2) 36 fR 13] : List va_W).flatten sz)) 0 0 (va_A ([hO b, cO b (nI n) (nI k), lO b, oQ (cY 2) (b 3) (rr 1) 6, gI (cY 0) (rr 1) 6 fW 6, oQ (cY 3) (b 5) (rr 2) 13, gJ (cY 1) (rr 2) 36 fR 13] : List va_W).flatten sz) := by
  refine mtB (Qc := fun A => qL (S := (Nat → Nat → Int64)) D cY (fun r uu => r = lN (PL g n k i t w)) (fun uu => [hO b, cO b (nI n) (nI k), lO b, oQ (cY 2) (b 3) (rr 1) 6, gI (cY 0) (rr 1) 6 fW 6, oQ (cY 3) (b 5) (rr 2) 13, gJ (cY 1) (rr 2) 36 uu 13]) A) (cc := cX8_law) (maxL := 4) (ret := (some .long)) (by decide) rfl (Nat.le_of_ble_eq_true rfl) ?_
  intro p e s m below meth c A ls hx hb hr hml hts hown hlocks hnm hsz hP hK hVK hD hS hA hl
  have hown : s.vm.findClass RX8 = some m.cls := hown
  have hl : lv_has ls 4 [(0, .ref (b 0)), (1, .int (nI i)), (2, .int (nI t)), (3, .int (nI w))] := hl
  have hP : va_P D vwCl ([hO b, cO b (nI n) (nI k), lO b, oQ (cY 2) (b 3) (rr 1) 6, gI (cY 0) (rr 1) 6 fW 6, oQ (cY 3) (b 5) (rr 2) 13, gJ (cY 1) (rr 2) 36 fR 13] : List va_W).flatten s.heap := hP
  have hD : va_D A ([hO b, cO b (nI n) (nI k), lO b, oQ (cY 2) (b 3) (rr 1) 6, gI (cY 0) (rr 1) 6 fW 6, oQ (cY 3) (b 5) (rr 2) 13, gJ (cY 1) (rr 2) 36 fR 13] : List va_W).flatten := hD
  refine lv_aload_n hx hb dX8_law_0 rfl (lv_at hl 0 rfl) ?_
  refine lv_iload_n hx hb dX8_law_1 rfl (lv_at hl 1 rfl) ?_
  refine ca_v (CL := [hO b, cO b (nI n) (nI k)]) (va_runV (As := [.int (nI i)]) (rest := []) ⟨hx, hb, hml, hown, hts⟩ (c_X8_needState_ok l D cY s.heap.size b n k i (by omega) (by omega) (by omega) (by omega) (by omega)) (cwV 1 hts gX8_law_X8_needState rfl rfl rfl (by decide +kernel) ⟨Nat.le_of_ble_eq_true rfl, Nat.le_of_ble_eq_true rfl⟩) (b_preV hVK hP hD [0, 1] rfl rfl 0 rfl rfl) rfl rfl hl.1 rfl (lv_room (Nat.le_of_ble_eq_true rfl)) dX8_law_2 ⟨Nat.le_refl _, Nat.le_refl _⟩) hP hD hS hA [0, 1] rfl rfl (fun _ => rfl) (fun uu H locs hq hP hD hS => ?_)
  have hP : va_P D vwCl ([hO b, cO b (nI n) (nI k), lO b, oQ (cY 2) (b 3) (rr 1) 6, gI (cY 0) (rr 1) 6 fW 6, oQ (cY 3) (b 5) (rr 2) 13, gJ (cY 1) (rr 2) 36 fR 13] : List va_W).flatten H := hP
  have hD : va_D A ([hO b, cO b (nI n) (nI k), lO b, oQ (cY 2) (b 3) (rr 1) 6, gI (cY 0) (rr 1) 6 fW 6, oQ (cY 3) (b 5) (rr 2) 13, gJ (cY 1) (rr 2) 36 fR 13] : List va_W).flatten := hD
  refine lv_aload_n hx hb dX8_law_5 rfl (lv_at hl 0 rfl) ?_
  refine lv_iload_n hx hb dX8_law_6 rfl (lv_at hl 3 rfl) ?_
  refine ca_v (CL := [hO b, cO b (nI n) (nI k)]) (va_runV (As := [.int (nI w)]) (rest := []) ⟨hx, hb, hml, hown, hts⟩ (c_X8_needState_ok l D cY H.size b n k w (by omega) (by omega) (by omega) (by omega) (by omega)) (cwV 1 hts gX8_law_X8_needState rfl rfl rfl (by decide +kernel) ⟨Nat.le_of_ble_eq_true rfl, Nat.le_of_ble_eq_true rfl⟩) (b_preV hVK hP hD [0, 1] rfl rfl 0 rfl rfl) rfl rfl hl.1 rfl (lv_room (Nat.le_of_ble_eq_true rfl)) dX8_law_7 ⟨Nat.le_refl _, Nat.le_refl _⟩) hP hD hS hA [0, 1] rfl rfl (fun _ => rfl) (fun uu H locs hq hP hD hS => ?_)
  have hP : va_P D vwCl ([hO b, cO b (nI n) (nI k), lO b, oQ (cY 2) (b 3) (rr 1) 6, gI (cY 0) (rr 1) 6 fW 6, oQ (cY 3) (b 5) (rr 2) 13, gJ (cY 1) (rr 2) 36 fR 13] : List va_W).flatten H := hP
  have hD : va_D A ([hO b, cO b (nI n) (nI k), lO b, oQ (cY 2) (b 3) (rr 1) 6, gI (cY 0) (rr 1) 6 fW 6, oQ (cY 3) (b 5) (rr 2) 13, gJ (cY 1) (rr 2) 36 fR 13] : List va_W).flatten := hD
  refine lv_iload_n hx hb dX8_law_10 rfl (lv_at hl 2 rfl) ?_
  refine lv_iconst (v := nI 0) hx hb dX8_law_11 (by decide) ?_
  refine lv_bipush (v := nI 12) hx hb dX8_law_12 (by decide) ?_
  refine ca_v (CL := []) (va_runS (As := [.int (nI t), .int (nI 0), .int (nI 12)]) (rest := []) ⟨hx, hb, hml, hown, hts⟩ (c_X8_needRange_ok l D cY H.size (nI t) (nI 0) (nI 12) (inR_t (by omega) (by omega) (by omega))) (va_cwS 3 hts gX8_law_X8_needRange rfl rfl rfl (by decide +kernel) ⟨Nat.le_of_ble_eq_true rfl, Nat.le_of_ble_eq_true rfl⟩) (b_preS hVK hP hD [] rfl rfl) rfl rfl hl.1 rfl (lv_room (Nat.le_of_ble_eq_true rfl)) dX8_law_14 ⟨Nat.le_refl _, Nat.le_refl _⟩) hP hD hS hA [] rfl rfl (fun _ => rfl) (fun uu H locs hq hP hD hS => ?_)
  have hP : va_P D vwCl ([hO b, cO b (nI n) (nI k), lO b, oQ (cY 2) (b 3) (rr 1) 6, gI (cY 0) (rr 1) 6 fW 6, oQ (cY 3) (b 5) (rr 2) 13, gJ (cY 1) (rr 2) 36 fR 13] : List va_W).flatten H := hP
  have hD : va_D A ([hO b, cO b (nI n) (nI k), lO b, oQ (cY 2) (b 3) (rr 1) 6, gI (cY 0) (rr 1) 6 fW 6, oQ (cY 3) (b 5) (rr 2) 13, gJ (cY 1) (rr 2) 36 fR 13] : List va_W).flatten := hD
  refine lv_aload_n hx hb dX8_law_17 rfl (lv_at hl 0 rfl) ?_
  refine b_get (ci := 8) (v := .ref (b 4)) (C := RX8) (T := TX8) (N := 8) hx hb hts (by decide +kernel) hown hK hP 0 rfl rfl 1 (by decide) (hts (.fieldLink RX8 21 "ChanceHall" "laws" "LChanceHall$Laws;") (by decide +kernel)) (fun _ h9 => h9) rfl dX8_law_18 ?_
  refine lv_iload_n hx hb dX8_law_21 rfl (lv_at hl 1 rfl) ?_
  refine lv_iload_n hx hb dX8_law_22 rfl (lv_at hl 2 rfl) ?_
  refine lv_iload_n hx hb dX8_law_23 rfl (lv_at hl 3 rfl) ?_
  refine ca_l (CL := [lO b, cO b (nI n) (nI k), oQ (cY 2) (b 3) (rr 1) 6, gI (cY 0) (rr 1) 6 fW 6, oQ (cY 3) (b 5) (rr 2) 13, gJ (cY 1) (rr 2) 36 fR 13]) (va_runV (As := [.int (nI i), .int (nI t), .int (nI w)]) (rest := []) ⟨hx, hb, hml, hown, hts⟩ (c_X5_countLaw l D cY H.size b rr n k fW fR g i t w (by omega) (by omega) (by omega) (by omega) hW (by omega) (by omega) (by omega)) (cwV 3 hts gX8_law_X5_countLaw rfl rfl rfl (by decide +kernel) ⟨Nat.le_of_ble_eq_true rfl, Nat.le_of_ble_eq_true rfl⟩) (b_preV hVK hP hD [2, 1, 3, 4, 5, 6] rfl rfl 2 rfl rfl) rfl rfl hl.1 rfl (lv_room (Nat.le_of_ble_eq_true rfl)) dX8_law_24 ⟨Nat.le_refl _, Nat.le_refl _⟩) hP hD hS hA [2, 1, 3, 4, 5, 6] rfl rfl (fun _ => rfl) (fun r24 uu H locs hq hP hD hS => ?_)
  obtain ⟨fR1_1, rfl⟩ : ∃ z, z = uu := ⟨_, rfl⟩
  try dsimp only at hq
  subst hq
  have hP : va_P D vwCl ([hO b, cO b (nI n) (nI k), lO b, oQ (cY 2) (b 3) (rr 1) 6, gI (cY 0) (rr 1) 6 fW 6, oQ (cY 3) (b 5) (rr 2) 13, gJ (cY 1) (rr 2) 36 fR1_1 13] : List va_W).flatten H := hP
  have hD : va_D A ([hO b, cO b (nI n) (nI k), lO b, oQ (cY 2) (b 3) (rr 1) 6, gI (cY 0) (rr 1) 6 fW 6, oQ (cY 3) (b 5) (rr 2) 13, gJ (cY 1) (rr 2) 36 fR1_1 13] : List va_W).flatten := hD
  exact r_l hx hb hr hlocks hP hD hS fR1_1 rfl (rfl) dX8_law_27

set_option maxHeartbeats 4000000 in
set_option maxRecDepth 100000 in
theorem c_X8_lawAnew_ok (l : Launch) (D : va_G) (cY : Nat → ClassId) (sz : Nat) (b : Nat → Nat) (rr : Nat → Nat → Nat) (n : Nat) (k : Nat) (fG : Nat → Nat → Int32) (g : Nat → Nat → Nat) (i : Nat) (t : Nat) (w : Nat) (hn1 : 1 ≤ n) (hn6 : n ≤ 6) (hk1 : 1 ≤ k) (hk12 : k ≤ 12) (hG : ∀ i j, i < n → j < k → fG i j = nI (g i j)) (hgn : ∀ i j, i < n → j < k → g i j < n) (hi : i < n) (hw : w < n) (ht4 : t ≤ 4) : Met l yX8_lawAnew wsX8_lawAnew ({ frames := 6, cells := 0, slots := 0, locals := 240 }) (cP D cY [.ref (b 0), .int (nI i), .int (nI t), .int (nI w)] [hO b, cO b (nI n) (nI k), oQ (cY 2) (b 2) (rr 0) 6, gI (cY 0) (rr 0) 12 fG 6] sz) (qL (S := Unit) D cY (fun r uu => r = lN (RW g k w t i)) (fun uu => [hO b, cO b (nI n) (nI k), oQ (cY 2) (b 2) (rr 0) 6, gI (cY 0) (rr 0) 12 fG 6]) (va_A ([hO b, cO b (nI n) (nI k), oQ (cY 2) (b 2) (rr 0) 6, gI (cY 0) (rr 0) 12 fG 6] : List va_W).flatten sz)) 0 0 (va_A ([hO b, cO b (nI n) (nI k), oQ (cY 2) (b 2) (rr 0) 6, gI (cY 0) (rr 0) 12 fG 6] : List va_W).flatten sz) := by
  refine mtB (Qc := fun A => qL (S := Unit) D cY (fun r uu => r = lN (RW g k w t i)) (fun uu => [hO b, cO b (nI n) (nI k), oQ (cY 2) (b 2) (rr 0) 6, gI (cY 0) (rr 0) 12 fG 6]) A) (cc := cX8_lawAnew) (maxL := 4) (ret := (some .long)) (by decide) rfl (Nat.le_of_ble_eq_true rfl) ?_
  intro p e s m below meth c A ls hx hb hr hml hts hown hlocks hnm hsz hP hK hVK hD hS hA hl
  have hown : s.vm.findClass RX8 = some m.cls := hown
  have hl : lv_has ls 4 [(0, .ref (b 0)), (1, .int (nI i)), (2, .int (nI t)), (3, .int (nI w))] := hl
  have hP : va_P D vwCl ([hO b, cO b (nI n) (nI k), oQ (cY 2) (b 2) (rr 0) 6, gI (cY 0) (rr 0) 12 fG 6] : List va_W).flatten s.heap := hP
  have hD : va_D A ([hO b, cO b (nI n) (nI k), oQ (cY 2) (b 2) (rr 0) 6, gI (cY 0) (rr 0) 12 fG 6] : List va_W).flatten := hD
  refine lv_aload_n hx hb dX8_lawAnew_0 rfl (lv_at hl 0 rfl) ?_
  refine lv_iload_n hx hb dX8_lawAnew_1 rfl (lv_at hl 1 rfl) ?_
  refine ca_v (CL := [hO b, cO b (nI n) (nI k)]) (va_runV (As := [.int (nI i)]) (rest := []) ⟨hx, hb, hml, hown, hts⟩ (c_X8_needState_ok l D cY s.heap.size b n k i (by omega) (by omega) (by omega) (by omega) (by omega)) (cwV 1 hts gX8_lawAnew_X8_needState rfl rfl rfl (by decide +kernel) ⟨Nat.le_of_ble_eq_true rfl, Nat.le_of_ble_eq_true rfl⟩) (b_preV hVK hP hD [0, 1] rfl rfl 0 rfl rfl) rfl rfl hl.1 rfl (lv_room (Nat.le_of_ble_eq_true rfl)) dX8_lawAnew_2 ⟨Nat.le_refl _, Nat.le_refl _⟩) hP hD hS hA [0, 1] rfl rfl (fun _ => rfl) (fun uu H locs hq hP hD hS => ?_)
  have hP : va_P D vwCl ([hO b, cO b (nI n) (nI k), oQ (cY 2) (b 2) (rr 0) 6, gI (cY 0) (rr 0) 12 fG 6] : List va_W).flatten H := hP
  have hD : va_D A ([hO b, cO b (nI n) (nI k), oQ (cY 2) (b 2) (rr 0) 6, gI (cY 0) (rr 0) 12 fG 6] : List va_W).flatten := hD
  refine lv_aload_n hx hb dX8_lawAnew_5 rfl (lv_at hl 0 rfl) ?_
  refine lv_iload_n hx hb dX8_lawAnew_6 rfl (lv_at hl 3 rfl) ?_
  refine ca_v (CL := [hO b, cO b (nI n) (nI k)]) (va_runV (As := [.int (nI w)]) (rest := []) ⟨hx, hb, hml, hown, hts⟩ (c_X8_needState_ok l D cY H.size b n k w (by omega) (by omega) (by omega) (by omega) (by omega)) (cwV 1 hts gX8_lawAnew_X8_needState rfl rfl rfl (by decide +kernel) ⟨Nat.le_of_ble_eq_true rfl, Nat.le_of_ble_eq_true rfl⟩) (b_preV hVK hP hD [0, 1] rfl rfl 0 rfl rfl) rfl rfl hl.1 rfl (lv_room (Nat.le_of_ble_eq_true rfl)) dX8_lawAnew_7 ⟨Nat.le_refl _, Nat.le_refl _⟩) hP hD hS hA [0, 1] rfl rfl (fun _ => rfl) (fun uu H locs hq hP hD hS => ?_)
  have hP : va_P D vwCl ([hO b, cO b (nI n) (nI k), oQ (cY 2) (b 2) (rr 0) 6, gI (cY 0) (rr 0) 12 fG 6] : List va_W).flatten H := hP
  have hD : va_D A ([hO b, cO b (nI n) (nI k), oQ (cY 2) (b 2) (rr 0) 6, gI (cY 0) (rr 0) 12 fG 6] : List va_W).flatten := hD
  refine lv_iload_n hx hb dX8_lawAnew_10 rfl (lv_at hl 2 rfl) ?_
  refine lv_iconst (v := nI 0) hx hb dX8_lawAnew_11 (by decide) ?_
  refine lv_iconst (v := nI 4) hx hb dX8_lawAnew_12 (by decide) ?_
  refine ca_v (CL := []) (va_runS (As := [.int (nI t), .int (nI 0), .int (nI 4)]) (rest := []) ⟨hx, hb, hml, hown, hts⟩ (c_X8_needRange_ok l D cY H.size (nI t) (nI 0) (nI 4) (inR_t (by omega) (by omega) (by omega))) (va_cwS 3 hts gX8_lawAnew_X8_needRange rfl rfl rfl (by decide +kernel) ⟨Nat.le_of_ble_eq_true rfl, Nat.le_of_ble_eq_true rfl⟩) (b_preS hVK hP hD [] rfl rfl) rfl rfl hl.1 rfl (lv_room (Nat.le_of_ble_eq_true rfl)) dX8_lawAnew_13 ⟨Nat.le_refl _, Nat.le_refl _⟩) hP hD hS hA [] rfl rfl (fun _ => rfl) (fun uu H locs hq hP hD hS => ?_)
  have hP : va_P D vwCl ([hO b, cO b (nI n) (nI k), oQ (cY 2) (b 2) (rr 0) 6, gI (cY 0) (rr 0) 12 fG 6] : List va_W).flatten H := hP
  have hD : va_D A ([hO b, cO b (nI n) (nI k), oQ (cY 2) (b 2) (rr 0) 6, gI (cY 0) (rr 0) 12 fG 6] : List va_W).flatten := hD
  refine lv_aload_n hx hb dX8_lawAnew_16 rfl (lv_at hl 0 rfl) ?_
  refine b_get (ci := 8) (v := .ref (b 1)) (C := RX8) (T := TX8) (N := 8) hx hb hts (by decide +kernel) hown hK hP 0 rfl rfl 0 (by decide) (hts (.fieldLink RX8 10 "ChanceHall" "chain" "LChanceHall$Chain;") (by decide +kernel)) (fun _ h9 => h9) rfl dX8_lawAnew_17 ?_
  refine lv_iload_n hx hb dX8_lawAnew_20 rfl (lv_at hl 1 rfl) ?_
  refine lv_iload_n hx hb dX8_lawAnew_21 rfl (lv_at hl 2 rfl) ?_
  refine lv_iload_n hx hb dX8_lawAnew_22 rfl (lv_at hl 3 rfl) ?_
  refine ca_l (CL := [cO b (nI n) (nI k), oQ (cY 2) (b 2) (rr 0) 6, gI (cY 0) (rr 0) 12 fG 6]) (va_runS (As := [.ref (b 1), .int (nI i), .int (nI t), .int (nI w)]) (rest := []) ⟨hx, hb, hml, hown, hts⟩ (c_X8_goThroughWords l D cY H.size b rr n k fG g w i t (by omega) (by omega) (by omega) (by omega) hG hgn (by omega) (by omega) (by omega)) (va_cwS 4 hts gX8_lawAnew_X8_goThroughWords rfl rfl rfl (by decide +kernel) ⟨by show t + 1 ≤ 6; omega, by show 8 + (7 + 11) + 40 * t ≤ 240; omega⟩) (b_preS hVK hP hD [1, 2, 3] rfl rfl) rfl rfl hl.1 rfl (lv_room (Nat.le_of_ble_eq_true rfl)) dX8_lawAnew_23 ⟨Nat.le_refl _, Nat.le_refl _⟩) hP hD hS hA [1, 2, 3] rfl rfl (fun _ => rfl) (fun r23 uu H locs hq hP hD hS => ?_)
  subst hq
  have hP : va_P D vwCl ([hO b, cO b (nI n) (nI k), oQ (cY 2) (b 2) (rr 0) 6, gI (cY 0) (rr 0) 12 fG 6] : List va_W).flatten H := hP
  have hD : va_D A ([hO b, cO b (nI n) (nI k), oQ (cY 2) (b 2) (rr 0) 6, gI (cY 0) (rr 0) 12 fG 6] : List va_W).flatten := hD
  exact r_l hx hb hr hlocks hP hD hS () rfl (rfl) dX8_lawAnew_26

set_option maxHeartbeats 4000000 in
set_option maxRecDepth 100000 in
theorem c_X8_distance_ok (l : Launch) (D : va_G) (cY : Nat → ClassId) (sz : Nat) (b : Nat → Nat) (rr : Nat → Nat → Nat) (n : Nat) (k : Nat) (fW : Nat → Nat → Int32) (fR : Nat → Nat → Int64) (g : Nat → Nat → Nat) (i : Nat) (w : Nat) (t : Nat) (hn1 : 1 ≤ n) (hn6 : n ≤ 6) (hk1 : 1 ≤ k) (hk12 : k ≤ 12) (hgn : ∀ i j, i < n → j < k → g i j < n) (hW : ∀ i j, i < n → j < n → fW i j = nI (cnt (g i) j k)) (hi : i < n) (hw : w < n) (ht : t ≤ 12) : Met l yX8_distance wsX8_distance ({ frames := 3, cells := 0, slots := 0, locals := 120 }) (cP D cY [.ref (b 0), .int (nI i), .int (nI w), .int (nI t)] [hO b, cO b (nI n) (nI k), lO b, oQ (cY 2) (b 3) (rr 1) 6, gI (cY 0) (rr 1) 6 fW 6, oQ (cY 3) (b 5) (rr 2) 13, gJ (cY 1) (rr 2) 36 fR 13] sz) (qL (S := (Nat → Nat → Int64)) D cY (fun r uu => r = lN (dst (PL g n k i t) (PL g n k w t) n)) (fun uu => [hO b, cO b (nI n) (nI k), lO b, oQ (cY 2) (b 3) (rr 1) 6, gI (cY 0) (rr 1) 6 fW 6, oQ (cY 3) (b 5) (rr 2) 13, gJ (cY 1) (rr 2) 36 uu 13]) (va_A ([hO b, cO b (nI n) (nI k), lO b, oQ (cY 2) (b 3) (rr 1) 6, gI (cY 0) (rr 1) 6 fW 6, oQ (cY 3) (b 5) (rr 2) 13, gJ (cY 1) (rr 2) 36 fR 13] : List va_W).flatten sz)) 0 0 (va_A ([hO b, cO b (nI n) (nI k), lO b, oQ (cY 2) (b 3) (rr 1) 6, gI (cY 0) (rr 1) 6 fW 6, oQ (cY 3) (b 5) (rr 2) 13, gJ (cY 1) (rr 2) 36 fR 13] : List va_W).flatten sz) := by
  refine mtB (Qc := fun A => qL (S := (Nat → Nat → Int64)) D cY (fun r uu => r = lN (dst (PL g n k i t) (PL g n k w t) n)) (fun uu => [hO b, cO b (nI n) (nI k), lO b, oQ (cY 2) (b 3) (rr 1) 6, gI (cY 0) (rr 1) 6 fW 6, oQ (cY 3) (b 5) (rr 2) 13, gJ (cY 1) (rr 2) 36 uu 13]) A) (cc := cX8_distance) (maxL := 4) (ret := (some .long)) (by decide) rfl (Nat.le_of_ble_eq_true rfl) ?_
  intro p e s m below meth c A ls hx hb hr hml hts hown hlocks hnm hsz hP hK hVK hD hS hA hl
  have hown : s.vm.findClass RX8 = some m.cls := hown
  have hl : lv_has ls 4 [(0, .ref (b 0)), (1, .int (nI i)), (2, .int (nI w)), (3, .int (nI t))] := hl
  have hP : va_P D vwCl ([hO b, cO b (nI n) (nI k), lO b, oQ (cY 2) (b 3) (rr 1) 6, gI (cY 0) (rr 1) 6 fW 6, oQ (cY 3) (b 5) (rr 2) 13, gJ (cY 1) (rr 2) 36 fR 13] : List va_W).flatten s.heap := hP
  have hD : va_D A ([hO b, cO b (nI n) (nI k), lO b, oQ (cY 2) (b 3) (rr 1) 6, gI (cY 0) (rr 1) 6 fW 6, oQ (cY 3) (b 5) (rr 2) 13, gJ (cY 1) (rr 2) 36 fR 13] : List va_W).flatten := hD
  refine lv_aload_n hx hb dX8_distance_0 rfl (lv_at hl 0 rfl) ?_
  refine lv_iload_n hx hb dX8_distance_1 rfl (lv_at hl 1 rfl) ?_
  refine ca_v (CL := [hO b, cO b (nI n) (nI k)]) (va_runV (As := [.int (nI i)]) (rest := []) ⟨hx, hb, hml, hown, hts⟩ (c_X8_needState_ok l D cY s.heap.size b n k i (by omega) (by omega) (by omega) (by omega) (by omega)) (cwV 1 hts gX8_distance_X8_needState rfl rfl rfl (by decide +kernel) ⟨Nat.le_of_ble_eq_true rfl, Nat.le_of_ble_eq_true rfl⟩) (b_preV hVK hP hD [0, 1] rfl rfl 0 rfl rfl) rfl rfl hl.1 rfl (lv_room (Nat.le_of_ble_eq_true rfl)) dX8_distance_2 ⟨Nat.le_refl _, Nat.le_refl _⟩) hP hD hS hA [0, 1] rfl rfl (fun _ => rfl) (fun uu H locs hq hP hD hS => ?_)
  have hP : va_P D vwCl ([hO b, cO b (nI n) (nI k), lO b, oQ (cY 2) (b 3) (rr 1) 6, gI (cY 0) (rr 1) 6 fW 6, oQ (cY 3) (b 5) (rr 2) 13, gJ (cY 1) (rr 2) 36 fR 13] : List va_W).flatten H := hP
  have hD : va_D A ([hO b, cO b (nI n) (nI k), lO b, oQ (cY 2) (b 3) (rr 1) 6, gI (cY 0) (rr 1) 6 fW 6, oQ (cY 3) (b 5) (rr 2) 13, gJ (cY 1) (rr 2) 36 fR 13] : List va_W).flatten := hD
  refine lv_aload_n hx hb dX8_distance_5 rfl (lv_at hl 0 rfl) ?_
  refine lv_iload_n hx hb dX8_distance_6 rfl (lv_at hl 2 rfl) ?_
  refine ca_v (CL := [hO b, cO b (nI n) (nI k)]) (va_runV (As := [.int (nI w)]) (rest := []) ⟨hx, hb, hml, hown, hts⟩ (c_X8_needState_ok l D cY H.size b n k w (by omega) (by omega) (by omega) (by omega) (by omega)) (cwV 1 hts gX8_distance_X8_needState rfl rfl rfl (by decide +kernel) ⟨Nat.le_of_ble_eq_true rfl, Nat.le_of_ble_eq_true rfl⟩) (b_preV hVK hP hD [0, 1] rfl rfl 0 rfl rfl) rfl rfl hl.1 rfl (lv_room (Nat.le_of_ble_eq_true rfl)) dX8_distance_7 ⟨Nat.le_refl _, Nat.le_refl _⟩) hP hD hS hA [0, 1] rfl rfl (fun _ => rfl) (fun uu H locs hq hP hD hS => ?_)
  have hP : va_P D vwCl ([hO b, cO b (nI n) (nI k), lO b, oQ (cY 2) (b 3) (rr 1) 6, gI (cY 0) (rr 1) 6 fW 6, oQ (cY 3) (b 5) (rr 2) 13, gJ (cY 1) (rr 2) 36 fR 13] : List va_W).flatten H := hP
  have hD : va_D A ([hO b, cO b (nI n) (nI k), lO b, oQ (cY 2) (b 3) (rr 1) 6, gI (cY 0) (rr 1) 6 fW 6, oQ (cY 3) (b 5) (rr 2) 13, gJ (cY 1) (rr 2) 36 fR 13] : List va_W).flatten := hD
  refine lv_iload_n hx hb dX8_distance_10 rfl (lv_at hl 3 rfl) ?_
  refine lv_iconst (v := nI 0) hx hb dX8_distance_11 (by decide) ?_
  refine lv_bipush (v := nI 12) hx hb dX8_distance_12 (by decide) ?_
  refine ca_v (CL := []) (va_runS (As := [.int (nI t), .int (nI 0), .int (nI 12)]) (rest := []) ⟨hx, hb, hml, hown, hts⟩ (c_X8_needRange_ok l D cY H.size (nI t) (nI 0) (nI 12) (inR_t (by omega) (by omega) (by omega))) (va_cwS 3 hts gX8_distance_X8_needRange rfl rfl rfl (by decide +kernel) ⟨Nat.le_of_ble_eq_true rfl, Nat.le_of_ble_eq_true rfl⟩) (b_preS hVK hP hD [] rfl rfl) rfl rfl hl.1 rfl (lv_room (Nat.le_of_ble_eq_true rfl)) dX8_distance_14 ⟨Nat.le_refl _, Nat.le_refl _⟩) hP hD hS hA [] rfl rfl (fun _ => rfl) (fun uu H locs hq hP hD hS => ?_)
  have hP : va_P D vwCl ([hO b, cO b (nI n) (nI k), lO b, oQ (cY 2) (b 3) (rr 1) 6, gI (cY 0) (rr 1) 6 fW 6, oQ (cY 3) (b 5) (rr 2) 13, gJ (cY 1) (rr 2) 36 fR 13] : List va_W).flatten H := hP
  have hD : va_D A ([hO b, cO b (nI n) (nI k), lO b, oQ (cY 2) (b 3) (rr 1) 6, gI (cY 0) (rr 1) 6 fW 6, oQ (cY 3) (b 5) (rr 2) 13, gJ (cY 1) (rr 2) 36 fR 13] : List va_W).flatten := hD
  refine lv_aload_n hx hb dX8_distance_17 rfl (lv_at hl 0 rfl) ?_
  refine b_get (ci := 8) (v := .ref (b 4)) (C := RX8) (T := TX8) (N := 8) hx hb hts (by decide +kernel) hown hK hP 0 rfl rfl 1 (by decide) (hts (.fieldLink RX8 21 "ChanceHall" "laws" "LChanceHall$Laws;") (by decide +kernel)) (fun _ h9 => h9) rfl dX8_distance_18 ?_
  refine lv_iload_n hx hb dX8_distance_21 rfl (lv_at hl 3 rfl) ?_
  refine ca_v (CL := [lO b, cO b (nI n) (nI k), oQ (cY 2) (b 3) (rr 1) 6, gI (cY 0) (rr 1) 6 fW 6, oQ (cY 3) (b 5) (rr 2) 13, gJ (cY 1) (rr 2) 36 fR 13]) (va_runV (As := [.int (nI t)]) (rest := []) ⟨hx, hb, hml, hown, hts⟩ (c_X5_countLaws l D cY H.size b rr n k fW fR g t (by omega) (by omega) (by omega) (by omega) hW (by omega)) (cwV 1 hts gX8_distance_X5_countLaws rfl rfl rfl (by decide +kernel) ⟨Nat.le_of_ble_eq_true rfl, Nat.le_of_ble_eq_true rfl⟩) (b_preV hVK hP hD [2, 1, 3, 4, 5, 6] rfl rfl 2 rfl rfl) rfl rfl hl.1 rfl (lv_room (Nat.le_of_ble_eq_true rfl)) dX8_distance_22 ⟨Nat.le_refl _, Nat.le_refl _⟩) hP hD hS hA [2, 1, 3, 4, 5, 6] rfl rfl (fun _ => rfl) (fun uu H locs hq hP hD hS => ?_)
  obtain ⟨fR1_1, rfl⟩ : ∃ z, z = uu := ⟨_, rfl⟩
  try dsimp only at hq
  have q22 := hq
  have hP : va_P D vwCl ([hO b, cO b (nI n) (nI k), lO b, oQ (cY 2) (b 3) (rr 1) 6, gI (cY 0) (rr 1) 6 fW 6, oQ (cY 3) (b 5) (rr 2) 13, gJ (cY 1) (rr 2) 36 fR1_1 13] : List va_W).flatten H := hP
  have hD : va_D A ([hO b, cO b (nI n) (nI k), lO b, oQ (cY 2) (b 3) (rr 1) 6, gI (cY 0) (rr 1) 6 fW 6, oQ (cY 3) (b 5) (rr 2) 13, gJ (cY 1) (rr 2) 36 fR1_1 13] : List va_W).flatten := hD
  refine lv_aload_n hx hb dX8_distance_25 rfl (lv_at hl 0 rfl) ?_
  refine b_get (ci := 8) (v := .ref (b 4)) (C := RX8) (T := TX8) (N := 8) hx hb hts (by decide +kernel) hown hK hP 0 rfl rfl 1 (by decide) (hts (.fieldLink RX8 21 "ChanceHall" "laws" "LChanceHall$Laws;") (by decide +kernel)) (fun _ h9 => h9) rfl dX8_distance_26 ?_
  refine lv_iload_n hx hb dX8_distance_29 rfl (lv_at hl 1 rfl) ?_
  refine lv_iload_n hx hb dX8_distance_30 rfl (lv_at hl 2 rfl) ?_
  refine lv_iload_n hx hb dX8_distance_31 rfl (lv_at hl 3 rfl) ?_
  refine ca_l (CL := [lO b, cO b (nI n) (nI k), oQ (cY 3) (b 5) (rr 2) 13, gJ (cY 1) (rr 2) 36 fR1_1 13]) (va_runV (As := [.int (nI i), .int (nI w), .int (nI t)]) (rest := []) ⟨hx, hb, hml, hown, hts⟩ (c_X5_distanceBehind l D cY H.size b rr n k fR1_1 g i w t (by omega) (by omega) (by omega) (by omega) hgn (fun i j hi hj => q22 t (by omega) i j hi hj) (by omega) (by omega) (by omega)) (cwV 3 hts gX8_distance_X5_distanceBehind rfl rfl rfl (by decide +kernel) ⟨Nat.le_of_ble_eq_true rfl, Nat.le_of_ble_eq_true rfl⟩) (b_preV hVK hP hD [2, 1, 5, 6] rfl rfl 2 rfl rfl) rfl rfl hl.1 rfl (lv_room (Nat.le_of_ble_eq_true rfl)) dX8_distance_32 ⟨Nat.le_refl _, Nat.le_refl _⟩) hP hD hS hA [2, 1, 5, 6] rfl rfl (fun _ => rfl) (fun r32 uu H locs hq hP hD hS => ?_)
  subst hq
  have hP : va_P D vwCl ([hO b, cO b (nI n) (nI k), lO b, oQ (cY 2) (b 3) (rr 1) 6, gI (cY 0) (rr 1) 6 fW 6, oQ (cY 3) (b 5) (rr 2) 13, gJ (cY 1) (rr 2) 36 fR1_1 13] : List va_W).flatten H := hP
  have hD : va_D A ([hO b, cO b (nI n) (nI k), lO b, oQ (cY 2) (b 3) (rr 1) 6, gI (cY 0) (rr 1) 6 fW 6, oQ (cY 3) (b 5) (rr 2) 13, gJ (cY 1) (rr 2) 36 fR1_1 13] : List va_W).flatten := hD
  exact r_l hx hb hr hlocks hP hD hS fR1_1 rfl (rfl) dX8_distance_35

set_option maxHeartbeats 4000000 in
set_option maxRecDepth 100000 in
theorem c_X8_mixing_ok (l : Launch) (D : va_G) (cY : Nat → ClassId) (sz : Nat) (b : Nat → Nat) (rr : Nat → Nat → Nat) (n : Nat) (k : Nat) (fW : Nat → Nat → Int32) (fR : Nat → Nat → Int64) (g : Nat → Nat → Nat) (th2 : Nat) (hn1 : 1 ≤ n) (hn6 : n ≤ 6) (hk1 : 1 ≤ k) (hk12 : k ≤ 12) (hgn : ∀ i j, i < n → j < k → g i j < n) (hW : ∀ i j, i < n → j < n → fW i j = nI (cnt (g i) j k)) (hth : th2 ≤ 1000) : Met l yX8_mixing wsX8_mixing ({ frames := 3, cells := 0, slots := 0, locals := 120 }) (cP D cY [.ref (b 0), .int (nI th2)] [hO b, cO b (nI n) (nI k), lO b, oQ (cY 2) (b 3) (rr 1) 6, gI (cY 0) (rr 1) 6 fW 6, oQ (cY 3) (b 5) (rr 2) 13, gJ (cY 1) (rr 2) 36 fR 13] sz) (qI (S := (Nat → Nat → Int64)) D cY (fun r uu => r = mxs (mixA g n k th2) 13 0) (fun uu => [hO b, cO b (nI n) (nI k), lO b, oQ (cY 2) (b 3) (rr 1) 6, gI (cY 0) (rr 1) 6 fW 6, oQ (cY 3) (b 5) (rr 2) 13, gJ (cY 1) (rr 2) 36 uu 13]) (va_A ([hO b, cO b (nI n) (nI k), lO b, oQ (cY 2) (b 3) (rr 1) 6, gI (cY 0) (rr 1) 6 fW 6, oQ (cY 3) (b 5) (rr 2) 13, gJ (cY 1) (rr 2) 36 fR 13] : List va_W).flatten sz)) 0 0 (va_A ([hO b, cO b (nI n) (nI k), lO b, oQ (cY 2) (b 3) (rr 1) 6, gI (cY 0) (rr 1) 6 fW 6, oQ (cY 3) (b 5) (rr 2) 13, gJ (cY 1) (rr 2) 36 fR 13] : List va_W).flatten sz) := by
  refine mtB (Qc := fun A => qI (S := (Nat → Nat → Int64)) D cY (fun r uu => r = mxs (mixA g n k th2) 13 0) (fun uu => [hO b, cO b (nI n) (nI k), lO b, oQ (cY 2) (b 3) (rr 1) 6, gI (cY 0) (rr 1) 6 fW 6, oQ (cY 3) (b 5) (rr 2) 13, gJ (cY 1) (rr 2) 36 uu 13]) A) (cc := cX8_mixing) (maxL := 3) (ret := (some .int)) (by decide) rfl (Nat.le_of_ble_eq_true rfl) ?_
  intro p e s m below meth c A ls hx hb hr hml hts hown hlocks hnm hsz hP hK hVK hD hS hA hl
  have hown : s.vm.findClass RX8 = some m.cls := hown
  have hl : lv_has ls 3 [(0, .ref (b 0)), (1, .int (nI th2))] := hl
  have hP : va_P D vwCl ([hO b, cO b (nI n) (nI k), lO b, oQ (cY 2) (b 3) (rr 1) 6, gI (cY 0) (rr 1) 6 fW 6, oQ (cY 3) (b 5) (rr 2) 13, gJ (cY 1) (rr 2) 36 fR 13] : List va_W).flatten s.heap := hP
  have hD : va_D A ([hO b, cO b (nI n) (nI k), lO b, oQ (cY 2) (b 3) (rr 1) 6, gI (cY 0) (rr 1) 6 fW 6, oQ (cY 3) (b 5) (rr 2) 13, gJ (cY 1) (rr 2) 36 fR 13] : List va_W).flatten := hD
  refine lv_iload_n hx hb dX8_mixing_0 rfl (lv_at hl 1 rfl) ?_
  refine lv_iconst (v := nI 0) hx hb dX8_mixing_1 (by decide) ?_
  refine lv_sipush (v := nI 1000) hx hb dX8_mixing_2 (by decide) ?_
  refine ca_v (CL := []) (va_runS (As := [.int (nI th2), .int (nI 0), .int (nI 1000)]) (rest := []) ⟨hx, hb, hml, hown, hts⟩ (c_X8_needRange_ok l D cY s.heap.size (nI th2) (nI 0) (nI 1000) (inR_t (by omega) (by omega) (by omega))) (va_cwS 3 hts gX8_mixing_X8_needRange rfl rfl rfl (by decide +kernel) ⟨Nat.le_of_ble_eq_true rfl, Nat.le_of_ble_eq_true rfl⟩) (b_preS hVK hP hD [] rfl rfl) rfl rfl hl.1 rfl (lv_room (Nat.le_of_ble_eq_true rfl)) dX8_mixing_5 ⟨Nat.le_refl _, Nat.le_refl _⟩) hP hD hS hA [] rfl rfl (fun _ => rfl) (fun uu H locs hq hP hD hS => ?_)
  have hP : va_P D vwCl ([hO b, cO b (nI n) (nI k), lO b, oQ (cY 2) (b 3) (rr 1) 6, gI (cY 0) (rr 1) 6 fW 6, oQ (cY 3) (b 5) (rr 2) 13, gJ (cY 1) (rr 2) 36 fR 13] : List va_W).flatten H := hP
  have hD : va_D A ([hO b, cO b (nI n) (nI k), lO b, oQ (cY 2) (b 3) (rr 1) 6, gI (cY 0) (rr 1) 6 fW 6, oQ (cY 3) (b 5) (rr 2) 13, gJ (cY 1) (rr 2) 36 fR 13] : List va_W).flatten := hD
  refine lv_aload_n hx hb dX8_mixing_8 rfl (lv_at hl 0 rfl) ?_
  refine b_get (ci := 8) (v := .ref (b 4)) (C := RX8) (T := TX8) (N := 8) hx hb hts (by decide +kernel) hown hK hP 0 rfl rfl 1 (by decide) (hts (.fieldLink RX8 21 "ChanceHall" "laws" "LChanceHall$Laws;") (by decide +kernel)) (fun _ h9 => h9) rfl dX8_mixing_9 ?_
  refine lv_bipush (v := nI 12) hx hb dX8_mixing_12 (by decide) ?_
  refine ca_v (CL := [lO b, cO b (nI n) (nI k), oQ (cY 2) (b 3) (rr 1) 6, gI (cY 0) (rr 1) 6 fW 6, oQ (cY 3) (b 5) (rr 2) 13, gJ (cY 1) (rr 2) 36 fR 13]) (va_runV (As := [.int (nI 12)]) (rest := []) ⟨hx, hb, hml, hown, hts⟩ (c_X5_countLaws l D cY H.size b rr n k fW fR g 12 (by omega) (by omega) (by omega) (by omega) hW (by omega)) (cwV 1 hts gX8_mixing_X5_countLaws rfl rfl rfl (by decide +kernel) ⟨Nat.le_of_ble_eq_true rfl, Nat.le_of_ble_eq_true rfl⟩) (b_preV hVK hP hD [2, 1, 3, 4, 5, 6] rfl rfl 2 rfl rfl) rfl rfl hl.1 rfl (lv_room (Nat.le_of_ble_eq_true rfl)) dX8_mixing_14 ⟨Nat.le_refl _, Nat.le_refl _⟩) hP hD hS hA [2, 1, 3, 4, 5, 6] rfl rfl (fun _ => rfl) (fun uu H locs hq hP hD hS => ?_)
  obtain ⟨fR1_1, rfl⟩ : ∃ z, z = uu := ⟨_, rfl⟩
  try dsimp only at hq
  have q14 := hq
  have hP : va_P D vwCl ([hO b, cO b (nI n) (nI k), lO b, oQ (cY 2) (b 3) (rr 1) 6, gI (cY 0) (rr 1) 6 fW 6, oQ (cY 3) (b 5) (rr 2) 13, gJ (cY 1) (rr 2) 36 fR1_1 13] : List va_W).flatten H := hP
  have hD : va_D A ([hO b, cO b (nI n) (nI k), lO b, oQ (cY 2) (b 3) (rr 1) 6, gI (cY 0) (rr 1) 6 fW 6, oQ (cY 3) (b 5) (rr 2) 13, gJ (cY 1) (rr 2) 36 fR1_1 13] : List va_W).flatten := hD
  refine lv_iconst (v := nI 0) hx hb dX8_mixing_17 (by decide) ?_
  refine lv_istore_n (lv' := [(2, .int (nI 0)), (0, .ref (b 0)), (1, .int (nI th2))]) hx hb dX8_mixing_18 rfl hl (by decide) rfl (fun ls hl => ?_)
  have L19 : ∀ q : Nat, q ≤ 13 →  (mxs (mixA g n k th2) (13 - q) q = mxs (mixA g n k th2) 13 0) → ∀ (H : Heap) (locs : List Loc), va_P D vwCl ([hO b, cO b (nI n) (nI k), lO b, oQ (cY 2) (b 3) (rr 1) 6, gI (cY 0) (rr 1) 6 fW 6, oQ (cY 3) (b 5) (rr 2) 13, gJ (cY 1) (rr 2) 36 fR1_1 13] : List va_W).flatten H → va_D A ([hO b, cO b (nI n) (nI k), lO b, oQ (cY 2) (b 3) (rr 1) 6, gI (cY 0) (rr 1) 6 fW 6, oQ (cY 3) (b 5) (rr 2) 13, gJ (cY 1) (rr 2) 36 fR1_1 13] : List va_W).flatten → va_S A s.heap H locs → ∀ (ls : Array Slot), lv_has ls 3 [(0, .ref (b 0)), (1, .int (nI th2)), (2, .int (nI q))] → W p l e ({ frames := 3, cells := 0, slots := 0, locals := 120 }) s m ([.ref (b 0), .int (nI th2)] : List Value).toArray below meth c H locs 0 0 (MQ below (qI (S := (Nat → Nat → Int64)) D cY (fun r uu => r = mxs (mixA g n k th2) 13 0) (fun uu => [hO b, cO b (nI n) (nI k), lO b, oQ (cY 2) (b 3) (rr 1) 6, gI (cY 0) (rr 1) 6 fW 6, oQ (cY 3) (b 5) (rr 2) 13, gJ (cY 1) (rr 2) 36 uu 13]) A) ([.ref (b 0), .int (nI th2)] : List Value).toArray s 0 0 A) (F0 m 19 ls []) := by
    refine lpW 13 ?_
    intro q bdq ih19  hI H locs hP hD hS ls hl
    refine lv_iload_n hx hb dX8_mixing_19 rfl (lv_at hl 2 rfl) ?_
    refine lv_bipush (v := nI 12) hx hb dX8_mixing_20 (by decide) ?_
    refine n_icmp_gt (tgt := 45) hx hb dX8_mixing_22 (by decide) (by omega) (by omega) (fun h22 => ?_) (fun h22 => ?_)
    · -- t
      refine lv_iconst (v := (-1)) hx hb dX8_mixing_45 (by decide) ?_
      exact r_i hx hb hr hlocks hP hD hS fR1_1 rfl (by rw [← hI, mxs_e (by omega)]) dX8_mixing_46
    · -- f
      refine lv_aload_n hx hb dX8_mixing_25 rfl (lv_at hl 0 rfl) ?_
      refine b_get (ci := 8) (v := .ref (b 4)) (C := RX8) (T := TX8) (N := 8) hx hb hts (by decide +kernel) hown hK hP 0 rfl rfl 1 (by decide) (hts (.fieldLink RX8 21 "ChanceHall" "laws" "LChanceHall$Laws;") (by decide +kernel)) (fun _ h9 => h9) rfl dX8_mixing_26 ?_
      refine lv_iload_n hx hb dX8_mixing_29 rfl (lv_at hl 1 rfl) ?_
      refine lv_iload_n hx hb dX8_mixing_30 rfl (lv_at hl 2 rfl) ?_
      refine ca_i (CL := [lO b, cO b (nI n) (nI k), oQ (cY 3) (b 5) (rr 2) 13, gJ (cY 1) (rr 2) 36 fR1_1 13]) (va_runV (As := [.int (nI th2), .int (nI q)]) (rest := []) ⟨hx, hb, hml, hown, hts⟩ (c_X5_isMixed l D cY H.size b rr n k fR1_1 g th2 q (by omega) (by omega) (by omega) (by omega) hgn (fun i j hi hj => q14 q (by omega) i j hi hj) (by omega) (by omega)) (cwV 2 hts gX8_mixing_X5_isMixed rfl rfl rfl (by decide +kernel) ⟨Nat.le_of_ble_eq_true rfl, Nat.le_of_ble_eq_true rfl⟩) (b_preV hVK hP hD [2, 1, 5, 6] rfl rfl 2 rfl rfl) rfl rfl hl.1 rfl (lv_room (Nat.le_of_ble_eq_true rfl)) dX8_mixing_31 ⟨Nat.le_refl _, Nat.le_refl _⟩) hP hD hS hA [2, 1, 5, 6] rfl rfl (fun _ => rfl) (fun r31 uu H locs hq hP hD hS => ?_)
      subst hq
      have hP : va_P D vwCl ([hO b, cO b (nI n) (nI k), lO b, oQ (cY 2) (b 3) (rr 1) 6, gI (cY 0) (rr 1) 6 fW 6, oQ (cY 3) (b 5) (rr 2) 13, gJ (cY 1) (rr 2) 36 fR1_1 13] : List va_W).flatten H := hP
      have hD : va_D A ([hO b, cO b (nI n) (nI k), lO b, oQ (cY 2) (b 3) (rr 1) 6, gI (cY 0) (rr 1) 6 fW 6, oQ (cY 3) (b 5) (rr 2) 13, gJ (cY 1) (rr 2) 36 fR1_1 13] : List va_W).flatten := hD
      refine b_if_eq (tgt := 39) hx hb dX8_mixing_34 (by decide) (fun h34 => ?_) (fun h34 => ?_)
      · -- t
        refine lv_iinc (v := nI (q + 1)) (lv' := [(2, .int (nI (q + 1))), (0, .ref (b 0)), (1, .int (nI th2))]) hx hb dX8_mixing_39 hl (k := 2) rfl (nI_1 q) (by decide) rfl (fun ls hl => ?_)
        refine lv_goto (tgt := 19) hx hb dX8_mixing_42 (by decide) ?_
        exact ih19 (by omega)  (by rw [← mxs_f (by omega) h34]; exact hI) _ _ hP hD hS _ (lv_sub hl [1, 2, 0] rfl)
      · -- f
        refine lv_iload_n hx hb dX8_mixing_37 rfl (lv_at hl 2 rfl) ?_
        exact r_i hx hb hr hlocks hP hD hS fR1_1 rfl (by rw [← hI, mxs_t (by omega) h34]) dX8_mixing_38
  exact L19 0 (by omega)  rfl _ _ hP hD hS _ (lv_sub hl [1, 2, 0] rfl)

set_option maxHeartbeats 4000000 in
set_option maxRecDepth 100000 in
theorem c_X8_apart_ok (l : Launch) (D : va_G) (cY : Nat → ClassId) (sz : Nat) (b : Nat → Nat) (rr : Nat → Nat → Nat) (n : Nat) (k : Nat) (fG : Nat → Nat → Int32) (fA : Nat → Nat → Int64) (g : Nat → Nat → Nat) (i : Nat) (w : Nat) (t : Nat) (hn1 : 1 ≤ n) (hn6 : n ≤ 6) (hk1 : 1 ≤ k) (hk12 : k ≤ 12) (hG : ∀ i j, i < n → j < k → fG i j = nI (g i j)) (hgn : ∀ i j, i < n → j < k → g i j < n) (hi : i < n) (hw : w < n) (ht : t ≤ 12) : Met l yX8_apart wsX8_apart ({ frames := 3, cells := 0, slots := 0, locals := 120 }) (cP D cY [.ref (b 0), .int (nI i), .int (nI w), .int (nI t)] [hO b, cO b (nI n) (nI k), kO b, oQ (cY 2) (b 2) (rr 0) 6, gI (cY 0) (rr 0) 12 fG 6, oQ (cY 3) (b 8) (rr 4) 13, gJ (cY 1) (rr 4) 36 fA 13] sz) (qL (S := (Nat → Nat → Int64)) D cY (fun r uu => r = lN (AB g k t i w)) (fun uu => [hO b, cO b (nI n) (nI k), kO b, oQ (cY 2) (b 2) (rr 0) 6, gI (cY 0) (rr 0) 12 fG 6, oQ (cY 3) (b 8) (rr 4) 13, gJ (cY 1) (rr 4) 36 uu 13]) (va_A ([hO b, cO b (nI n) (nI k), kO b, oQ (cY 2) (b 2) (rr 0) 6, gI (cY 0) (rr 0) 12 fG 6, oQ (cY 3) (b 8) (rr 4) 13, gJ (cY 1) (rr 4) 36 fA 13] : List va_W).flatten sz)) 0 0 (va_A ([hO b, cO b (nI n) (nI k), kO b, oQ (cY 2) (b 2) (rr 0) 6, gI (cY 0) (rr 0) 12 fG 6, oQ (cY 3) (b 8) (rr 4) 13, gJ (cY 1) (rr 4) 36 fA 13] : List va_W).flatten sz) := by
  refine mtB (Qc := fun A => qL (S := (Nat → Nat → Int64)) D cY (fun r uu => r = lN (AB g k t i w)) (fun uu => [hO b, cO b (nI n) (nI k), kO b, oQ (cY 2) (b 2) (rr 0) 6, gI (cY 0) (rr 0) 12 fG 6, oQ (cY 3) (b 8) (rr 4) 13, gJ (cY 1) (rr 4) 36 uu 13]) A) (cc := cX8_apart) (maxL := 4) (ret := (some .long)) (by decide) rfl (Nat.le_of_ble_eq_true rfl) ?_
  intro p e s m below meth c A ls hx hb hr hml hts hown hlocks hnm hsz hP hK hVK hD hS hA hl
  have hown : s.vm.findClass RX8 = some m.cls := hown
  have hl : lv_has ls 4 [(0, .ref (b 0)), (1, .int (nI i)), (2, .int (nI w)), (3, .int (nI t))] := hl
  have hP : va_P D vwCl ([hO b, cO b (nI n) (nI k), kO b, oQ (cY 2) (b 2) (rr 0) 6, gI (cY 0) (rr 0) 12 fG 6, oQ (cY 3) (b 8) (rr 4) 13, gJ (cY 1) (rr 4) 36 fA 13] : List va_W).flatten s.heap := hP
  have hD : va_D A ([hO b, cO b (nI n) (nI k), kO b, oQ (cY 2) (b 2) (rr 0) 6, gI (cY 0) (rr 0) 12 fG 6, oQ (cY 3) (b 8) (rr 4) 13, gJ (cY 1) (rr 4) 36 fA 13] : List va_W).flatten := hD
  refine lv_aload_n hx hb dX8_apart_0 rfl (lv_at hl 0 rfl) ?_
  refine lv_iload_n hx hb dX8_apart_1 rfl (lv_at hl 1 rfl) ?_
  refine ca_v (CL := [hO b, cO b (nI n) (nI k)]) (va_runV (As := [.int (nI i)]) (rest := []) ⟨hx, hb, hml, hown, hts⟩ (c_X8_needState_ok l D cY s.heap.size b n k i (by omega) (by omega) (by omega) (by omega) (by omega)) (cwV 1 hts gX8_apart_X8_needState rfl rfl rfl (by decide +kernel) ⟨Nat.le_of_ble_eq_true rfl, Nat.le_of_ble_eq_true rfl⟩) (b_preV hVK hP hD [0, 1] rfl rfl 0 rfl rfl) rfl rfl hl.1 rfl (lv_room (Nat.le_of_ble_eq_true rfl)) dX8_apart_2 ⟨Nat.le_refl _, Nat.le_refl _⟩) hP hD hS hA [0, 1] rfl rfl (fun _ => rfl) (fun uu H locs hq hP hD hS => ?_)
  have hP : va_P D vwCl ([hO b, cO b (nI n) (nI k), kO b, oQ (cY 2) (b 2) (rr 0) 6, gI (cY 0) (rr 0) 12 fG 6, oQ (cY 3) (b 8) (rr 4) 13, gJ (cY 1) (rr 4) 36 fA 13] : List va_W).flatten H := hP
  have hD : va_D A ([hO b, cO b (nI n) (nI k), kO b, oQ (cY 2) (b 2) (rr 0) 6, gI (cY 0) (rr 0) 12 fG 6, oQ (cY 3) (b 8) (rr 4) 13, gJ (cY 1) (rr 4) 36 fA 13] : List va_W).flatten := hD
  refine lv_aload_n hx hb dX8_apart_5 rfl (lv_at hl 0 rfl) ?_
  refine lv_iload_n hx hb dX8_apart_6 rfl (lv_at hl 2 rfl) ?_
  refine ca_v (CL := [hO b, cO b (nI n) (nI k)]) (va_runV (As := [.int (nI w)]) (rest := []) ⟨hx, hb, hml, hown, hts⟩ (c_X8_needState_ok l D cY H.size b n k w (by omega) (by omega) (by omega) (by omega) (by omega)) (cwV 1 hts gX8_apart_X8_needState rfl rfl rfl (by decide +kernel) ⟨Nat.le_of_ble_eq_true rfl, Nat.le_of_ble_eq_true rfl⟩) (b_preV hVK hP hD [0, 1] rfl rfl 0 rfl rfl) rfl rfl hl.1 rfl (lv_room (Nat.le_of_ble_eq_true rfl)) dX8_apart_7 ⟨Nat.le_refl _, Nat.le_refl _⟩) hP hD hS hA [0, 1] rfl rfl (fun _ => rfl) (fun uu H locs hq hP hD hS => ?_)
  have hP : va_P D vwCl ([hO b, cO b (nI n) (nI k), kO b, oQ (cY 2) (b 2) (rr 0) 6, gI (cY 0) (rr 0) 12 fG 6, oQ (cY 3) (b 8) (rr 4) 13, gJ (cY 1) (rr 4) 36 fA 13] : List va_W).flatten H := hP
  have hD : va_D A ([hO b, cO b (nI n) (nI k), kO b, oQ (cY 2) (b 2) (rr 0) 6, gI (cY 0) (rr 0) 12 fG 6, oQ (cY 3) (b 8) (rr 4) 13, gJ (cY 1) (rr 4) 36 fA 13] : List va_W).flatten := hD
  refine lv_iload_n hx hb dX8_apart_10 rfl (lv_at hl 3 rfl) ?_
  refine lv_iconst (v := nI 0) hx hb dX8_apart_11 (by decide) ?_
  refine lv_bipush (v := nI 12) hx hb dX8_apart_12 (by decide) ?_
  refine ca_v (CL := []) (va_runS (As := [.int (nI t), .int (nI 0), .int (nI 12)]) (rest := []) ⟨hx, hb, hml, hown, hts⟩ (c_X8_needRange_ok l D cY H.size (nI t) (nI 0) (nI 12) (inR_t (by omega) (by omega) (by omega))) (va_cwS 3 hts gX8_apart_X8_needRange rfl rfl rfl (by decide +kernel) ⟨Nat.le_of_ble_eq_true rfl, Nat.le_of_ble_eq_true rfl⟩) (b_preS hVK hP hD [] rfl rfl) rfl rfl hl.1 rfl (lv_room (Nat.le_of_ble_eq_true rfl)) dX8_apart_14 ⟨Nat.le_refl _, Nat.le_refl _⟩) hP hD hS hA [] rfl rfl (fun _ => rfl) (fun uu H locs hq hP hD hS => ?_)
  have hP : va_P D vwCl ([hO b, cO b (nI n) (nI k), kO b, oQ (cY 2) (b 2) (rr 0) 6, gI (cY 0) (rr 0) 12 fG 6, oQ (cY 3) (b 8) (rr 4) 13, gJ (cY 1) (rr 4) 36 fA 13] : List va_W).flatten H := hP
  have hD : va_D A ([hO b, cO b (nI n) (nI k), kO b, oQ (cY 2) (b 2) (rr 0) 6, gI (cY 0) (rr 0) 12 fG 6, oQ (cY 3) (b 8) (rr 4) 13, gJ (cY 1) (rr 4) 36 fA 13] : List va_W).flatten := hD
  refine lv_aload_n hx hb dX8_apart_17 rfl (lv_at hl 0 rfl) ?_
  refine b_get (ci := 8) (v := .ref (b 7)) (C := RX8) (T := TX8) (N := 8) hx hb hts (by decide +kernel) hown hK hP 0 rfl rfl 2 (by decide) (hts (.fieldLink RX8 28 "ChanceHall" "crowds" "LChanceHall$Crowds;") (by decide +kernel)) (fun _ h9 => h9) rfl dX8_apart_18 ?_
  refine lv_iload_n hx hb dX8_apart_21 rfl (lv_at hl 1 rfl) ?_
  refine lv_iload_n hx hb dX8_apart_22 rfl (lv_at hl 2 rfl) ?_
  refine lv_iload_n hx hb dX8_apart_23 rfl (lv_at hl 3 rfl) ?_
  refine ca_l (CL := [kO b, cO b (nI n) (nI k), oQ (cY 2) (b 2) (rr 0) 6, gI (cY 0) (rr 0) 12 fG 6, oQ (cY 3) (b 8) (rr 4) 13, gJ (cY 1) (rr 4) 36 fA 13]) (va_runV (As := [.int (nI i), .int (nI w), .int (nI t)]) (rest := []) ⟨hx, hb, hml, hown, hts⟩ (c_X2_countApart l D cY H.size b rr n k fG fA g i w t (by omega) (by omega) (by omega) (by omega) hG hgn (by omega) (by omega) (by omega)) (cwV 3 hts gX8_apart_X2_countApart rfl rfl rfl (by decide +kernel) ⟨Nat.le_of_ble_eq_true rfl, Nat.le_of_ble_eq_true rfl⟩) (b_preV hVK hP hD [2, 1, 3, 4, 5, 6] rfl rfl 2 rfl rfl) rfl rfl hl.1 rfl (lv_room (Nat.le_of_ble_eq_true rfl)) dX8_apart_24 ⟨Nat.le_refl _, Nat.le_refl _⟩) hP hD hS hA [2, 1, 3, 4, 5, 6] rfl rfl (fun _ => rfl) (fun r24 uu H locs hq hP hD hS => ?_)
  obtain ⟨fA1_1, rfl⟩ : ∃ z, z = uu := ⟨_, rfl⟩
  try dsimp only at hq
  subst hq
  have hP : va_P D vwCl ([hO b, cO b (nI n) (nI k), kO b, oQ (cY 2) (b 2) (rr 0) 6, gI (cY 0) (rr 0) 12 fG 6, oQ (cY 3) (b 8) (rr 4) 13, gJ (cY 1) (rr 4) 36 fA1_1 13] : List va_W).flatten H := hP
  have hD : va_D A ([hO b, cO b (nI n) (nI k), kO b, oQ (cY 2) (b 2) (rr 0) 6, gI (cY 0) (rr 0) 12 fG 6, oQ (cY 3) (b 8) (rr 4) 13, gJ (cY 1) (rr 4) 36 fA1_1 13] : List va_W).flatten := hD
  exact r_l hx hb hr hlocks hP hD hS fA1_1 rfl (rfl) dX8_apart_27

set_option maxHeartbeats 4000000 in
set_option maxRecDepth 100000 in
theorem c_X8_together_ok (l : Launch) (D : va_G) (cY : Nat → ClassId) (sz : Nat) (b : Nat → Nat) (rr : Nat → Nat → Nat) (n : Nat) (k : Nat) (fG : Nat → Nat → Int32) (fS : Nat → Nat → Int64) (g : Nat → Nat → Nat) (t : Nat) (w : Nat) (hn1 : 1 ≤ n) (hn6 : n ≤ 6) (hk1 : 1 ≤ k) (hk12 : k ≤ 12) (hG : ∀ i j, i < n → j < k → fG i j = nI (g i j)) (hgn : ∀ i j, i < n → j < k → g i j < n) (ht : t ≤ 12) (hw : w < n) : Met l yX8_together wsX8_together ({ frames := 3, cells := 0, slots := 0, locals := 120 }) (cP D cY [.ref (b 0), .int (nI t), .int (nI w)] [hO b, cO b (nI n) (nI k), kO b, oQ (cY 2) (b 2) (rr 0) 6, gI (cY 0) (rr 0) 12 fG 6, oQ (cY 3) (b 9) (rr 5) 13, gJ (cY 1) (rr 5) 64 fS 13] sz) (qL (S := (Nat → Nat → Int64)) D cY (fun r uu => r = lN (PL (ig g n) 64 k (2 ^ n - 1) t (2 ^ w))) (fun uu => [hO b, cO b (nI n) (nI k), kO b, oQ (cY 2) (b 2) (rr 0) 6, gI (cY 0) (rr 0) 12 fG 6, oQ (cY 3) (b 9) (rr 5) 13, gJ (cY 1) (rr 5) 64 uu 13]) (va_A ([hO b, cO b (nI n) (nI k), kO b, oQ (cY 2) (b 2) (rr 0) 6, gI (cY 0) (rr 0) 12 fG 6, oQ (cY 3) (b 9) (rr 5) 13, gJ (cY 1) (rr 5) 64 fS 13] : List va_W).flatten sz)) 0 0 (va_A ([hO b, cO b (nI n) (nI k), kO b, oQ (cY 2) (b 2) (rr 0) 6, gI (cY 0) (rr 0) 12 fG 6, oQ (cY 3) (b 9) (rr 5) 13, gJ (cY 1) (rr 5) 64 fS 13] : List va_W).flatten sz) := by
  refine mtB (Qc := fun A => qL (S := (Nat → Nat → Int64)) D cY (fun r uu => r = lN (PL (ig g n) 64 k (2 ^ n - 1) t (2 ^ w))) (fun uu => [hO b, cO b (nI n) (nI k), kO b, oQ (cY 2) (b 2) (rr 0) 6, gI (cY 0) (rr 0) 12 fG 6, oQ (cY 3) (b 9) (rr 5) 13, gJ (cY 1) (rr 5) 64 uu 13]) A) (cc := cX8_together) (maxL := 3) (ret := (some .long)) (by decide) rfl (Nat.le_of_ble_eq_true rfl) ?_
  intro p e s m below meth c A ls hx hb hr hml hts hown hlocks hnm hsz hP hK hVK hD hS hA hl
  have hown : s.vm.findClass RX8 = some m.cls := hown
  have hl : lv_has ls 3 [(0, .ref (b 0)), (1, .int (nI t)), (2, .int (nI w))] := hl
  have hP : va_P D vwCl ([hO b, cO b (nI n) (nI k), kO b, oQ (cY 2) (b 2) (rr 0) 6, gI (cY 0) (rr 0) 12 fG 6, oQ (cY 3) (b 9) (rr 5) 13, gJ (cY 1) (rr 5) 64 fS 13] : List va_W).flatten s.heap := hP
  have hD : va_D A ([hO b, cO b (nI n) (nI k), kO b, oQ (cY 2) (b 2) (rr 0) 6, gI (cY 0) (rr 0) 12 fG 6, oQ (cY 3) (b 9) (rr 5) 13, gJ (cY 1) (rr 5) 64 fS 13] : List va_W).flatten := hD
  refine lv_aload_n hx hb dX8_together_0 rfl (lv_at hl 0 rfl) ?_
  refine lv_iload_n hx hb dX8_together_1 rfl (lv_at hl 2 rfl) ?_
  refine ca_v (CL := [hO b, cO b (nI n) (nI k)]) (va_runV (As := [.int (nI w)]) (rest := []) ⟨hx, hb, hml, hown, hts⟩ (c_X8_needState_ok l D cY s.heap.size b n k w (by omega) (by omega) (by omega) (by omega) (by omega)) (cwV 1 hts gX8_together_X8_needState rfl rfl rfl (by decide +kernel) ⟨Nat.le_of_ble_eq_true rfl, Nat.le_of_ble_eq_true rfl⟩) (b_preV hVK hP hD [0, 1] rfl rfl 0 rfl rfl) rfl rfl hl.1 rfl (lv_room (Nat.le_of_ble_eq_true rfl)) dX8_together_2 ⟨Nat.le_refl _, Nat.le_refl _⟩) hP hD hS hA [0, 1] rfl rfl (fun _ => rfl) (fun uu H locs hq hP hD hS => ?_)
  have hP : va_P D vwCl ([hO b, cO b (nI n) (nI k), kO b, oQ (cY 2) (b 2) (rr 0) 6, gI (cY 0) (rr 0) 12 fG 6, oQ (cY 3) (b 9) (rr 5) 13, gJ (cY 1) (rr 5) 64 fS 13] : List va_W).flatten H := hP
  have hD : va_D A ([hO b, cO b (nI n) (nI k), kO b, oQ (cY 2) (b 2) (rr 0) 6, gI (cY 0) (rr 0) 12 fG 6, oQ (cY 3) (b 9) (rr 5) 13, gJ (cY 1) (rr 5) 64 fS 13] : List va_W).flatten := hD
  refine lv_iload_n hx hb dX8_together_5 rfl (lv_at hl 1 rfl) ?_
  refine lv_iconst (v := nI 0) hx hb dX8_together_6 (by decide) ?_
  refine lv_bipush (v := nI 12) hx hb dX8_together_7 (by decide) ?_
  refine ca_v (CL := []) (va_runS (As := [.int (nI t), .int (nI 0), .int (nI 12)]) (rest := []) ⟨hx, hb, hml, hown, hts⟩ (c_X8_needRange_ok l D cY H.size (nI t) (nI 0) (nI 12) (inR_t (by omega) (by omega) (by omega))) (va_cwS 3 hts gX8_together_X8_needRange rfl rfl rfl (by decide +kernel) ⟨Nat.le_of_ble_eq_true rfl, Nat.le_of_ble_eq_true rfl⟩) (b_preS hVK hP hD [] rfl rfl) rfl rfl hl.1 rfl (lv_room (Nat.le_of_ble_eq_true rfl)) dX8_together_9 ⟨Nat.le_refl _, Nat.le_refl _⟩) hP hD hS hA [] rfl rfl (fun _ => rfl) (fun uu H locs hq hP hD hS => ?_)
  have hP : va_P D vwCl ([hO b, cO b (nI n) (nI k), kO b, oQ (cY 2) (b 2) (rr 0) 6, gI (cY 0) (rr 0) 12 fG 6, oQ (cY 3) (b 9) (rr 5) 13, gJ (cY 1) (rr 5) 64 fS 13] : List va_W).flatten H := hP
  have hD : va_D A ([hO b, cO b (nI n) (nI k), kO b, oQ (cY 2) (b 2) (rr 0) 6, gI (cY 0) (rr 0) 12 fG 6, oQ (cY 3) (b 9) (rr 5) 13, gJ (cY 1) (rr 5) 64 fS 13] : List va_W).flatten := hD
  refine lv_aload_n hx hb dX8_together_12 rfl (lv_at hl 0 rfl) ?_
  refine b_get (ci := 8) (v := .ref (b 7)) (C := RX8) (T := TX8) (N := 8) hx hb hts (by decide +kernel) hown hK hP 0 rfl rfl 2 (by decide) (hts (.fieldLink RX8 28 "ChanceHall" "crowds" "LChanceHall$Crowds;") (by decide +kernel)) (fun _ h9 => h9) rfl dX8_together_13 ?_
  refine lv_iload_n hx hb dX8_together_16 rfl (lv_at hl 1 rfl) ?_
  refine lv_iload_n hx hb dX8_together_17 rfl (lv_at hl 2 rfl) ?_
  refine ca_l (CL := [kO b, cO b (nI n) (nI k), oQ (cY 2) (b 2) (rr 0) 6, gI (cY 0) (rr 0) 12 fG 6, oQ (cY 3) (b 9) (rr 5) 13, gJ (cY 1) (rr 5) 64 fS 13]) (va_runV (As := [.int (nI t), .int (nI w)]) (rest := []) ⟨hx, hb, hml, hown, hts⟩ (c_X2_countTogether l D cY H.size b rr n k fG fS g t w (by omega) (by omega) (by omega) (by omega) hG hgn (by omega) (by omega)) (cwV 2 hts gX8_together_X2_countTogether rfl rfl rfl (by decide +kernel) ⟨Nat.le_of_ble_eq_true rfl, Nat.le_of_ble_eq_true rfl⟩) (b_preV hVK hP hD [2, 1, 3, 4, 5, 6] rfl rfl 2 rfl rfl) rfl rfl hl.1 rfl (lv_room (Nat.le_of_ble_eq_true rfl)) dX8_together_18 ⟨Nat.le_refl _, Nat.le_refl _⟩) hP hD hS hA [2, 1, 3, 4, 5, 6] rfl rfl (fun _ => rfl) (fun r18 uu H locs hq hP hD hS => ?_)
  obtain ⟨fS1_1, rfl⟩ : ∃ z, z = uu := ⟨_, rfl⟩
  try dsimp only at hq
  subst hq
  have hP : va_P D vwCl ([hO b, cO b (nI n) (nI k), kO b, oQ (cY 2) (b 2) (rr 0) 6, gI (cY 0) (rr 0) 12 fG 6, oQ (cY 3) (b 9) (rr 5) 13, gJ (cY 1) (rr 5) 64 fS1_1 13] : List va_W).flatten H := hP
  have hD : va_D A ([hO b, cO b (nI n) (nI k), kO b, oQ (cY 2) (b 2) (rr 0) 6, gI (cY 0) (rr 0) 12 fG 6, oQ (cY 3) (b 9) (rr 5) 13, gJ (cY 1) (rr 5) 64 fS1_1 13] : List va_W).flatten := hD
  exact r_l hx hb hr hlocks hP hD hS fS1_1 rfl (rfl) dX8_together_21

set_option maxHeartbeats 4000000 in
set_option maxRecDepth 100000 in
theorem c_X8_hits_ok (l : Launch) (D : va_G) (cY : Nat → ClassId) (sz : Nat) (b : Nat → Nat) (rr : Nat → Nat → Nat) (n : Nat) (k : Nat) (fW : Nat → Nat → Int32) (fH : Nat → Nat → Int64) (g : Nat → Nat → Nat) (i : Nat) (t : Nat) (w : Nat) (hn1 : 1 ≤ n) (hn6 : n ≤ 6) (hk1 : 1 ≤ k) (hk12 : k ≤ 12) (hW : ∀ i j, i < n → j < n → fW i j = nI (cnt (g i) j k)) (hi : i < n) (hw : w < n) (ht : t ≤ 12) : Met l yX8_hits wsX8_hits ({ frames := 3, cells := 0, slots := 0, locals := 120 }) (cP D cY [.ref (b 0), .int (nI i), .int (nI t), .int (nI w)] [hO b, cO b (nI n) (nI k), lO b, oQ (cY 2) (b 3) (rr 1) 6, gI (cY 0) (rr 1) 6 fW 6, oQ (cY 3) (b 6) (rr 3) 13, gJ (cY 1) (rr 3) 6 fH 13] sz) (qL (S := (Nat → Nat → Int64)) D cY (fun r uu => r = lN (HB g n k w t i)) (fun uu => [hO b, cO b (nI n) (nI k), lO b, oQ (cY 2) (b 3) (rr 1) 6, gI (cY 0) (rr 1) 6 fW 6, oQ (cY 3) (b 6) (rr 3) 13, gJ (cY 1) (rr 3) 6 uu 13]) (va_A ([hO b, cO b (nI n) (nI k), lO b, oQ (cY 2) (b 3) (rr 1) 6, gI (cY 0) (rr 1) 6 fW 6, oQ (cY 3) (b 6) (rr 3) 13, gJ (cY 1) (rr 3) 6 fH 13] : List va_W).flatten sz)) 0 0 (va_A ([hO b, cO b (nI n) (nI k), lO b, oQ (cY 2) (b 3) (rr 1) 6, gI (cY 0) (rr 1) 6 fW 6, oQ (cY 3) (b 6) (rr 3) 13, gJ (cY 1) (rr 3) 6 fH 13] : List va_W).flatten sz) := by
  refine mtB (Qc := fun A => qL (S := (Nat → Nat → Int64)) D cY (fun r uu => r = lN (HB g n k w t i)) (fun uu => [hO b, cO b (nI n) (nI k), lO b, oQ (cY 2) (b 3) (rr 1) 6, gI (cY 0) (rr 1) 6 fW 6, oQ (cY 3) (b 6) (rr 3) 13, gJ (cY 1) (rr 3) 6 uu 13]) A) (cc := cX8_hits) (maxL := 4) (ret := (some .long)) (by decide) rfl (Nat.le_of_ble_eq_true rfl) ?_
  intro p e s m below meth c A ls hx hb hr hml hts hown hlocks hnm hsz hP hK hVK hD hS hA hl
  have hown : s.vm.findClass RX8 = some m.cls := hown
  have hl : lv_has ls 4 [(0, .ref (b 0)), (1, .int (nI i)), (2, .int (nI t)), (3, .int (nI w))] := hl
  have hP : va_P D vwCl ([hO b, cO b (nI n) (nI k), lO b, oQ (cY 2) (b 3) (rr 1) 6, gI (cY 0) (rr 1) 6 fW 6, oQ (cY 3) (b 6) (rr 3) 13, gJ (cY 1) (rr 3) 6 fH 13] : List va_W).flatten s.heap := hP
  have hD : va_D A ([hO b, cO b (nI n) (nI k), lO b, oQ (cY 2) (b 3) (rr 1) 6, gI (cY 0) (rr 1) 6 fW 6, oQ (cY 3) (b 6) (rr 3) 13, gJ (cY 1) (rr 3) 6 fH 13] : List va_W).flatten := hD
  refine lv_aload_n hx hb dX8_hits_0 rfl (lv_at hl 0 rfl) ?_
  refine lv_iload_n hx hb dX8_hits_1 rfl (lv_at hl 1 rfl) ?_
  refine ca_v (CL := [hO b, cO b (nI n) (nI k)]) (va_runV (As := [.int (nI i)]) (rest := []) ⟨hx, hb, hml, hown, hts⟩ (c_X8_needState_ok l D cY s.heap.size b n k i (by omega) (by omega) (by omega) (by omega) (by omega)) (cwV 1 hts gX8_hits_X8_needState rfl rfl rfl (by decide +kernel) ⟨Nat.le_of_ble_eq_true rfl, Nat.le_of_ble_eq_true rfl⟩) (b_preV hVK hP hD [0, 1] rfl rfl 0 rfl rfl) rfl rfl hl.1 rfl (lv_room (Nat.le_of_ble_eq_true rfl)) dX8_hits_2 ⟨Nat.le_refl _, Nat.le_refl _⟩) hP hD hS hA [0, 1] rfl rfl (fun _ => rfl) (fun uu H locs hq hP hD hS => ?_)
  have hP : va_P D vwCl ([hO b, cO b (nI n) (nI k), lO b, oQ (cY 2) (b 3) (rr 1) 6, gI (cY 0) (rr 1) 6 fW 6, oQ (cY 3) (b 6) (rr 3) 13, gJ (cY 1) (rr 3) 6 fH 13] : List va_W).flatten H := hP
  have hD : va_D A ([hO b, cO b (nI n) (nI k), lO b, oQ (cY 2) (b 3) (rr 1) 6, gI (cY 0) (rr 1) 6 fW 6, oQ (cY 3) (b 6) (rr 3) 13, gJ (cY 1) (rr 3) 6 fH 13] : List va_W).flatten := hD
  refine lv_aload_n hx hb dX8_hits_5 rfl (lv_at hl 0 rfl) ?_
  refine lv_iload_n hx hb dX8_hits_6 rfl (lv_at hl 3 rfl) ?_
  refine ca_v (CL := [hO b, cO b (nI n) (nI k)]) (va_runV (As := [.int (nI w)]) (rest := []) ⟨hx, hb, hml, hown, hts⟩ (c_X8_needState_ok l D cY H.size b n k w (by omega) (by omega) (by omega) (by omega) (by omega)) (cwV 1 hts gX8_hits_X8_needState rfl rfl rfl (by decide +kernel) ⟨Nat.le_of_ble_eq_true rfl, Nat.le_of_ble_eq_true rfl⟩) (b_preV hVK hP hD [0, 1] rfl rfl 0 rfl rfl) rfl rfl hl.1 rfl (lv_room (Nat.le_of_ble_eq_true rfl)) dX8_hits_7 ⟨Nat.le_refl _, Nat.le_refl _⟩) hP hD hS hA [0, 1] rfl rfl (fun _ => rfl) (fun uu H locs hq hP hD hS => ?_)
  have hP : va_P D vwCl ([hO b, cO b (nI n) (nI k), lO b, oQ (cY 2) (b 3) (rr 1) 6, gI (cY 0) (rr 1) 6 fW 6, oQ (cY 3) (b 6) (rr 3) 13, gJ (cY 1) (rr 3) 6 fH 13] : List va_W).flatten H := hP
  have hD : va_D A ([hO b, cO b (nI n) (nI k), lO b, oQ (cY 2) (b 3) (rr 1) 6, gI (cY 0) (rr 1) 6 fW 6, oQ (cY 3) (b 6) (rr 3) 13, gJ (cY 1) (rr 3) 6 fH 13] : List va_W).flatten := hD
  refine lv_iload_n hx hb dX8_hits_10 rfl (lv_at hl 2 rfl) ?_
  refine lv_iconst (v := nI 0) hx hb dX8_hits_11 (by decide) ?_
  refine lv_bipush (v := nI 12) hx hb dX8_hits_12 (by decide) ?_
  refine ca_v (CL := []) (va_runS (As := [.int (nI t), .int (nI 0), .int (nI 12)]) (rest := []) ⟨hx, hb, hml, hown, hts⟩ (c_X8_needRange_ok l D cY H.size (nI t) (nI 0) (nI 12) (inR_t (by omega) (by omega) (by omega))) (va_cwS 3 hts gX8_hits_X8_needRange rfl rfl rfl (by decide +kernel) ⟨Nat.le_of_ble_eq_true rfl, Nat.le_of_ble_eq_true rfl⟩) (b_preS hVK hP hD [] rfl rfl) rfl rfl hl.1 rfl (lv_room (Nat.le_of_ble_eq_true rfl)) dX8_hits_14 ⟨Nat.le_refl _, Nat.le_refl _⟩) hP hD hS hA [] rfl rfl (fun _ => rfl) (fun uu H locs hq hP hD hS => ?_)
  have hP : va_P D vwCl ([hO b, cO b (nI n) (nI k), lO b, oQ (cY 2) (b 3) (rr 1) 6, gI (cY 0) (rr 1) 6 fW 6, oQ (cY 3) (b 6) (rr 3) 13, gJ (cY 1) (rr 3) 6 fH 13] : List va_W).flatten H := hP
  have hD : va_D A ([hO b, cO b (nI n) (nI k), lO b, oQ (cY 2) (b 3) (rr 1) 6, gI (cY 0) (rr 1) 6 fW 6, oQ (cY 3) (b 6) (rr 3) 13, gJ (cY 1) (rr 3) 6 fH 13] : List va_W).flatten := hD
  refine lv_aload_n hx hb dX8_hits_17 rfl (lv_at hl 0 rfl) ?_
  refine b_get (ci := 8) (v := .ref (b 4)) (C := RX8) (T := TX8) (N := 8) hx hb hts (by decide +kernel) hown hK hP 0 rfl rfl 1 (by decide) (hts (.fieldLink RX8 21 "ChanceHall" "laws" "LChanceHall$Laws;") (by decide +kernel)) (fun _ h9 => h9) rfl dX8_hits_18 ?_
  refine lv_iload_n hx hb dX8_hits_21 rfl (lv_at hl 1 rfl) ?_
  refine lv_iload_n hx hb dX8_hits_22 rfl (lv_at hl 2 rfl) ?_
  refine lv_iload_n hx hb dX8_hits_23 rfl (lv_at hl 3 rfl) ?_
  refine ca_l (CL := [lO b, cO b (nI n) (nI k), oQ (cY 2) (b 3) (rr 1) 6, gI (cY 0) (rr 1) 6 fW 6, oQ (cY 3) (b 6) (rr 3) 13, gJ (cY 1) (rr 3) 6 fH 13]) (va_runV (As := [.int (nI i), .int (nI t), .int (nI w)]) (rest := []) ⟨hx, hb, hml, hown, hts⟩ (c_X5_countHits l D cY H.size b rr n k fW fH g i t w (by omega) (by omega) (by omega) (by omega) hW (by omega) (by omega) (by omega)) (cwV 3 hts gX8_hits_X5_countHits rfl rfl rfl (by decide +kernel) ⟨Nat.le_of_ble_eq_true rfl, Nat.le_of_ble_eq_true rfl⟩) (b_preV hVK hP hD [2, 1, 3, 4, 5, 6] rfl rfl 2 rfl rfl) rfl rfl hl.1 rfl (lv_room (Nat.le_of_ble_eq_true rfl)) dX8_hits_24 ⟨Nat.le_refl _, Nat.le_refl _⟩) hP hD hS hA [2, 1, 3, 4, 5, 6] rfl rfl (fun _ => rfl) (fun r24 uu H locs hq hP hD hS => ?_)
  obtain ⟨fH1_1, rfl⟩ : ∃ z, z = uu := ⟨_, rfl⟩
  try dsimp only at hq
  subst hq
  have hP : va_P D vwCl ([hO b, cO b (nI n) (nI k), lO b, oQ (cY 2) (b 3) (rr 1) 6, gI (cY 0) (rr 1) 6 fW 6, oQ (cY 3) (b 6) (rr 3) 13, gJ (cY 1) (rr 3) 6 fH1_1 13] : List va_W).flatten H := hP
  have hD : va_D A ([hO b, cO b (nI n) (nI k), lO b, oQ (cY 2) (b 3) (rr 1) 6, gI (cY 0) (rr 1) 6 fW 6, oQ (cY 3) (b 6) (rr 3) 13, gJ (cY 1) (rr 3) 6 fH1_1 13] : List va_W).flatten := hD
  exact r_l hx hb hr hlocks hP hD hS fH1_1 rfl (rfl) dX8_hits_27

set_option maxHeartbeats 4000000 in
set_option maxRecDepth 100000 in
theorem c_X8_reach_ok (l : Launch) (D : va_G) (cY : Nat → ClassId) (sz : Nat) (b : Nat → Nat) (rr : Nat → Nat → Nat) (n : Nat) (k : Nat) (fW : Nat → Nat → Int32) (g : Nat → Nat → Nat) (i : Nat) (hn1 : 1 ≤ n) (hn6 : n ≤ 6) (hk1 : 1 ≤ k) (hk12 : k ≤ 12) (hW : ∀ i j, i < n → j < n → fW i j = nI (cnt (g i) j k)) (hi : i < n) : Met l yX8_reach wsX8_reach ({ frames := 2, cells := 0, slots := 0, locals := 80 }) (cP D cY [.ref (b 0), .int (nI i)] [hO b, cO b (nI n) (nI k), sO b, oQ (cY 2) (b 3) (rr 1) 6, gI (cY 0) (rr 1) 6 fW 6] sz) (qI (S := Unit) D cY (fun r uu => r = nI (rcA g n k i (n - 1))) (fun uu => [hO b, cO b (nI n) (nI k), sO b, oQ (cY 2) (b 3) (rr 1) 6, gI (cY 0) (rr 1) 6 fW 6]) (va_A ([hO b, cO b (nI n) (nI k), sO b, oQ (cY 2) (b 3) (rr 1) 6, gI (cY 0) (rr 1) 6 fW 6] : List va_W).flatten sz)) 0 0 (va_A ([hO b, cO b (nI n) (nI k), sO b, oQ (cY 2) (b 3) (rr 1) 6, gI (cY 0) (rr 1) 6 fW 6] : List va_W).flatten sz) := by
  refine mtB (Qc := fun A => qI (S := Unit) D cY (fun r uu => r = nI (rcA g n k i (n - 1))) (fun uu => [hO b, cO b (nI n) (nI k), sO b, oQ (cY 2) (b 3) (rr 1) 6, gI (cY 0) (rr 1) 6 fW 6]) A) (cc := cX8_reach) (maxL := 2) (ret := (some .int)) (by decide) rfl (Nat.le_of_ble_eq_true rfl) ?_
  intro p e s m below meth c A ls hx hb hr hml hts hown hlocks hnm hsz hP hK hVK hD hS hA hl
  have hown : s.vm.findClass RX8 = some m.cls := hown
  have hl : lv_has ls 2 [(0, .ref (b 0)), (1, .int (nI i))] := hl
  have hP : va_P D vwCl ([hO b, cO b (nI n) (nI k), sO b, oQ (cY 2) (b 3) (rr 1) 6, gI (cY 0) (rr 1) 6 fW 6] : List va_W).flatten s.heap := hP
  have hD : va_D A ([hO b, cO b (nI n) (nI k), sO b, oQ (cY 2) (b 3) (rr 1) 6, gI (cY 0) (rr 1) 6 fW 6] : List va_W).flatten := hD
  refine lv_aload_n hx hb dX8_reach_0 rfl (lv_at hl 0 rfl) ?_
  refine lv_iload_n hx hb dX8_reach_1 rfl (lv_at hl 1 rfl) ?_
  refine ca_v (CL := [hO b, cO b (nI n) (nI k)]) (va_runV (As := [.int (nI i)]) (rest := []) ⟨hx, hb, hml, hown, hts⟩ (c_X8_needState_ok l D cY s.heap.size b n k i (by omega) (by omega) (by omega) (by omega) (by omega)) (cwV 1 hts gX8_reach_X8_needState rfl rfl rfl (by decide +kernel) ⟨Nat.le_of_ble_eq_true rfl, Nat.le_of_ble_eq_true rfl⟩) (b_preV hVK hP hD [0, 1] rfl rfl 0 rfl rfl) rfl rfl hl.1 rfl (lv_room (Nat.le_of_ble_eq_true rfl)) dX8_reach_2 ⟨Nat.le_refl _, Nat.le_refl _⟩) hP hD hS hA [0, 1] rfl rfl (fun _ => rfl) (fun uu H locs hq hP hD hS => ?_)
  have hP : va_P D vwCl ([hO b, cO b (nI n) (nI k), sO b, oQ (cY 2) (b 3) (rr 1) 6, gI (cY 0) (rr 1) 6 fW 6] : List va_W).flatten H := hP
  have hD : va_D A ([hO b, cO b (nI n) (nI k), sO b, oQ (cY 2) (b 3) (rr 1) 6, gI (cY 0) (rr 1) 6 fW 6] : List va_W).flatten := hD
  refine lv_aload_n hx hb dX8_reach_5 rfl (lv_at hl 0 rfl) ?_
  refine b_get (ci := 8) (v := .ref (b 10)) (C := RX8) (T := TX8) (N := 8) hx hb hts (by decide +kernel) hown hK hP 0 rfl rfl 3 (by decide) (hts (.fieldLink RX8 35 "ChanceHall" "classes" "LChanceHall$Classes;") (by decide +kernel)) (fun _ h9 => h9) rfl dX8_reach_6 ?_
  refine lv_iload_n hx hb dX8_reach_9 rfl (lv_at hl 1 rfl) ?_
  refine ca_i (CL := [sO b, cO b (nI n) (nI k), oQ (cY 2) (b 3) (rr 1) 6, gI (cY 0) (rr 1) 6 fW 6]) (va_runV (As := [.int (nI i)]) (rest := []) ⟨hx, hb, hml, hown, hts⟩ (c_X1_reachedFrom l D cY H.size b rr n k fW g i (by omega) (by omega) (by omega) (by omega) hW (by omega)) (cwV 1 hts gX8_reach_X1_reachedFrom rfl rfl rfl (by decide +kernel) ⟨Nat.le_of_ble_eq_true rfl, Nat.le_of_ble_eq_true rfl⟩) (b_preV hVK hP hD [2, 1, 3, 4] rfl rfl 2 rfl rfl) rfl rfl hl.1 rfl (lv_room (Nat.le_of_ble_eq_true rfl)) dX8_reach_10 ⟨Nat.le_refl _, Nat.le_refl _⟩) hP hD hS hA [2, 1, 3, 4] rfl rfl (fun _ => rfl) (fun r10 uu H locs hq hP hD hS => ?_)
  subst hq
  have hP : va_P D vwCl ([hO b, cO b (nI n) (nI k), sO b, oQ (cY 2) (b 3) (rr 1) 6, gI (cY 0) (rr 1) 6 fW 6] : List va_W).flatten H := hP
  have hD : va_D A ([hO b, cO b (nI n) (nI k), sO b, oQ (cY 2) (b 3) (rr 1) 6, gI (cY 0) (rr 1) 6 fW 6] : List va_W).flatten := hD
  exact r_i hx hb hr hlocks hP hD hS () rfl (rfl) dX8_reach_13

set_option maxHeartbeats 4000000 in
set_option maxRecDepth 100000 in
theorem c_X8_closed_ok (l : Launch) (D : va_G) (cY : Nat → ClassId) (sz : Nat) (b : Nat → Nat) (rr : Nat → Nat → Nat) (n : Nat) (k : Nat) (fW : Nat → Nat → Int32) (g : Nat → Nat → Nat) (hn1 : 1 ≤ n) (hn6 : n ≤ 6) (hk1 : 1 ≤ k) (hk12 : k ≤ 12) (hW : ∀ i j, i < n → j < n → fW i j = nI (cnt (g i) j k)) : Met l yX8_closed wsX8_closed ({ frames := 4, cells := 0, slots := 0, locals := 160 }) (cP D cY [.ref (b 0)] [hO b, cO b (nI n) (nI k), sO b, oQ (cY 2) (b 3) (rr 1) 6, gI (cY 0) (rr 1) 6 fW 6] sz) (qI (S := Unit) D cY (fun r uu => r = nI (nB (lowB g n k) n)) (fun uu => [hO b, cO b (nI n) (nI k), sO b, oQ (cY 2) (b 3) (rr 1) 6, gI (cY 0) (rr 1) 6 fW 6]) (va_A ([hO b, cO b (nI n) (nI k), sO b, oQ (cY 2) (b 3) (rr 1) 6, gI (cY 0) (rr 1) 6 fW 6] : List va_W).flatten sz)) 0 0 (va_A ([hO b, cO b (nI n) (nI k), sO b, oQ (cY 2) (b 3) (rr 1) 6, gI (cY 0) (rr 1) 6 fW 6] : List va_W).flatten sz) := by
  refine mtB (Qc := fun A => qI (S := Unit) D cY (fun r uu => r = nI (nB (lowB g n k) n)) (fun uu => [hO b, cO b (nI n) (nI k), sO b, oQ (cY 2) (b 3) (rr 1) 6, gI (cY 0) (rr 1) 6 fW 6]) A) (cc := cX8_closed) (maxL := 1) (ret := (some .int)) (by decide) rfl (Nat.le_of_ble_eq_true rfl) ?_
  intro p e s m below meth c A ls hx hb hr hml hts hown hlocks hnm hsz hP hK hVK hD hS hA hl
  have hown : s.vm.findClass RX8 = some m.cls := hown
  have hl : lv_has ls 1 [(0, .ref (b 0))] := hl
  have hP : va_P D vwCl ([hO b, cO b (nI n) (nI k), sO b, oQ (cY 2) (b 3) (rr 1) 6, gI (cY 0) (rr 1) 6 fW 6] : List va_W).flatten s.heap := hP
  have hD : va_D A ([hO b, cO b (nI n) (nI k), sO b, oQ (cY 2) (b 3) (rr 1) 6, gI (cY 0) (rr 1) 6 fW 6] : List va_W).flatten := hD
  refine lv_aload_n hx hb dX8_closed_0 rfl (lv_at hl 0 rfl) ?_
  refine b_get (ci := 8) (v := .ref (b 10)) (C := RX8) (T := TX8) (N := 8) hx hb hts (by decide +kernel) hown hK hP 0 rfl rfl 3 (by decide) (hts (.fieldLink RX8 35 "ChanceHall" "classes" "LChanceHall$Classes;") (by decide +kernel)) (fun _ h9 => h9) rfl dX8_closed_1 ?_
  refine ca_i (CL := [sO b, cO b (nI n) (nI k), oQ (cY 2) (b 3) (rr 1) 6, gI (cY 0) (rr 1) 6 fW 6]) (va_runV (As := []) (rest := []) ⟨hx, hb, hml, hown, hts⟩ (c_X1_countClosed l D cY s.heap.size b rr n k fW g (by omega) (by omega) (by omega) (by omega) hW) (cwV 0 hts gX8_closed_X1_countClosed rfl rfl rfl (by decide +kernel) ⟨Nat.le_of_ble_eq_true rfl, Nat.le_of_ble_eq_true rfl⟩) (b_preV hVK hP hD [2, 1, 3, 4] rfl rfl 2 rfl rfl) rfl rfl hl.1 rfl (lv_room (Nat.le_of_ble_eq_true rfl)) dX8_closed_4 ⟨Nat.le_refl _, Nat.le_refl _⟩) hP hD hS hA [2, 1, 3, 4] rfl rfl (fun _ => rfl) (fun r4 uu H locs hq hP hD hS => ?_)
  subst hq
  have hP : va_P D vwCl ([hO b, cO b (nI n) (nI k), sO b, oQ (cY 2) (b 3) (rr 1) 6, gI (cY 0) (rr 1) 6 fW 6] : List va_W).flatten H := hP
  have hD : va_D A ([hO b, cO b (nI n) (nI k), sO b, oQ (cY 2) (b 3) (rr 1) 6, gI (cY 0) (rr 1) 6 fW 6] : List va_W).flatten := hD
  exact r_i hx hb hr hlocks hP hD hS () rfl (rfl) dX8_closed_7

set_option maxHeartbeats 4000000 in
set_option maxRecDepth 100000 in
theorem c_X8_period_ok (l : Launch) (D : va_G) (cY : Nat → ClassId) (sz : Nat) (b : Nat → Nat) (rr : Nat → Nat → Nat) (n : Nat) (k : Nat) (fW : Nat → Nat → Int32) (g : Nat → Nat → Nat) (i : Nat) (hn1 : 1 ≤ n) (hn6 : n ≤ 6) (hk1 : 1 ≤ k) (hk12 : k ≤ 12) (hW : ∀ i j, i < n → j < n → fW i j = nI (cnt (g i) j k)) (hi : i < n) : Met l yX8_period wsX8_period ({ frames := 3, cells := 0, slots := 0, locals := 120 }) (cP D cY [.ref (b 0), .int (nI i)] [hO b, cO b (nI n) (nI k), sO b, oQ (cY 2) (b 3) (rr 1) 6, gI (cY 0) (rr 1) 6 fW 6] sz) (qI (S := Unit) D cY (fun r uu => r = nI (prC g n k i)) (fun uu => [hO b, cO b (nI n) (nI k), sO b, oQ (cY 2) (b 3) (rr 1) 6, gI (cY 0) (rr 1) 6 fW 6]) (va_A ([hO b, cO b (nI n) (nI k), sO b, oQ (cY 2) (b 3) (rr 1) 6, gI (cY 0) (rr 1) 6 fW 6] : List va_W).flatten sz)) 0 0 (va_A ([hO b, cO b (nI n) (nI k), sO b, oQ (cY 2) (b 3) (rr 1) 6, gI (cY 0) (rr 1) 6 fW 6] : List va_W).flatten sz) := by
  refine mtB (Qc := fun A => qI (S := Unit) D cY (fun r uu => r = nI (prC g n k i)) (fun uu => [hO b, cO b (nI n) (nI k), sO b, oQ (cY 2) (b 3) (rr 1) 6, gI (cY 0) (rr 1) 6 fW 6]) A) (cc := cX8_period) (maxL := 2) (ret := (some .int)) (by decide) rfl (Nat.le_of_ble_eq_true rfl) ?_
  intro p e s m below meth c A ls hx hb hr hml hts hown hlocks hnm hsz hP hK hVK hD hS hA hl
  have hown : s.vm.findClass RX8 = some m.cls := hown
  have hl : lv_has ls 2 [(0, .ref (b 0)), (1, .int (nI i))] := hl
  have hP : va_P D vwCl ([hO b, cO b (nI n) (nI k), sO b, oQ (cY 2) (b 3) (rr 1) 6, gI (cY 0) (rr 1) 6 fW 6] : List va_W).flatten s.heap := hP
  have hD : va_D A ([hO b, cO b (nI n) (nI k), sO b, oQ (cY 2) (b 3) (rr 1) 6, gI (cY 0) (rr 1) 6 fW 6] : List va_W).flatten := hD
  refine lv_aload_n hx hb dX8_period_0 rfl (lv_at hl 0 rfl) ?_
  refine lv_iload_n hx hb dX8_period_1 rfl (lv_at hl 1 rfl) ?_
  refine ca_v (CL := [hO b, cO b (nI n) (nI k)]) (va_runV (As := [.int (nI i)]) (rest := []) ⟨hx, hb, hml, hown, hts⟩ (c_X8_needState_ok l D cY s.heap.size b n k i (by omega) (by omega) (by omega) (by omega) (by omega)) (cwV 1 hts gX8_period_X8_needState rfl rfl rfl (by decide +kernel) ⟨Nat.le_of_ble_eq_true rfl, Nat.le_of_ble_eq_true rfl⟩) (b_preV hVK hP hD [0, 1] rfl rfl 0 rfl rfl) rfl rfl hl.1 rfl (lv_room (Nat.le_of_ble_eq_true rfl)) dX8_period_2 ⟨Nat.le_refl _, Nat.le_refl _⟩) hP hD hS hA [0, 1] rfl rfl (fun _ => rfl) (fun uu H locs hq hP hD hS => ?_)
  have hP : va_P D vwCl ([hO b, cO b (nI n) (nI k), sO b, oQ (cY 2) (b 3) (rr 1) 6, gI (cY 0) (rr 1) 6 fW 6] : List va_W).flatten H := hP
  have hD : va_D A ([hO b, cO b (nI n) (nI k), sO b, oQ (cY 2) (b 3) (rr 1) 6, gI (cY 0) (rr 1) 6 fW 6] : List va_W).flatten := hD
  refine lv_aload_n hx hb dX8_period_5 rfl (lv_at hl 0 rfl) ?_
  refine b_get (ci := 8) (v := .ref (b 10)) (C := RX8) (T := TX8) (N := 8) hx hb hts (by decide +kernel) hown hK hP 0 rfl rfl 3 (by decide) (hts (.fieldLink RX8 35 "ChanceHall" "classes" "LChanceHall$Classes;") (by decide +kernel)) (fun _ h9 => h9) rfl dX8_period_6 ?_
  refine lv_iload_n hx hb dX8_period_9 rfl (lv_at hl 1 rfl) ?_
  refine ca_i (CL := [sO b, cO b (nI n) (nI k), oQ (cY 2) (b 3) (rr 1) 6, gI (cY 0) (rr 1) 6 fW 6]) (va_runV (As := [.int (nI i)]) (rest := []) ⟨hx, hb, hml, hown, hts⟩ (c_X1_periodOf l D cY H.size b rr n k fW g i (by omega) (by omega) (by omega) (by omega) hW (by omega)) (cwV 1 hts gX8_period_X1_periodOf rfl rfl rfl (by decide +kernel) ⟨Nat.le_of_ble_eq_true rfl, Nat.le_of_ble_eq_true rfl⟩) (b_preV hVK hP hD [2, 1, 3, 4] rfl rfl 2 rfl rfl) rfl rfl hl.1 rfl (lv_room (Nat.le_of_ble_eq_true rfl)) dX8_period_10 ⟨Nat.le_refl _, Nat.le_refl _⟩) hP hD hS hA [2, 1, 3, 4] rfl rfl (fun _ => rfl) (fun r10 uu H locs hq hP hD hS => ?_)
  subst hq
  have hP : va_P D vwCl ([hO b, cO b (nI n) (nI k), sO b, oQ (cY 2) (b 3) (rr 1) 6, gI (cY 0) (rr 1) 6 fW 6] : List va_W).flatten H := hP
  have hD : va_D A ([hO b, cO b (nI n) (nI k), sO b, oQ (cY 2) (b 3) (rr 1) 6, gI (cY 0) (rr 1) 6 fW 6] : List va_W).flatten := hD
  exact r_i hx hb hr hlocks hP hD hS () rfl (rfl) dX8_period_13

set_option maxHeartbeats 4000000 in
set_option maxRecDepth 100000 in
theorem c_X8_rest_all (l : Launch) (D : va_G) (cY : Nat → ClassId) (sz : Nat) (b : Nat → Nat) (rr : Nat → Nat → Nat) (n : Nat) (k : Nat) (fW : Nat → Nat → Int32) (fRs : Nat → Int64) (fOt : Nat → Int32) (fMi : Nat → Int64) (g : Nat → Nat → Nat) (hn1 : 1 ≤ n) (hn6 : n ≤ 6) (hk1 : 1 ≤ k) (hk12 : k ≤ 12) (hW : ∀ i j, i < n → j < n → fW i j = nI (cnt (g i) j k)) : Met l yX8_rest wsX8_rest ({ frames := 5, cells := 0, slots := 0, locals := 200 }) (cP D cY [.ref (b 0), .int (-1)] [hO b, cO b (nI n) (nI k), tO b, oQ (cY 2) (b 3) (rr 1) 6, gI (cY 0) (rr 1) 6 fW 6, [(b 12, .inl (cY 1, 6, .inr (.inl fRs)))], [(b 13, .inl (cY 0, 6, .inl fOt))], [(b 14, .inl (cY 1, 32, .inr (.inl fMi)))]] sz) (qL (S := (Nat → Int64) × (Nat → Int32) × (Nat → Int64)) D cY (fun r uu => r = WR g n k) (fun uu => [hO b, cO b (nI n) (nI k), tO b, oQ (cY 2) (b 3) (rr 1) 6, gI (cY 0) (rr 1) 6 fW 6, [(b 12, .inl (cY 1, 6, .inr (.inl uu.1)))], [(b 13, .inl (cY 0, 6, .inl uu.2.1))], [(b 14, .inl (cY 1, 32, .inr (.inl uu.2.2)))]]) (va_A ([hO b, cO b (nI n) (nI k), tO b, oQ (cY 2) (b 3) (rr 1) 6, gI (cY 0) (rr 1) 6 fW 6, [(b 12, .inl (cY 1, 6, .inr (.inl fRs)))], [(b 13, .inl (cY 0, 6, .inl fOt))], [(b 14, .inl (cY 1, 32, .inr (.inl fMi)))]] : List va_W).flatten sz)) 0 0 (va_A ([hO b, cO b (nI n) (nI k), tO b, oQ (cY 2) (b 3) (rr 1) 6, gI (cY 0) (rr 1) 6 fW 6, [(b 12, .inl (cY 1, 6, .inr (.inl fRs)))], [(b 13, .inl (cY 0, 6, .inl fOt))], [(b 14, .inl (cY 1, 32, .inr (.inl fMi)))]] : List va_W).flatten sz) := by
  refine mtB (Qc := fun A => qL (S := (Nat → Int64) × (Nat → Int32) × (Nat → Int64)) D cY (fun r uu => r = WR g n k) (fun uu => [hO b, cO b (nI n) (nI k), tO b, oQ (cY 2) (b 3) (rr 1) 6, gI (cY 0) (rr 1) 6 fW 6, [(b 12, .inl (cY 1, 6, .inr (.inl uu.1)))], [(b 13, .inl (cY 0, 6, .inl uu.2.1))], [(b 14, .inl (cY 1, 32, .inr (.inl uu.2.2)))]]) A) (cc := cX8_rest) (maxL := 2) (ret := (some .long)) (by decide) rfl (Nat.le_of_ble_eq_true rfl) ?_
  intro p e s m below meth c A ls hx hb hr hml hts hown hlocks hnm hsz hP hK hVK hD hS hA hl
  have hown : s.vm.findClass RX8 = some m.cls := hown
  have hl : lv_has ls 2 [(0, .ref (b 0)), (1, .int (-1))] := hl
  have hP : va_P D vwCl ([hO b, cO b (nI n) (nI k), tO b, oQ (cY 2) (b 3) (rr 1) 6, gI (cY 0) (rr 1) 6 fW 6, [(b 12, .inl (cY 1, 6, .inr (.inl fRs)))], [(b 13, .inl (cY 0, 6, .inl fOt))], [(b 14, .inl (cY 1, 32, .inr (.inl fMi)))]] : List va_W).flatten s.heap := hP
  have hD : va_D A ([hO b, cO b (nI n) (nI k), tO b, oQ (cY 2) (b 3) (rr 1) 6, gI (cY 0) (rr 1) 6 fW 6, [(b 12, .inl (cY 1, 6, .inr (.inl fRs)))], [(b 13, .inl (cY 0, 6, .inl fOt))], [(b 14, .inl (cY 1, 32, .inr (.inl fMi)))]] : List va_W).flatten := hD
  refine lv_iload_n hx hb dX8_rest_0 rfl (lv_at hl 1 rfl) ?_
  refine lv_iconst (v := (-1)) hx hb dX8_rest_1 (by decide) ?_
  refine lv_icmp_ne (tgt := 13) hx hb dX8_rest_2 (by decide) (fun h2 => ?_) (fun h2 => ?_)
  · -- t
    exact absurd rfl h2
  · -- f
    refine lv_aload_n hx hb dX8_rest_5 rfl (lv_at hl 0 rfl) ?_
    refine b_get (ci := 8) (v := .ref (b 11)) (C := RX8) (T := TX8) (N := 8) hx hb hts (by decide +kernel) hown hK hP 0 rfl rfl 4 (by decide) (hts (.fieldLink RX8 42 "ChanceHall" "trees" "LChanceHall$Trees;") (by decide +kernel)) (fun _ h9 => h9) rfl dX8_rest_6 ?_
    refine ca_l (CL := [tO b, cO b (nI n) (nI k), oQ (cY 2) (b 3) (rr 1) 6, gI (cY 0) (rr 1) 6 fW 6, [(b 12, .inl (cY 1, 6, .inr (.inl fRs)))], [(b 13, .inl (cY 0, 6, .inl fOt))], [(b 14, .inl (cY 1, 32, .inr (.inl fMi)))]]) (va_runV (As := []) (rest := []) ⟨hx, hb, hml, hown, hts⟩ (c_X7_wholeRest l D cY s.heap.size b rr n k fW fRs fOt fMi g (by omega) (by omega) (by omega) (by omega) hW) (cwV 0 hts gX8_rest_X7_wholeRest rfl rfl rfl (by decide +kernel) ⟨Nat.le_of_ble_eq_true rfl, Nat.le_of_ble_eq_true rfl⟩) (b_preV hVK hP hD [2, 1, 3, 4, 5, 6, 7] rfl rfl 2 rfl rfl) rfl rfl hl.1 rfl (lv_room (Nat.le_of_ble_eq_true rfl)) dX8_rest_9 ⟨Nat.le_refl _, Nat.le_refl _⟩) hP hD hS hA [2, 1, 3, 4, 5, 6, 7] rfl rfl (fun _ => rfl) (fun r9 uu H locs hq hP hD hS => ?_)
    obtain ⟨fRs1_1, fOt1_2, fMi1_3⟩ := uu
    try dsimp only at hq
    obtain ⟨rfl, q9⟩ := hq
    have hP : va_P D vwCl ([hO b, cO b (nI n) (nI k), tO b, oQ (cY 2) (b 3) (rr 1) 6, gI (cY 0) (rr 1) 6 fW 6, [(b 12, .inl (cY 1, 6, .inr (.inl fRs1_1)))], [(b 13, .inl (cY 0, 6, .inl fOt1_2))], [(b 14, .inl (cY 1, 32, .inr (.inl fMi1_3)))]] : List va_W).flatten H := hP
    have hD : va_D A ([hO b, cO b (nI n) (nI k), tO b, oQ (cY 2) (b 3) (rr 1) 6, gI (cY 0) (rr 1) 6 fW 6, [(b 12, .inl (cY 1, 6, .inr (.inl fRs1_1)))], [(b 13, .inl (cY 0, 6, .inl fOt1_2))], [(b 14, .inl (cY 1, 32, .inr (.inl fMi1_3)))]] : List va_W).flatten := hD
    exact r_l hx hb hr hlocks hP hD hS (fRs1_1, fOt1_2, fMi1_3) rfl (rfl) dX8_rest_12

set_option maxHeartbeats 4000000 in
set_option maxRecDepth 100000 in
theorem c_X8_rest_ok (l : Launch) (D : va_G) (cY : Nat → ClassId) (sz : Nat) (b : Nat → Nat) (rr : Nat → Nat → Nat) (n : Nat) (k : Nat) (fW : Nat → Nat → Int32) (fOt : Nat → Int32) (fMi : Nat → Int64) (g : Nat → Nat → Nat) (i : Nat) (hn1 : 1 ≤ n) (hn6 : n ≤ 6) (hk1 : 1 ≤ k) (hk12 : k ≤ 12) (hW : ∀ i j, i < n → j < n → fW i j = nI (cnt (g i) j k)) (hi : i < n) : Met l yX8_rest wsX8_rest ({ frames := 5, cells := 0, slots := 0, locals := 200 }) (cP D cY [.ref (b 0), .int (nI i)] [hO b, cO b (nI n) (nI k), tO b, oQ (cY 2) (b 3) (rr 1) 6, gI (cY 0) (rr 1) 6 fW 6, [(b 13, .inl (cY 0, 6, .inl fOt))], [(b 14, .inl (cY 1, 32, .inr (.inl fMi)))]] sz) (qL (S := (Nat → Int32) × (Nat → Int64)) D cY (fun r uu => r = RV g n k i) (fun uu => [hO b, cO b (nI n) (nI k), tO b, oQ (cY 2) (b 3) (rr 1) 6, gI (cY 0) (rr 1) 6 fW 6, [(b 13, .inl (cY 0, 6, .inl uu.1))], [(b 14, .inl (cY 1, 32, .inr (.inl uu.2)))]]) (va_A ([hO b, cO b (nI n) (nI k), tO b, oQ (cY 2) (b 3) (rr 1) 6, gI (cY 0) (rr 1) 6 fW 6, [(b 13, .inl (cY 0, 6, .inl fOt))], [(b 14, .inl (cY 1, 32, .inr (.inl fMi)))]] : List va_W).flatten sz)) 0 0 (va_A ([hO b, cO b (nI n) (nI k), tO b, oQ (cY 2) (b 3) (rr 1) 6, gI (cY 0) (rr 1) 6 fW 6, [(b 13, .inl (cY 0, 6, .inl fOt))], [(b 14, .inl (cY 1, 32, .inr (.inl fMi)))]] : List va_W).flatten sz) := by
  refine mtB (Qc := fun A => qL (S := (Nat → Int32) × (Nat → Int64)) D cY (fun r uu => r = RV g n k i) (fun uu => [hO b, cO b (nI n) (nI k), tO b, oQ (cY 2) (b 3) (rr 1) 6, gI (cY 0) (rr 1) 6 fW 6, [(b 13, .inl (cY 0, 6, .inl uu.1))], [(b 14, .inl (cY 1, 32, .inr (.inl uu.2)))]]) A) (cc := cX8_rest) (maxL := 2) (ret := (some .long)) (by decide) rfl (Nat.le_of_ble_eq_true rfl) ?_
  intro p e s m below meth c A ls hx hb hr hml hts hown hlocks hnm hsz hP hK hVK hD hS hA hl
  have hown : s.vm.findClass RX8 = some m.cls := hown
  have hl : lv_has ls 2 [(0, .ref (b 0)), (1, .int (nI i))] := hl
  have hP : va_P D vwCl ([hO b, cO b (nI n) (nI k), tO b, oQ (cY 2) (b 3) (rr 1) 6, gI (cY 0) (rr 1) 6 fW 6, [(b 13, .inl (cY 0, 6, .inl fOt))], [(b 14, .inl (cY 1, 32, .inr (.inl fMi)))]] : List va_W).flatten s.heap := hP
  have hD : va_D A ([hO b, cO b (nI n) (nI k), tO b, oQ (cY 2) (b 3) (rr 1) 6, gI (cY 0) (rr 1) 6 fW 6, [(b 13, .inl (cY 0, 6, .inl fOt))], [(b 14, .inl (cY 1, 32, .inr (.inl fMi)))]] : List va_W).flatten := hD
  refine lv_iload_n hx hb dX8_rest_0 rfl (lv_at hl 1 rfl) ?_
  refine lv_iconst (v := (-1)) hx hb dX8_rest_1 (by decide) ?_
  refine lv_icmp_ne (tgt := 13) hx hb dX8_rest_2 (by decide) (fun h2 => ?_) (fun h2 => ?_)
  · -- t
    refine lv_aload_n hx hb dX8_rest_13 rfl (lv_at hl 0 rfl) ?_
    refine lv_iload_n hx hb dX8_rest_14 rfl (lv_at hl 1 rfl) ?_
    refine ca_v (CL := [hO b, cO b (nI n) (nI k)]) (va_runV (As := [.int (nI i)]) (rest := []) ⟨hx, hb, hml, hown, hts⟩ (c_X8_needState_ok l D cY s.heap.size b n k i (by omega) (by omega) (by omega) (by omega) (by omega)) (cwV 1 hts gX8_rest_X8_needState rfl rfl rfl (by decide +kernel) ⟨Nat.le_of_ble_eq_true rfl, Nat.le_of_ble_eq_true rfl⟩) (b_preV hVK hP hD [0, 1] rfl rfl 0 rfl rfl) rfl rfl hl.1 rfl (lv_room (Nat.le_of_ble_eq_true rfl)) dX8_rest_15 ⟨Nat.le_refl _, Nat.le_refl _⟩) hP hD hS hA [0, 1] rfl rfl (fun _ => rfl) (fun uu H locs hq hP hD hS => ?_)
    have hP : va_P D vwCl ([hO b, cO b (nI n) (nI k), tO b, oQ (cY 2) (b 3) (rr 1) 6, gI (cY 0) (rr 1) 6 fW 6, [(b 13, .inl (cY 0, 6, .inl fOt))], [(b 14, .inl (cY 1, 32, .inr (.inl fMi)))]] : List va_W).flatten H := hP
    have hD : va_D A ([hO b, cO b (nI n) (nI k), tO b, oQ (cY 2) (b 3) (rr 1) 6, gI (cY 0) (rr 1) 6 fW 6, [(b 13, .inl (cY 0, 6, .inl fOt))], [(b 14, .inl (cY 1, 32, .inr (.inl fMi)))]] : List va_W).flatten := hD
    refine lv_aload_n hx hb dX8_rest_18 rfl (lv_at hl 0 rfl) ?_
    refine b_get (ci := 8) (v := .ref (b 11)) (C := RX8) (T := TX8) (N := 8) hx hb hts (by decide +kernel) hown hK hP 0 rfl rfl 4 (by decide) (hts (.fieldLink RX8 42 "ChanceHall" "trees" "LChanceHall$Trees;") (by decide +kernel)) (fun _ h9 => h9) rfl dX8_rest_19 ?_
    refine lv_iload_n hx hb dX8_rest_22 rfl (lv_at hl 1 rfl) ?_
    refine ca_l (CL := [tO b, cO b (nI n) (nI k), oQ (cY 2) (b 3) (rr 1) 6, gI (cY 0) (rr 1) 6 fW 6, [(b 13, .inl (cY 0, 6, .inl fOt))], [(b 14, .inl (cY 1, 32, .inr (.inl fMi)))]]) (va_runV (As := [.int (nI i)]) (rest := []) ⟨hx, hb, hml, hown, hts⟩ (c_X7_restOf l D cY H.size b rr n k fW fOt fMi g i (by omega) (by omega) (by omega) (by omega) hW (by omega)) (cwV 1 hts gX8_rest_X7_restOf rfl rfl rfl (by decide +kernel) ⟨Nat.le_of_ble_eq_true rfl, Nat.le_of_ble_eq_true rfl⟩) (b_preV hVK hP hD [2, 1, 3, 4, 5, 6] rfl rfl 2 rfl rfl) rfl rfl hl.1 rfl (lv_room (Nat.le_of_ble_eq_true rfl)) dX8_rest_23 ⟨Nat.le_refl _, Nat.le_refl _⟩) hP hD hS hA [2, 1, 3, 4, 5, 6] rfl rfl (fun _ => rfl) (fun r23 uu H locs hq hP hD hS => ?_)
    obtain ⟨fOt1_1, fMi1_2⟩ := uu
    try dsimp only at hq
    subst hq
    have hP : va_P D vwCl ([hO b, cO b (nI n) (nI k), tO b, oQ (cY 2) (b 3) (rr 1) 6, gI (cY 0) (rr 1) 6 fW 6, [(b 13, .inl (cY 0, 6, .inl fOt1_1))], [(b 14, .inl (cY 1, 32, .inr (.inl fMi1_2)))]] : List va_W).flatten H := hP
    have hD : va_D A ([hO b, cO b (nI n) (nI k), tO b, oQ (cY 2) (b 3) (rr 1) 6, gI (cY 0) (rr 1) 6 fW 6, [(b 13, .inl (cY 0, 6, .inl fOt1_1))], [(b 14, .inl (cY 1, 32, .inr (.inl fMi1_2)))]] : List va_W).flatten := hD
    exact r_l hx hb hr hlocks hP hD hS (fOt1_1, fMi1_2) rfl (rfl) dX8_rest_26
  · -- f
    exact absurd h2 (nI_nm1 i (by omega))

set_option maxHeartbeats 4000000 in
set_option maxRecDepth 100000 in
theorem c_X8_ranked_ok (l : Launch) (D : va_G) (cY : Nat → ClassId) (sz : Nat) (b : Nat → Nat) (rr : Nat → Nat → Nat) (n : Nat) (k : Nat) (fW : Nat → Nat → Int32) (fRs : Nat → Int64) (fOt : Nat → Int32) (fMi : Nat → Int64) (g : Nat → Nat → Nat) (r0 : Nat) (hn1 : 1 ≤ n) (hn6 : n ≤ 6) (hk1 : 1 ≤ k) (hk12 : k ≤ 12) (hW : ∀ i j, i < n → j < n → fW i j = nI (cnt (g i) j k)) (hr0 : r0 < 2 ^ 31) : Met l yX8_ranked wsX8_ranked ({ frames := 4, cells := 0, slots := 0, locals := 160 }) (cP D cY [.ref (b 0), .int (nI r0)] [hO b, cO b (nI n) (nI k), tO b, oQ (cY 2) (b 3) (rr 1) 6, gI (cY 0) (rr 1) 6 fW 6, [(b 12, .inl (cY 1, 6, .inr (.inl fRs)))], [(b 13, .inl (cY 0, 6, .inl fOt))], [(b 14, .inl (cY 1, 32, .inr (.inl fMi)))]] sz) (qI (S := (Nat → Int64) × (Nat → Int32) × (Nat → Int64)) D cY (fun r uu => r = mxs (fun i => decide (plc (RV g n k) i n = r0)) n 0) (fun uu => [hO b, cO b (nI n) (nI k), tO b, oQ (cY 2) (b 3) (rr 1) 6, gI (cY 0) (rr 1) 6 fW 6, [(b 12, .inl (cY 1, 6, .inr (.inl uu.1)))], [(b 13, .inl (cY 0, 6, .inl uu.2.1))], [(b 14, .inl (cY 1, 32, .inr (.inl uu.2.2)))]]) (va_A ([hO b, cO b (nI n) (nI k), tO b, oQ (cY 2) (b 3) (rr 1) 6, gI (cY 0) (rr 1) 6 fW 6, [(b 12, .inl (cY 1, 6, .inr (.inl fRs)))], [(b 13, .inl (cY 0, 6, .inl fOt))], [(b 14, .inl (cY 1, 32, .inr (.inl fMi)))]] : List va_W).flatten sz)) 0 0 (va_A ([hO b, cO b (nI n) (nI k), tO b, oQ (cY 2) (b 3) (rr 1) 6, gI (cY 0) (rr 1) 6 fW 6, [(b 12, .inl (cY 1, 6, .inr (.inl fRs)))], [(b 13, .inl (cY 0, 6, .inl fOt))], [(b 14, .inl (cY 1, 32, .inr (.inl fMi)))]] : List va_W).flatten sz) := by
  refine mtB (Qc := fun A => qI (S := (Nat → Int64) × (Nat → Int32) × (Nat → Int64)) D cY (fun r uu => r = mxs (fun i => decide (plc (RV g n k) i n = r0)) n 0) (fun uu => [hO b, cO b (nI n) (nI k), tO b, oQ (cY 2) (b 3) (rr 1) 6, gI (cY 0) (rr 1) 6 fW 6, [(b 12, .inl (cY 1, 6, .inr (.inl uu.1)))], [(b 13, .inl (cY 0, 6, .inl uu.2.1))], [(b 14, .inl (cY 1, 32, .inr (.inl uu.2.2)))]]) A) (cc := cX8_ranked) (maxL := 3) (ret := (some .int)) (by decide) rfl (Nat.le_of_ble_eq_true rfl) ?_
  intro p e s m below meth c A ls hx hb hr hml hts hown hlocks hnm hsz hP hK hVK hD hS hA hl
  have hown : s.vm.findClass RX8 = some m.cls := hown
  have hl : lv_has ls 3 [(0, .ref (b 0)), (1, .int (nI r0))] := hl
  have hP : va_P D vwCl ([hO b, cO b (nI n) (nI k), tO b, oQ (cY 2) (b 3) (rr 1) 6, gI (cY 0) (rr 1) 6 fW 6, [(b 12, .inl (cY 1, 6, .inr (.inl fRs)))], [(b 13, .inl (cY 0, 6, .inl fOt))], [(b 14, .inl (cY 1, 32, .inr (.inl fMi)))]] : List va_W).flatten s.heap := hP
  have hD : va_D A ([hO b, cO b (nI n) (nI k), tO b, oQ (cY 2) (b 3) (rr 1) 6, gI (cY 0) (rr 1) 6 fW 6, [(b 12, .inl (cY 1, 6, .inr (.inl fRs)))], [(b 13, .inl (cY 0, 6, .inl fOt))], [(b 14, .inl (cY 1, 32, .inr (.inl fMi)))]] : List va_W).flatten := hD
  refine lv_iload_n hx hb dX8_ranked_0 rfl (lv_at hl 1 rfl) ?_
  refine n_if_ge (tgt := 14) hx hb dX8_ranked_1 (by decide) (by omega) (fun h1 => ?_) (fun h1 => ?_)
  · -- t
    refine lv_aload_n hx hb dX8_ranked_14 rfl (lv_at hl 0 rfl) ?_
    refine b_get (ci := 8) (v := .ref (b 11)) (C := RX8) (T := TX8) (N := 8) hx hb hts (by decide +kernel) hown hK hP 0 rfl rfl 4 (by decide) (hts (.fieldLink RX8 42 "ChanceHall" "trees" "LChanceHall$Trees;") (by decide +kernel)) (fun _ h9 => h9) rfl dX8_ranked_15 ?_
    refine ca_v (CL := [tO b, cO b (nI n) (nI k), oQ (cY 2) (b 3) (rr 1) 6, gI (cY 0) (rr 1) 6 fW 6, [(b 12, .inl (cY 1, 6, .inr (.inl fRs)))], [(b 13, .inl (cY 0, 6, .inl fOt))], [(b 14, .inl (cY 1, 32, .inr (.inl fMi)))]]) (va_runV (As := []) (rest := []) ⟨hx, hb, hml, hown, hts⟩ (c_X7_countRests l D cY s.heap.size b rr n k fW fRs fOt fMi g (by omega) (by omega) (by omega) (by omega) hW) (cwV 0 hts gX8_ranked_X7_countRests rfl rfl rfl (by decide +kernel) ⟨Nat.le_of_ble_eq_true rfl, Nat.le_of_ble_eq_true rfl⟩) (b_preV hVK hP hD [2, 1, 3, 4, 5, 6, 7] rfl rfl 2 rfl rfl) rfl rfl hl.1 rfl (lv_room (Nat.le_of_ble_eq_true rfl)) dX8_ranked_18 ⟨Nat.le_refl _, Nat.le_refl _⟩) hP hD hS hA [2, 1, 3, 4, 5, 6, 7] rfl rfl (fun _ => rfl) (fun uu H locs hq hP hD hS => ?_)
    obtain ⟨fRs1_1, fOt1_2, fMi1_3⟩ := uu
    try dsimp only at hq
    have q18 := hq
    have hP : va_P D vwCl ([hO b, cO b (nI n) (nI k), tO b, oQ (cY 2) (b 3) (rr 1) 6, gI (cY 0) (rr 1) 6 fW 6, [(b 12, .inl (cY 1, 6, .inr (.inl fRs1_1)))], [(b 13, .inl (cY 0, 6, .inl fOt1_2))], [(b 14, .inl (cY 1, 32, .inr (.inl fMi1_3)))]] : List va_W).flatten H := hP
    have hD : va_D A ([hO b, cO b (nI n) (nI k), tO b, oQ (cY 2) (b 3) (rr 1) 6, gI (cY 0) (rr 1) 6 fW 6, [(b 12, .inl (cY 1, 6, .inr (.inl fRs1_1)))], [(b 13, .inl (cY 0, 6, .inl fOt1_2))], [(b 14, .inl (cY 1, 32, .inr (.inl fMi1_3)))]] : List va_W).flatten := hD
    refine lv_iconst (v := nI 0) hx hb dX8_ranked_21 (by decide) ?_
    refine lv_istore_n (lv' := [(2, .int (nI 0)), (0, .ref (b 0)), (1, .int (nI r0))]) hx hb dX8_ranked_22 rfl hl (by decide) rfl (fun ls hl => ?_)
    have L23 : ∀ q : Nat, q ≤ n →  (mxs (fun i => decide (plc (RV g n k) i n = r0)) (n - q) q = mxs (fun i => decide (plc (RV g n k) i n = r0)) n 0) → ∀ (H : Heap) (locs : List Loc), va_P D vwCl ([hO b, cO b (nI n) (nI k), tO b, oQ (cY 2) (b 3) (rr 1) 6, gI (cY 0) (rr 1) 6 fW 6, [(b 12, .inl (cY 1, 6, .inr (.inl fRs1_1)))], [(b 13, .inl (cY 0, 6, .inl fOt1_2))], [(b 14, .inl (cY 1, 32, .inr (.inl fMi1_3)))]] : List va_W).flatten H → va_D A ([hO b, cO b (nI n) (nI k), tO b, oQ (cY 2) (b 3) (rr 1) 6, gI (cY 0) (rr 1) 6 fW 6, [(b 12, .inl (cY 1, 6, .inr (.inl fRs1_1)))], [(b 13, .inl (cY 0, 6, .inl fOt1_2))], [(b 14, .inl (cY 1, 32, .inr (.inl fMi1_3)))]] : List va_W).flatten → va_S A s.heap H locs → ∀ (ls : Array Slot), lv_has ls 3 [(0, .ref (b 0)), (1, .int (nI r0)), (2, .int (nI q))] → W p l e ({ frames := 4, cells := 0, slots := 0, locals := 160 }) s m ([.ref (b 0), .int (nI r0)] : List Value).toArray below meth c H locs 0 0 (MQ below (qI (S := (Nat → Int64) × (Nat → Int32) × (Nat → Int64)) D cY (fun r uu => r = mxs (fun i => decide (plc (RV g n k) i n = r0)) n 0) (fun uu => [hO b, cO b (nI n) (nI k), tO b, oQ (cY 2) (b 3) (rr 1) 6, gI (cY 0) (rr 1) 6 fW 6, [(b 12, .inl (cY 1, 6, .inr (.inl uu.1)))], [(b 13, .inl (cY 0, 6, .inl uu.2.1))], [(b 14, .inl (cY 1, 32, .inr (.inl uu.2.2)))]]) A) ([.ref (b 0), .int (nI r0)] : List Value).toArray s 0 0 A) (F0 m 23 ls []) := by
      refine lpW n ?_
      intro q bdq ih23  hI H locs hP hD hS ls hl
      refine lv_iload_n hx hb dX8_ranked_23 rfl (lv_at hl 2 rfl) ?_
      refine lv_aload_n hx hb dX8_ranked_24 rfl (lv_at hl 0 rfl) ?_
      refine b_get (ci := 8) (v := .ref (b 1)) (C := RX8) (T := TX8) (N := 8) hx hb hts (by decide +kernel) hown hK hP 0 rfl rfl 0 (by decide) (hts (.fieldLink RX8 10 "ChanceHall" "chain" "LChanceHall$Chain;") (by decide +kernel)) (fun _ h9 => h9) rfl dX8_ranked_25 ?_
      refine b_get (ci := 0) (v := .int (nI n)) (C := RX0) (T := TX0) (N := 4) hx hb hts (by decide +kernel) hown hK hP 1 rfl rfl 0 (by decide) (hts (.fieldLink RX8 171 "ChanceHall$Chain" "states" "I") (by decide +kernel)) (fun _ h9 => h9) rfl dX8_ranked_28 ?_
      refine n_icmp_ge (tgt := 54) hx hb dX8_ranked_31 (by decide) (by omega) (by omega) (fun h31 => ?_) (fun h31 => ?_)
      · -- t
        refine lv_iconst (v := (-1)) hx hb dX8_ranked_54 (by decide) ?_
        exact r_i hx hb hr hlocks hP hD hS (fRs1_1, fOt1_2, fMi1_3) rfl (by rw [← hI, mxs_e (by omega)]) dX8_ranked_55
      · -- f
        refine lv_aload_n hx hb dX8_ranked_34 rfl (lv_at hl 0 rfl) ?_
        refine b_get (ci := 8) (v := .ref (b 11)) (C := RX8) (T := TX8) (N := 8) hx hb hts (by decide +kernel) hown hK hP 0 rfl rfl 4 (by decide) (hts (.fieldLink RX8 42 "ChanceHall" "trees" "LChanceHall$Trees;") (by decide +kernel)) (fun _ h9 => h9) rfl dX8_ranked_35 ?_
        refine lv_iload_n hx hb dX8_ranked_38 rfl (lv_at hl 2 rfl) ?_
        refine ca_i (CL := [tO b, cO b (nI n) (nI k), [(b 12, .inl (cY 1, 6, .inr (.inl fRs1_1)))]]) (va_runV (As := [.int (nI q)]) (rest := []) ⟨hx, hb, hml, hown, hts⟩ (c_X7_countAhead l D cY H.size b n k fRs1_1 g q (by omega) (by omega) (by omega) (by omega) (by omega) q18) (cwV 1 hts gX8_ranked_X7_countAhead rfl rfl rfl (by decide +kernel) ⟨Nat.le_of_ble_eq_true rfl, Nat.le_of_ble_eq_true rfl⟩) (b_preV hVK hP hD [2, 1, 5] rfl rfl 2 rfl rfl) rfl rfl hl.1 rfl (lv_room (Nat.le_of_ble_eq_true rfl)) dX8_ranked_39 ⟨Nat.le_refl _, Nat.le_refl _⟩) hP hD hS hA [2, 1, 5] rfl rfl (fun _ => rfl) (fun r39 uu H locs hq hP hD hS => ?_)
        subst hq
        have hP : va_P D vwCl ([hO b, cO b (nI n) (nI k), tO b, oQ (cY 2) (b 3) (rr 1) 6, gI (cY 0) (rr 1) 6 fW 6, [(b 12, .inl (cY 1, 6, .inr (.inl fRs1_1)))], [(b 13, .inl (cY 0, 6, .inl fOt1_2))], [(b 14, .inl (cY 1, 32, .inr (.inl fMi1_3)))]] : List va_W).flatten H := hP
        have hD : va_D A ([hO b, cO b (nI n) (nI k), tO b, oQ (cY 2) (b 3) (rr 1) 6, gI (cY 0) (rr 1) 6 fW 6, [(b 12, .inl (cY 1, 6, .inr (.inl fRs1_1)))], [(b 13, .inl (cY 0, 6, .inl fOt1_2))], [(b 14, .inl (cY 1, 32, .inr (.inl fMi1_3)))]] : List va_W).flatten := hD
        have hpl := plc_le (F := RV g n k) (i := q) (q := n)
        refine lv_iload_n hx hb dX8_ranked_42 rfl (lv_at hl 1 rfl) ?_
        refine n_icmp_ne (tgt := 48) hx hb dX8_ranked_43 (by decide) (by omega) (by omega) (fun h43 => ?_) (fun h43 => ?_)
        · -- t
          refine lv_iinc (v := nI (q + 1)) (lv' := [(2, .int (nI (q + 1))), (0, .ref (b 0)), (1, .int (nI r0))]) hx hb dX8_ranked_48 hl (k := 2) rfl (nI_1 q) (by decide) rfl (fun ls hl => ?_)
          refine lv_goto (tgt := 23) hx hb dX8_ranked_51 (by decide) ?_
          exact ih23 (by omega)  (by rw [← mxs_f (by omega) (dec_f h43)]; exact hI) _ _ hP hD hS _ (lv_sub hl [1, 2, 0] rfl)
        · -- f
          refine lv_iload_n hx hb dX8_ranked_46 rfl (lv_at hl 2 rfl) ?_
          exact r_i hx hb hr hlocks hP hD hS (fRs1_1, fOt1_2, fMi1_3) rfl (by rw [← hI, mxs_t (by omega) (dec_t h43)]) dX8_ranked_47
    exact L23 0 (by omega)  rfl _ _ hP hD hS _ (lv_sub hl [1, 2, 0] rfl)
  · -- f
    exact h1.elim

set_option maxHeartbeats 4000000 in
set_option maxRecDepth 100000 in
theorem c_X8_walk_ok (l : Launch) (D : va_G) (cY : Nat → ClassId) (sz : Nat) (b : Nat → Nat) (rr : Nat → Nat → Nat) (n : Nat) (k : Nat) (fG : Nat → Nat → Int32) (g : Nat → Nat → Nat) (i : Nat) (x : Nat) (t : Nat) (hn1 : 1 ≤ n) (hn6 : n ≤ 6) (hk1 : 1 ≤ k) (hk12 : k ≤ 12) (hG : ∀ i j, i < n → j < k → fG i j = nI (g i j)) (hgn : ∀ i j, i < n → j < k → g i j < n) (hi : i < n) (hx1 : x < 65521) (ht : t ≤ 1000) : Met l yX8_walk wsX8_walk ({ frames := 2, cells := 0, slots := 0, locals := 80 }) (cP D cY [.ref (b 0), .int (nI i), .int (nI x), .int (nI t)] [hO b, cO b (nI n) (nI k), dO b, oQ (cY 2) (b 2) (rr 0) 6, gI (cY 0) (rr 0) 12 fG 6] sz) (qI (S := Unit) D cY (fun r uu => r = nI (wk g k i x t)) (fun uu => [hO b, cO b (nI n) (nI k), dO b, oQ (cY 2) (b 2) (rr 0) 6, gI (cY 0) (rr 0) 12 fG 6]) (va_A ([hO b, cO b (nI n) (nI k), dO b, oQ (cY 2) (b 2) (rr 0) 6, gI (cY 0) (rr 0) 12 fG 6] : List va_W).flatten sz)) 0 0 (va_A ([hO b, cO b (nI n) (nI k), dO b, oQ (cY 2) (b 2) (rr 0) 6, gI (cY 0) (rr 0) 12 fG 6] : List va_W).flatten sz) := by
  refine mtB (Qc := fun A => qI (S := Unit) D cY (fun r uu => r = nI (wk g k i x t)) (fun uu => [hO b, cO b (nI n) (nI k), dO b, oQ (cY 2) (b 2) (rr 0) 6, gI (cY 0) (rr 0) 12 fG 6]) A) (cc := cX8_walk) (maxL := 4) (ret := (some .int)) (by decide) rfl (Nat.le_of_ble_eq_true rfl) ?_
  intro p e s m below meth c A ls hx hb hr hml hts hown hlocks hnm hsz hP hK hVK hD hS hA hl
  have hown : s.vm.findClass RX8 = some m.cls := hown
  have hl : lv_has ls 4 [(0, .ref (b 0)), (1, .int (nI i)), (2, .int (nI x)), (3, .int (nI t))] := hl
  have hP : va_P D vwCl ([hO b, cO b (nI n) (nI k), dO b, oQ (cY 2) (b 2) (rr 0) 6, gI (cY 0) (rr 0) 12 fG 6] : List va_W).flatten s.heap := hP
  have hD : va_D A ([hO b, cO b (nI n) (nI k), dO b, oQ (cY 2) (b 2) (rr 0) 6, gI (cY 0) (rr 0) 12 fG 6] : List va_W).flatten := hD
  refine lv_aload_n hx hb dX8_walk_0 rfl (lv_at hl 0 rfl) ?_
  refine lv_iload_n hx hb dX8_walk_1 rfl (lv_at hl 1 rfl) ?_
  refine ca_v (CL := [hO b, cO b (nI n) (nI k)]) (va_runV (As := [.int (nI i)]) (rest := []) ⟨hx, hb, hml, hown, hts⟩ (c_X8_needState_ok l D cY s.heap.size b n k i (by omega) (by omega) (by omega) (by omega) (by omega)) (cwV 1 hts gX8_walk_X8_needState rfl rfl rfl (by decide +kernel) ⟨Nat.le_of_ble_eq_true rfl, Nat.le_of_ble_eq_true rfl⟩) (b_preV hVK hP hD [0, 1] rfl rfl 0 rfl rfl) rfl rfl hl.1 rfl (lv_room (Nat.le_of_ble_eq_true rfl)) dX8_walk_2 ⟨Nat.le_refl _, Nat.le_refl _⟩) hP hD hS hA [0, 1] rfl rfl (fun _ => rfl) (fun uu H locs hq hP hD hS => ?_)
  have hP : va_P D vwCl ([hO b, cO b (nI n) (nI k), dO b, oQ (cY 2) (b 2) (rr 0) 6, gI (cY 0) (rr 0) 12 fG 6] : List va_W).flatten H := hP
  have hD : va_D A ([hO b, cO b (nI n) (nI k), dO b, oQ (cY 2) (b 2) (rr 0) 6, gI (cY 0) (rr 0) 12 fG 6] : List va_W).flatten := hD
  refine lv_iload_n hx hb dX8_walk_5 rfl (lv_at hl 2 rfl) ?_
  refine lv_iconst (v := nI 0) hx hb dX8_walk_6 (by decide) ?_
  refine lv_ldc (v := 65520) hx hb hown (hts (.constant RX8 178 65520) (by decide +kernel)) dX8_walk_7 ?_
  refine eqi (x' := nI 65520) (by decide) ?_
  refine ca_v (CL := []) (va_runS (As := [.int (nI x), .int (nI 0), .int (nI 65520)]) (rest := []) ⟨hx, hb, hml, hown, hts⟩ (c_X8_needRange_ok l D cY H.size (nI x) (nI 0) (nI 65520) (inR_t (by omega) (by omega) (by omega))) (va_cwS 3 hts gX8_walk_X8_needRange rfl rfl rfl (by decide +kernel) ⟨Nat.le_of_ble_eq_true rfl, Nat.le_of_ble_eq_true rfl⟩) (b_preS hVK hP hD [] rfl rfl) rfl rfl hl.1 rfl (lv_room (Nat.le_of_ble_eq_true rfl)) dX8_walk_9 ⟨Nat.le_refl _, Nat.le_refl _⟩) hP hD hS hA [] rfl rfl (fun _ => rfl) (fun uu H locs hq hP hD hS => ?_)
  have hP : va_P D vwCl ([hO b, cO b (nI n) (nI k), dO b, oQ (cY 2) (b 2) (rr 0) 6, gI (cY 0) (rr 0) 12 fG 6] : List va_W).flatten H := hP
  have hD : va_D A ([hO b, cO b (nI n) (nI k), dO b, oQ (cY 2) (b 2) (rr 0) 6, gI (cY 0) (rr 0) 12 fG 6] : List va_W).flatten := hD
  refine lv_iload_n hx hb dX8_walk_12 rfl (lv_at hl 3 rfl) ?_
  refine lv_iconst (v := nI 0) hx hb dX8_walk_13 (by decide) ?_
  refine lv_sipush (v := nI 1000) hx hb dX8_walk_14 (by decide) ?_
  refine ca_v (CL := []) (va_runS (As := [.int (nI t), .int (nI 0), .int (nI 1000)]) (rest := []) ⟨hx, hb, hml, hown, hts⟩ (c_X8_needRange_ok l D cY H.size (nI t) (nI 0) (nI 1000) (inR_t (by omega) (by omega) (by omega))) (va_cwS 3 hts gX8_walk_X8_needRange rfl rfl rfl (by decide +kernel) ⟨Nat.le_of_ble_eq_true rfl, Nat.le_of_ble_eq_true rfl⟩) (b_preS hVK hP hD [] rfl rfl) rfl rfl hl.1 rfl (lv_room (Nat.le_of_ble_eq_true rfl)) dX8_walk_17 ⟨Nat.le_refl _, Nat.le_refl _⟩) hP hD hS hA [] rfl rfl (fun _ => rfl) (fun uu H locs hq hP hD hS => ?_)
  have hP : va_P D vwCl ([hO b, cO b (nI n) (nI k), dO b, oQ (cY 2) (b 2) (rr 0) 6, gI (cY 0) (rr 0) 12 fG 6] : List va_W).flatten H := hP
  have hD : va_D A ([hO b, cO b (nI n) (nI k), dO b, oQ (cY 2) (b 2) (rr 0) 6, gI (cY 0) (rr 0) 12 fG 6] : List va_W).flatten := hD
  refine lv_aload_n hx hb dX8_walk_20 rfl (lv_at hl 0 rfl) ?_
  refine b_get (ci := 8) (v := .ref (b 15)) (C := RX8) (T := TX8) (N := 8) hx hb hts (by decide +kernel) hown hK hP 0 rfl rfl 5 (by decide) (hts (.fieldLink RX8 49 "ChanceHall" "draws" "LChanceHall$Draws;") (by decide +kernel)) (fun _ h9 => h9) rfl dX8_walk_21 ?_
  refine lv_iload_n hx hb dX8_walk_24 rfl (lv_at hl 1 rfl) ?_
  refine lv_iload_n hx hb dX8_walk_25 rfl (lv_at hl 2 rfl) ?_
  refine lv_iload_n hx hb dX8_walk_26 rfl (lv_at hl 3 rfl) ?_
  refine ca_i (CL := [dO b, cO b (nI n) (nI k), oQ (cY 2) (b 2) (rr 0) 6, gI (cY 0) (rr 0) 12 fG 6]) (va_runV (As := [.int (nI i), .int (nI x), .int (nI t)]) (rest := []) ⟨hx, hb, hml, hown, hts⟩ (c_X3_walkOn l D cY H.size b rr n k fG g i x t (by omega) (by omega) (by omega) (by omega) hG hgn (by omega) (by omega) (by omega)) (cwV 3 hts gX8_walk_X3_walkOn rfl rfl rfl (by decide +kernel) ⟨Nat.le_of_ble_eq_true rfl, Nat.le_of_ble_eq_true rfl⟩) (b_preV hVK hP hD [2, 1, 3, 4] rfl rfl 2 rfl rfl) rfl rfl hl.1 rfl (lv_room (Nat.le_of_ble_eq_true rfl)) dX8_walk_27 ⟨Nat.le_refl _, Nat.le_refl _⟩) hP hD hS hA [2, 1, 3, 4] rfl rfl (fun _ => rfl) (fun r27 uu H locs hq hP hD hS => ?_)
  subst hq
  have hP : va_P D vwCl ([hO b, cO b (nI n) (nI k), dO b, oQ (cY 2) (b 2) (rr 0) 6, gI (cY 0) (rr 0) 12 fG 6] : List va_W).flatten H := hP
  have hD : va_D A ([hO b, cO b (nI n) (nI k), dO b, oQ (cY 2) (b 2) (rr 0) 6, gI (cY 0) (rr 0) 12 fG 6] : List va_W).flatten := hD
  exact r_i hx hb hr hlocks hP hD hS () rfl (rfl) dX8_walk_30

set_option maxHeartbeats 4000000 in
set_option maxRecDepth 100000 in
theorem c_X8_draw_ok (l : Launch) (D : va_G) (cY : Nat → ClassId) (sz : Nat) (b : Nat → Nat) (rr : Nat → Nat → Nat) (n : Nat) (k : Nat) (fG : Nat → Nat → Int32) (fEn : Nat → Int32) (fEb : Nat → Int32) (g : Nat → Nat → Nat) (x : Nat) (hn1 : 1 ≤ n) (hn6 : n ≤ 6) (hk1 : 1 ≤ k) (hk12 : k ≤ 12) (hG : ∀ i j, i < n → j < k → fG i j = nI (g i j)) (hgn : ∀ i j, i < n → j < k → g i j < n) (hx1 : x < 65521) : Met l yX8_draw wsX8_draw ({ frames := 3, cells := 0, slots := 0, locals := 120 }) (cP D cY [.ref (b 0), .int (nI x)] [hO b, cO b (nI n) (nI k), dO b, oQ (cY 2) (b 2) (rr 0) 6, gI (cY 0) (rr 0) 12 fG 6, [(b 16, .inl (cY 0, 6, .inl fEn))], [(b 17, .inl (cY 0, 6, .inl fEb))]] sz) (qI (S := (Nat → Int32) × (Nat → Int32)) D cY (fun r uu => r = dgo g n k x 200 0) (fun uu => [hO b, cO b (nI n) (nI k), dO b, oQ (cY 2) (b 2) (rr 0) 6, gI (cY 0) (rr 0) 12 fG 6, [(b 16, .inl (cY 0, 6, .inl uu.1))], [(b 17, .inl (cY 0, 6, .inl uu.2))]]) (va_A ([hO b, cO b (nI n) (nI k), dO b, oQ (cY 2) (b 2) (rr 0) 6, gI (cY 0) (rr 0) 12 fG 6, [(b 16, .inl (cY 0, 6, .inl fEn))], [(b 17, .inl (cY 0, 6, .inl fEb))]] : List va_W).flatten sz)) 0 0 (va_A ([hO b, cO b (nI n) (nI k), dO b, oQ (cY 2) (b 2) (rr 0) 6, gI (cY 0) (rr 0) 12 fG 6, [(b 16, .inl (cY 0, 6, .inl fEn))], [(b 17, .inl (cY 0, 6, .inl fEb))]] : List va_W).flatten sz) := by
  refine mtB (Qc := fun A => qI (S := (Nat → Int32) × (Nat → Int32)) D cY (fun r uu => r = dgo g n k x 200 0) (fun uu => [hO b, cO b (nI n) (nI k), dO b, oQ (cY 2) (b 2) (rr 0) 6, gI (cY 0) (rr 0) 12 fG 6, [(b 16, .inl (cY 0, 6, .inl uu.1))], [(b 17, .inl (cY 0, 6, .inl uu.2))]]) A) (cc := cX8_draw) (maxL := 2) (ret := (some .int)) (by decide) rfl (Nat.le_of_ble_eq_true rfl) ?_
  intro p e s m below meth c A ls hx hb hr hml hts hown hlocks hnm hsz hP hK hVK hD hS hA hl
  have hown : s.vm.findClass RX8 = some m.cls := hown
  have hl : lv_has ls 2 [(0, .ref (b 0)), (1, .int (nI x))] := hl
  have hP : va_P D vwCl ([hO b, cO b (nI n) (nI k), dO b, oQ (cY 2) (b 2) (rr 0) 6, gI (cY 0) (rr 0) 12 fG 6, [(b 16, .inl (cY 0, 6, .inl fEn))], [(b 17, .inl (cY 0, 6, .inl fEb))]] : List va_W).flatten s.heap := hP
  have hD : va_D A ([hO b, cO b (nI n) (nI k), dO b, oQ (cY 2) (b 2) (rr 0) 6, gI (cY 0) (rr 0) 12 fG 6, [(b 16, .inl (cY 0, 6, .inl fEn))], [(b 17, .inl (cY 0, 6, .inl fEb))]] : List va_W).flatten := hD
  refine lv_iload_n hx hb dX8_draw_0 rfl (lv_at hl 1 rfl) ?_
  refine lv_iconst (v := nI 0) hx hb dX8_draw_1 (by decide) ?_
  refine lv_ldc (v := 65520) hx hb hown (hts (.constant RX8 178 65520) (by decide +kernel)) dX8_draw_2 ?_
  refine eqi (x' := nI 65520) (by decide) ?_
  refine ca_v (CL := []) (va_runS (As := [.int (nI x), .int (nI 0), .int (nI 65520)]) (rest := []) ⟨hx, hb, hml, hown, hts⟩ (c_X8_needRange_ok l D cY s.heap.size (nI x) (nI 0) (nI 65520) (inR_t (by omega) (by omega) (by omega))) (va_cwS 3 hts gX8_draw_X8_needRange rfl rfl rfl (by decide +kernel) ⟨Nat.le_of_ble_eq_true rfl, Nat.le_of_ble_eq_true rfl⟩) (b_preS hVK hP hD [] rfl rfl) rfl rfl hl.1 rfl (lv_room (Nat.le_of_ble_eq_true rfl)) dX8_draw_4 ⟨Nat.le_refl _, Nat.le_refl _⟩) hP hD hS hA [] rfl rfl (fun _ => rfl) (fun uu H locs hq hP hD hS => ?_)
  have hP : va_P D vwCl ([hO b, cO b (nI n) (nI k), dO b, oQ (cY 2) (b 2) (rr 0) 6, gI (cY 0) (rr 0) 12 fG 6, [(b 16, .inl (cY 0, 6, .inl fEn))], [(b 17, .inl (cY 0, 6, .inl fEb))]] : List va_W).flatten H := hP
  have hD : va_D A ([hO b, cO b (nI n) (nI k), dO b, oQ (cY 2) (b 2) (rr 0) 6, gI (cY 0) (rr 0) 12 fG 6, [(b 16, .inl (cY 0, 6, .inl fEn))], [(b 17, .inl (cY 0, 6, .inl fEb))]] : List va_W).flatten := hD
  refine lv_aload_n hx hb dX8_draw_7 rfl (lv_at hl 0 rfl) ?_
  refine b_get (ci := 8) (v := .ref (b 15)) (C := RX8) (T := TX8) (N := 8) hx hb hts (by decide +kernel) hown hK hP 0 rfl rfl 5 (by decide) (hts (.fieldLink RX8 49 "ChanceHall" "draws" "LChanceHall$Draws;") (by decide +kernel)) (fun _ h9 => h9) rfl dX8_draw_8 ?_
  refine lv_iload_n hx hb dX8_draw_11 rfl (lv_at hl 1 rfl) ?_
  refine ca_i (CL := [dO b, cO b (nI n) (nI k), oQ (cY 2) (b 2) (rr 0) 6, gI (cY 0) (rr 0) 12 fG 6, [(b 16, .inl (cY 0, 6, .inl fEn))], [(b 17, .inl (cY 0, 6, .inl fEb))]]) (va_runV (As := [.int (nI x)]) (rest := []) ⟨hx, hb, hml, hown, hts⟩ (c_X3_drawFromPast l D cY H.size b rr n k fG fEn fEb g x (by omega) (by omega) (by omega) (by omega) hG hgn (by omega)) (cwV 1 hts gX8_draw_X3_drawFromPast rfl rfl rfl (by decide +kernel) ⟨Nat.le_of_ble_eq_true rfl, Nat.le_of_ble_eq_true rfl⟩) (b_preV hVK hP hD [2, 1, 3, 4, 5, 6] rfl rfl 2 rfl rfl) rfl rfl hl.1 rfl (lv_room (Nat.le_of_ble_eq_true rfl)) dX8_draw_12 ⟨Nat.le_refl _, Nat.le_refl _⟩) hP hD hS hA [2, 1, 3, 4, 5, 6] rfl rfl (fun _ => rfl) (fun r12 uu H locs hq hP hD hS => ?_)
  obtain ⟨fEn1_1, fEb1_2⟩ := uu
  try dsimp only at hq
  subst hq
  have hP : va_P D vwCl ([hO b, cO b (nI n) (nI k), dO b, oQ (cY 2) (b 2) (rr 0) 6, gI (cY 0) (rr 0) 12 fG 6, [(b 16, .inl (cY 0, 6, .inl fEn1_1))], [(b 17, .inl (cY 0, 6, .inl fEb1_2))]] : List va_W).flatten H := hP
  have hD : va_D A ([hO b, cO b (nI n) (nI k), dO b, oQ (cY 2) (b 2) (rr 0) 6, gI (cY 0) (rr 0) 12 fG 6, [(b 16, .inl (cY 0, 6, .inl fEn1_1))], [(b 17, .inl (cY 0, 6, .inl fEb1_2))]] : List va_W).flatten := hD
  exact r_i hx hb hr hlocks hP hD hS (fEn1_1, fEb1_2) rfl (rfl) dX8_draw_15

set_option maxHeartbeats 4000000 in
set_option maxRecDepth 100000 in
theorem c_X8_drift_ok (l : Launch) (D : va_G) (cY : Nat → ClassId) (sz : Nat) (b : Nat → Nat) (rr : Nat → Nat → Nat) (n : Nat) (k : Nat) (fW : Nat → Nat → Int32) (fPy : Nat → Int32) (g : Nat → Nat → Nat) (i : Nat) (hn1 : 1 ≤ n) (hn6 : n ≤ 6) (hk1 : 1 ≤ k) (hk12 : k ≤ 12) (hW : ∀ i j, i < n → j < n → fW i j = nI (cnt (g i) j k)) (hi : i < n) : Met l yX8_drift wsX8_drift ({ frames := 2, cells := 0, slots := 0, locals := 80 }) (cP D cY [.ref (b 0), .int (nI i)] [hO b, cO b (nI n) (nI k), gO b, oQ (cY 2) (b 3) (rr 1) 6, gI (cY 0) (rr 1) 6 fW 6, [(b 19, .inl (cY 0, 6, .inl fPy))]] sz) (qL (S := Unit) D cY (fun r uu => r = DC fPy g n k i) (fun uu => [hO b, cO b (nI n) (nI k), gO b, oQ (cY 2) (b 3) (rr 1) 6, gI (cY 0) (rr 1) 6 fW 6, [(b 19, .inl (cY 0, 6, .inl fPy))]]) (va_A ([hO b, cO b (nI n) (nI k), gO b, oQ (cY 2) (b 3) (rr 1) 6, gI (cY 0) (rr 1) 6 fW 6, [(b 19, .inl (cY 0, 6, .inl fPy))]] : List va_W).flatten sz)) 0 0 (va_A ([hO b, cO b (nI n) (nI k), gO b, oQ (cY 2) (b 3) (rr 1) 6, gI (cY 0) (rr 1) 6 fW 6, [(b 19, .inl (cY 0, 6, .inl fPy))]] : List va_W).flatten sz) := by
  refine mtB (Qc := fun A => qL (S := Unit) D cY (fun r uu => r = DC fPy g n k i) (fun uu => [hO b, cO b (nI n) (nI k), gO b, oQ (cY 2) (b 3) (rr 1) 6, gI (cY 0) (rr 1) 6 fW 6, [(b 19, .inl (cY 0, 6, .inl fPy))]]) A) (cc := cX8_drift) (maxL := 2) (ret := (some .long)) (by decide) rfl (Nat.le_of_ble_eq_true rfl) ?_
  intro p e s m below meth c A ls hx hb hr hml hts hown hlocks hnm hsz hP hK hVK hD hS hA hl
  have hown : s.vm.findClass RX8 = some m.cls := hown
  have hl : lv_has ls 2 [(0, .ref (b 0)), (1, .int (nI i))] := hl
  have hP : va_P D vwCl ([hO b, cO b (nI n) (nI k), gO b, oQ (cY 2) (b 3) (rr 1) 6, gI (cY 0) (rr 1) 6 fW 6, [(b 19, .inl (cY 0, 6, .inl fPy))]] : List va_W).flatten s.heap := hP
  have hD : va_D A ([hO b, cO b (nI n) (nI k), gO b, oQ (cY 2) (b 3) (rr 1) 6, gI (cY 0) (rr 1) 6 fW 6, [(b 19, .inl (cY 0, 6, .inl fPy))]] : List va_W).flatten := hD
  refine lv_aload_n hx hb dX8_drift_0 rfl (lv_at hl 0 rfl) ?_
  refine lv_iload_n hx hb dX8_drift_1 rfl (lv_at hl 1 rfl) ?_
  refine ca_v (CL := [hO b, cO b (nI n) (nI k)]) (va_runV (As := [.int (nI i)]) (rest := []) ⟨hx, hb, hml, hown, hts⟩ (c_X8_needState_ok l D cY s.heap.size b n k i (by omega) (by omega) (by omega) (by omega) (by omega)) (cwV 1 hts gX8_drift_X8_needState rfl rfl rfl (by decide +kernel) ⟨Nat.le_of_ble_eq_true rfl, Nat.le_of_ble_eq_true rfl⟩) (b_preV hVK hP hD [0, 1] rfl rfl 0 rfl rfl) rfl rfl hl.1 rfl (lv_room (Nat.le_of_ble_eq_true rfl)) dX8_drift_2 ⟨Nat.le_refl _, Nat.le_refl _⟩) hP hD hS hA [0, 1] rfl rfl (fun _ => rfl) (fun uu H locs hq hP hD hS => ?_)
  have hP : va_P D vwCl ([hO b, cO b (nI n) (nI k), gO b, oQ (cY 2) (b 3) (rr 1) 6, gI (cY 0) (rr 1) 6 fW 6, [(b 19, .inl (cY 0, 6, .inl fPy))]] : List va_W).flatten H := hP
  have hD : va_D A ([hO b, cO b (nI n) (nI k), gO b, oQ (cY 2) (b 3) (rr 1) 6, gI (cY 0) (rr 1) 6 fW 6, [(b 19, .inl (cY 0, 6, .inl fPy))]] : List va_W).flatten := hD
  refine lv_aload_n hx hb dX8_drift_5 rfl (lv_at hl 0 rfl) ?_
  refine b_get (ci := 8) (v := .ref (b 18)) (C := RX8) (T := TX8) (N := 8) hx hb hts (by decide +kernel) hown hK hP 0 rfl rfl 6 (by decide) (hts (.fieldLink RX8 56 "ChanceHall" "games" "LChanceHall$Games;") (by decide +kernel)) (fun _ h9 => h9) rfl dX8_drift_6 ?_
  refine lv_iload_n hx hb dX8_drift_9 rfl (lv_at hl 1 rfl) ?_
  refine ca_l (CL := [gO b, cO b (nI n) (nI k), oQ (cY 2) (b 3) (rr 1) 6, gI (cY 0) (rr 1) 6 fW 6, [(b 19, .inl (cY 0, 6, .inl fPy))]]) (va_runV (As := [.int (nI i)]) (rest := []) ⟨hx, hb, hml, hown, hts⟩ (c_X4_driftOf l D cY H.size b rr n k fW fPy g i (by omega) (by omega) (by omega) (by omega) hW (by omega)) (cwV 1 hts gX8_drift_X4_driftOf rfl rfl rfl (by decide +kernel) ⟨Nat.le_of_ble_eq_true rfl, Nat.le_of_ble_eq_true rfl⟩) (b_preV hVK hP hD [2, 1, 3, 4, 5] rfl rfl 2 rfl rfl) rfl rfl hl.1 rfl (lv_room (Nat.le_of_ble_eq_true rfl)) dX8_drift_10 ⟨Nat.le_refl _, Nat.le_refl _⟩) hP hD hS hA [2, 1, 3, 4, 5] rfl rfl (fun _ => rfl) (fun r10 uu H locs hq hP hD hS => ?_)
  subst hq
  have hP : va_P D vwCl ([hO b, cO b (nI n) (nI k), gO b, oQ (cY 2) (b 3) (rr 1) 6, gI (cY 0) (rr 1) 6 fW 6, [(b 19, .inl (cY 0, 6, .inl fPy))]] : List va_W).flatten H := hP
  have hD : va_D A ([hO b, cO b (nI n) (nI k), gO b, oQ (cY 2) (b 3) (rr 1) 6, gI (cY 0) (rr 1) 6 fW 6, [(b 19, .inl (cY 0, 6, .inl fPy))]] : List va_W).flatten := hD
  exact r_l hx hb hr hlocks hP hD hS () rfl (rfl) dX8_drift_13

set_option maxHeartbeats 4000000 in
set_option maxRecDepth 100000 in
theorem c_X8_isFair_ok (l : Launch) (D : va_G) (cY : Nat → ClassId) (sz : Nat) (b : Nat → Nat) (rr : Nat → Nat → Nat) (n : Nat) (k : Nat) (fW : Nat → Nat → Int32) (fPy : Nat → Int32) (g : Nat → Nat → Nat) (hn1 : 1 ≤ n) (hn6 : n ≤ 6) (hk1 : 1 ≤ k) (hk12 : k ≤ 12) (hW : ∀ i j, i < n → j < n → fW i j = nI (cnt (g i) j k)) : Met l yX8_isFair wsX8_isFair ({ frames := 1, cells := 0, slots := 0, locals := 40 }) (cP D cY [.ref (b 0)] [hO b, cO b (nI n) (nI k), gO b, oQ (cY 2) (b 3) (rr 1) 6, gI (cY 0) (rr 1) 6 fW 6, [(b 19, .inl (cY 0, 6, .inl fPy))]] sz) (qI (S := Unit) D cY (fun r uu => r = bI (fairC fPy g n k)) (fun uu => [hO b, cO b (nI n) (nI k), gO b, oQ (cY 2) (b 3) (rr 1) 6, gI (cY 0) (rr 1) 6 fW 6, [(b 19, .inl (cY 0, 6, .inl fPy))]]) (va_A ([hO b, cO b (nI n) (nI k), gO b, oQ (cY 2) (b 3) (rr 1) 6, gI (cY 0) (rr 1) 6 fW 6, [(b 19, .inl (cY 0, 6, .inl fPy))]] : List va_W).flatten sz)) 0 0 (va_A ([hO b, cO b (nI n) (nI k), gO b, oQ (cY 2) (b 3) (rr 1) 6, gI (cY 0) (rr 1) 6 fW 6, [(b 19, .inl (cY 0, 6, .inl fPy))]] : List va_W).flatten sz) := by
  refine mtB (Qc := fun A => qI (S := Unit) D cY (fun r uu => r = bI (fairC fPy g n k)) (fun uu => [hO b, cO b (nI n) (nI k), gO b, oQ (cY 2) (b 3) (rr 1) 6, gI (cY 0) (rr 1) 6 fW 6, [(b 19, .inl (cY 0, 6, .inl fPy))]]) A) (cc := cX8_isFair) (maxL := 2) (ret := (some .boolean)) (by decide) rfl (Nat.le_of_ble_eq_true rfl) ?_
  intro p e s m below meth c A ls hx hb hr hml hts hown hlocks hnm hsz hP hK hVK hD hS hA hl
  have hown : s.vm.findClass RX8 = some m.cls := hown
  have hl : lv_has ls 2 [(0, .ref (b 0))] := hl
  have hP : va_P D vwCl ([hO b, cO b (nI n) (nI k), gO b, oQ (cY 2) (b 3) (rr 1) 6, gI (cY 0) (rr 1) 6 fW 6, [(b 19, .inl (cY 0, 6, .inl fPy))]] : List va_W).flatten s.heap := hP
  have hD : va_D A ([hO b, cO b (nI n) (nI k), gO b, oQ (cY 2) (b 3) (rr 1) 6, gI (cY 0) (rr 1) 6 fW 6, [(b 19, .inl (cY 0, 6, .inl fPy))]] : List va_W).flatten := hD
  refine lv_iconst (v := nI 0) hx hb dX8_isFair_0 (by decide) ?_
  refine lv_istore_n (lv' := [(1, .int (nI 0)), (0, .ref (b 0))]) hx hb dX8_isFair_1 rfl hl (by decide) rfl (fun ls hl => ?_)
  have L2 : ∀ q : Nat, q ≤ n →  (∀ o, o < q → decide (DC fPy g n k o = lN 0) = true) → ∀ (H : Heap) (locs : List Loc), va_P D vwCl ([hO b, cO b (nI n) (nI k), gO b, oQ (cY 2) (b 3) (rr 1) 6, gI (cY 0) (rr 1) 6 fW 6, [(b 19, .inl (cY 0, 6, .inl fPy))]] : List va_W).flatten H → va_D A ([hO b, cO b (nI n) (nI k), gO b, oQ (cY 2) (b 3) (rr 1) 6, gI (cY 0) (rr 1) 6 fW 6, [(b 19, .inl (cY 0, 6, .inl fPy))]] : List va_W).flatten → va_S A s.heap H locs → ∀ (ls : Array Slot), lv_has ls 2 [(0, .ref (b 0)), (1, .int (nI q))] → W p l e ({ frames := 1, cells := 0, slots := 0, locals := 40 }) s m ([.ref (b 0)] : List Value).toArray below meth c H locs 0 0 (MQ below (qI (S := Unit) D cY (fun r uu => r = bI (fairC fPy g n k)) (fun uu => [hO b, cO b (nI n) (nI k), gO b, oQ (cY 2) (b 3) (rr 1) 6, gI (cY 0) (rr 1) 6 fW 6, [(b 19, .inl (cY 0, 6, .inl fPy))]]) A) ([.ref (b 0)] : List Value).toArray s 0 0 A) (F0 m 2 ls []) := by
    refine lpW n ?_
    intro q bdq ih2  hI H locs hP hD hS ls hl
    refine lv_iload_n hx hb dX8_isFair_2 rfl (lv_at hl 1 rfl) ?_
    refine lv_aload_n hx hb dX8_isFair_3 rfl (lv_at hl 0 rfl) ?_
    refine b_get (ci := 8) (v := .ref (b 1)) (C := RX8) (T := TX8) (N := 8) hx hb hts (by decide +kernel) hown hK hP 0 rfl rfl 0 (by decide) (hts (.fieldLink RX8 10 "ChanceHall" "chain" "LChanceHall$Chain;") (by decide +kernel)) (fun _ h9 => h9) rfl dX8_isFair_4 ?_
    refine b_get (ci := 0) (v := .int (nI n)) (C := RX0) (T := TX0) (N := 4) hx hb hts (by decide +kernel) hown hK hP 1 rfl rfl 0 (by decide) (hts (.fieldLink RX8 171 "ChanceHall$Chain" "states" "I") (by decide +kernel)) (fun _ h9 => h9) rfl dX8_isFair_7 ?_
    refine n_icmp_ge (tgt := 34) hx hb dX8_isFair_10 (by decide) (by omega) (by omega) (fun h10 => ?_) (fun h10 => ?_)
    · -- t
      refine lv_iconst (v := nI 1) hx hb dX8_isFair_34 (by decide) ?_
      refine eqi (x' := bI true) rfl ?_
      exact r_z hx hb hr hlocks hP hD hS () rfl (congrArg bI (allB_iff.mpr (fun o ho => hI o (by omega))).symm) dX8_isFair_35
    · -- f
      refine lv_aload_n hx hb dX8_isFair_13 rfl (lv_at hl 0 rfl) ?_
      refine b_get (ci := 8) (v := .ref (b 18)) (C := RX8) (T := TX8) (N := 8) hx hb hts (by decide +kernel) hown hK hP 0 rfl rfl 6 (by decide) (hts (.fieldLink RX8 56 "ChanceHall" "games" "LChanceHall$Games;") (by decide +kernel)) (fun _ h9 => h9) rfl dX8_isFair_14 ?_
      refine lv_iload_n hx hb dX8_isFair_17 rfl (lv_at hl 1 rfl) ?_
      refine ca_l (CL := [gO b, cO b (nI n) (nI k), oQ (cY 2) (b 3) (rr 1) 6, gI (cY 0) (rr 1) 6 fW 6, [(b 19, .inl (cY 0, 6, .inl fPy))]]) (va_runV (As := [.int (nI q)]) (rest := []) ⟨hx, hb, hml, hown, hts⟩ (c_X4_driftOf l D cY H.size b rr n k fW fPy g q (by omega) (by omega) (by omega) (by omega) hW (by omega)) (cwV 1 hts gX8_isFair_X4_driftOf rfl rfl rfl (by decide +kernel) ⟨Nat.le_of_ble_eq_true rfl, Nat.le_of_ble_eq_true rfl⟩) (b_preV hVK hP hD [2, 1, 3, 4, 5] rfl rfl 2 rfl rfl) rfl rfl hl.1 rfl (lv_room (Nat.le_of_ble_eq_true rfl)) dX8_isFair_18 ⟨Nat.le_refl _, Nat.le_refl _⟩) hP hD hS hA [2, 1, 3, 4, 5] rfl rfl (fun _ => rfl) (fun r18 uu H locs hq hP hD hS => ?_)
      subst hq
      have hP : va_P D vwCl ([hO b, cO b (nI n) (nI k), gO b, oQ (cY 2) (b 3) (rr 1) 6, gI (cY 0) (rr 1) 6 fW 6, [(b 19, .inl (cY 0, 6, .inl fPy))]] : List va_W).flatten H := hP
      have hD : va_D A ([hO b, cO b (nI n) (nI k), gO b, oQ (cY 2) (b 3) (rr 1) 6, gI (cY 0) (rr 1) 6 fW 6, [(b 19, .inl (cY 0, 6, .inl fPy))]] : List va_W).flatten := hD
      refine lv_lconst (v := lN 0) hx hb dX8_isFair_21 (by decide) ?_
      refine W.lcmp hx hb dX8_isFair_22 ?_
      refine l_if_eq (tgt := 28) hx hb dX8_isFair_23 (by decide) (fun h23 => ?_) (fun h23 => ?_)
      · -- t
        refine lv_iinc (v := nI (q + 1)) (lv' := [(1, .int (nI (q + 1))), (0, .ref (b 0))]) hx hb dX8_isFair_28 hl (k := 1) rfl (nI_1 q) (by decide) rfl (fun ls hl => ?_)
        refine lv_goto (tgt := 2) hx hb dX8_isFair_31 (by decide) ?_
        exact ih2 (by omega)  (fun o ho => by
  by_cases e : o = q
  · rw [e]; exact dec_t h23
  · exact hI o (by omega)) _ _ hP hD hS _ (lv_sub hl [1, 0] rfl)
      · -- f
        refine lv_iconst (v := nI 0) hx hb dX8_isFair_26 (by decide) ?_
        refine eqi (x' := bI false) rfl ?_
        exact r_z hx hb hr hlocks hP hD hS () rfl (congrArg bI (allB_f (f := fun q => decide (DC fPy g n k q = lN 0)) (q := q) (by omega) (dec_f h23)).symm) dX8_isFair_27
  exact L2 0 (by omega)  (fun o h => by omega) _ _ hP hD hS _ (lv_sub hl [1, 0] rfl)

set_option maxHeartbeats 4000000 in
set_option maxRecDepth 100000 in
theorem c_X8_best_ok (l : Launch) (D : va_G) (cY : Nat → ClassId) (sz : Nat) (b : Nat → Nat) (rr : Nat → Nat → Nat) (n : Nat) (k : Nat) (fW : Nat → Nat → Int32) (fPy : Nat → Int32) (fB : Nat → Nat → Int64) (g : Nat → Nat → Nat) (i : Nat) (t : Nat) (hn1 : 1 ≤ n) (hn6 : n ≤ 6) (hk1 : 1 ≤ k) (hk12 : k ≤ 12) (hW : ∀ i j, i < n → j < n → fW i j = nI (cnt (g i) j k)) (hi : i < n) (ht : t ≤ 12) : Met l yX8_best wsX8_best ({ frames := 5, cells := 0, slots := 0, locals := 200 }) (cP D cY [.ref (b 0), .int (nI i), .int (nI t)] [hO b, cO b (nI n) (nI k), gO b, oQ (cY 2) (b 3) (rr 1) 6, gI (cY 0) (rr 1) 6 fW 6, [(b 19, .inl (cY 0, 6, .inl fPy))], oQ (cY 3) (b 20) (rr 6) 13, gJ (cY 1) (rr 6) 6 fB 13] sz) (qL (S := (Nat → Nat → Int64)) D cY (fun r uu => r = BC fPy g n k t i) (fun uu => [hO b, cO b (nI n) (nI k), gO b, oQ (cY 2) (b 3) (rr 1) 6, gI (cY 0) (rr 1) 6 fW 6, [(b 19, .inl (cY 0, 6, .inl fPy))], oQ (cY 3) (b 20) (rr 6) 13, gJ (cY 1) (rr 6) 6 uu 13]) (va_A ([hO b, cO b (nI n) (nI k), gO b, oQ (cY 2) (b 3) (rr 1) 6, gI (cY 0) (rr 1) 6 fW 6, [(b 19, .inl (cY 0, 6, .inl fPy))], oQ (cY 3) (b 20) (rr 6) 13, gJ (cY 1) (rr 6) 6 fB 13] : List va_W).flatten sz)) 0 0 (va_A ([hO b, cO b (nI n) (nI k), gO b, oQ (cY 2) (b 3) (rr 1) 6, gI (cY 0) (rr 1) 6 fW 6, [(b 19, .inl (cY 0, 6, .inl fPy))], oQ (cY 3) (b 20) (rr 6) 13, gJ (cY 1) (rr 6) 6 fB 13] : List va_W).flatten sz) := by
  refine mtB (Qc := fun A => qL (S := (Nat → Nat → Int64)) D cY (fun r uu => r = BC fPy g n k t i) (fun uu => [hO b, cO b (nI n) (nI k), gO b, oQ (cY 2) (b 3) (rr 1) 6, gI (cY 0) (rr 1) 6 fW 6, [(b 19, .inl (cY 0, 6, .inl fPy))], oQ (cY 3) (b 20) (rr 6) 13, gJ (cY 1) (rr 6) 6 uu 13]) A) (cc := cX8_best) (maxL := 3) (ret := (some .long)) (by decide) rfl (Nat.le_of_ble_eq_true rfl) ?_
  intro p e s m below meth c A ls hx hb hr hml hts hown hlocks hnm hsz hP hK hVK hD hS hA hl
  have hown : s.vm.findClass RX8 = some m.cls := hown
  have hl : lv_has ls 3 [(0, .ref (b 0)), (1, .int (nI i)), (2, .int (nI t))] := hl
  have hP : va_P D vwCl ([hO b, cO b (nI n) (nI k), gO b, oQ (cY 2) (b 3) (rr 1) 6, gI (cY 0) (rr 1) 6 fW 6, [(b 19, .inl (cY 0, 6, .inl fPy))], oQ (cY 3) (b 20) (rr 6) 13, gJ (cY 1) (rr 6) 6 fB 13] : List va_W).flatten s.heap := hP
  have hD : va_D A ([hO b, cO b (nI n) (nI k), gO b, oQ (cY 2) (b 3) (rr 1) 6, gI (cY 0) (rr 1) 6 fW 6, [(b 19, .inl (cY 0, 6, .inl fPy))], oQ (cY 3) (b 20) (rr 6) 13, gJ (cY 1) (rr 6) 6 fB 13] : List va_W).flatten := hD
  refine lv_aload_n hx hb dX8_best_0 rfl (lv_at hl 0 rfl) ?_
  refine lv_iload_n hx hb dX8_best_1 rfl (lv_at hl 1 rfl) ?_
  refine ca_v (CL := [hO b, cO b (nI n) (nI k)]) (va_runV (As := [.int (nI i)]) (rest := []) ⟨hx, hb, hml, hown, hts⟩ (c_X8_needState_ok l D cY s.heap.size b n k i (by omega) (by omega) (by omega) (by omega) (by omega)) (cwV 1 hts gX8_best_X8_needState rfl rfl rfl (by decide +kernel) ⟨Nat.le_of_ble_eq_true rfl, Nat.le_of_ble_eq_true rfl⟩) (b_preV hVK hP hD [0, 1] rfl rfl 0 rfl rfl) rfl rfl hl.1 rfl (lv_room (Nat.le_of_ble_eq_true rfl)) dX8_best_2 ⟨Nat.le_refl _, Nat.le_refl _⟩) hP hD hS hA [0, 1] rfl rfl (fun _ => rfl) (fun uu H locs hq hP hD hS => ?_)
  have hP : va_P D vwCl ([hO b, cO b (nI n) (nI k), gO b, oQ (cY 2) (b 3) (rr 1) 6, gI (cY 0) (rr 1) 6 fW 6, [(b 19, .inl (cY 0, 6, .inl fPy))], oQ (cY 3) (b 20) (rr 6) 13, gJ (cY 1) (rr 6) 6 fB 13] : List va_W).flatten H := hP
  have hD : va_D A ([hO b, cO b (nI n) (nI k), gO b, oQ (cY 2) (b 3) (rr 1) 6, gI (cY 0) (rr 1) 6 fW 6, [(b 19, .inl (cY 0, 6, .inl fPy))], oQ (cY 3) (b 20) (rr 6) 13, gJ (cY 1) (rr 6) 6 fB 13] : List va_W).flatten := hD
  refine lv_iload_n hx hb dX8_best_5 rfl (lv_at hl 2 rfl) ?_
  refine lv_iconst (v := nI 0) hx hb dX8_best_6 (by decide) ?_
  refine lv_bipush (v := nI 12) hx hb dX8_best_7 (by decide) ?_
  refine ca_v (CL := []) (va_runS (As := [.int (nI t), .int (nI 0), .int (nI 12)]) (rest := []) ⟨hx, hb, hml, hown, hts⟩ (c_X8_needRange_ok l D cY H.size (nI t) (nI 0) (nI 12) (inR_t (by omega) (by omega) (by omega))) (va_cwS 3 hts gX8_best_X8_needRange rfl rfl rfl (by decide +kernel) ⟨Nat.le_of_ble_eq_true rfl, Nat.le_of_ble_eq_true rfl⟩) (b_preS hVK hP hD [] rfl rfl) rfl rfl hl.1 rfl (lv_room (Nat.le_of_ble_eq_true rfl)) dX8_best_9 ⟨Nat.le_refl _, Nat.le_refl _⟩) hP hD hS hA [] rfl rfl (fun _ => rfl) (fun uu H locs hq hP hD hS => ?_)
  have hP : va_P D vwCl ([hO b, cO b (nI n) (nI k), gO b, oQ (cY 2) (b 3) (rr 1) 6, gI (cY 0) (rr 1) 6 fW 6, [(b 19, .inl (cY 0, 6, .inl fPy))], oQ (cY 3) (b 20) (rr 6) 13, gJ (cY 1) (rr 6) 6 fB 13] : List va_W).flatten H := hP
  have hD : va_D A ([hO b, cO b (nI n) (nI k), gO b, oQ (cY 2) (b 3) (rr 1) 6, gI (cY 0) (rr 1) 6 fW 6, [(b 19, .inl (cY 0, 6, .inl fPy))], oQ (cY 3) (b 20) (rr 6) 13, gJ (cY 1) (rr 6) 6 fB 13] : List va_W).flatten := hD
  refine lv_aload_n hx hb dX8_best_12 rfl (lv_at hl 0 rfl) ?_
  refine b_get (ci := 8) (v := .ref (b 18)) (C := RX8) (T := TX8) (N := 8) hx hb hts (by decide +kernel) hown hK hP 0 rfl rfl 6 (by decide) (hts (.fieldLink RX8 56 "ChanceHall" "games" "LChanceHall$Games;") (by decide +kernel)) (fun _ h9 => h9) rfl dX8_best_13 ?_
  refine lv_iload_n hx hb dX8_best_16 rfl (lv_at hl 1 rfl) ?_
  refine lv_iload_n hx hb dX8_best_17 rfl (lv_at hl 2 rfl) ?_
  refine ca_l (CL := [gO b, cO b (nI n) (nI k), oQ (cY 2) (b 3) (rr 1) 6, gI (cY 0) (rr 1) 6 fW 6, [(b 19, .inl (cY 0, 6, .inl fPy))], oQ (cY 3) (b 20) (rr 6) 13, gJ (cY 1) (rr 6) 6 fB 13]) (va_runV (As := [.int (nI i), .int (nI t)]) (rest := []) ⟨hx, hb, hml, hown, hts⟩ (c_X4_bestOf l D cY H.size b rr n k fW fPy fB g i t (by omega) (by omega) (by omega) (by omega) hW (by omega) (by omega)) (cwV 2 hts gX8_best_X4_bestOf rfl rfl rfl (by decide +kernel) ⟨Nat.le_of_ble_eq_true rfl, Nat.le_of_ble_eq_true rfl⟩) (b_preV hVK hP hD [2, 1, 3, 4, 5, 6, 7] rfl rfl 2 rfl rfl) rfl rfl hl.1 rfl (lv_room (Nat.le_of_ble_eq_true rfl)) dX8_best_18 ⟨Nat.le_refl _, Nat.le_refl _⟩) hP hD hS hA [2, 1, 3, 4, 5, 6, 7] rfl rfl (fun _ => rfl) (fun r18 uu H locs hq hP hD hS => ?_)
  obtain ⟨fB1_1, rfl⟩ : ∃ z, z = uu := ⟨_, rfl⟩
  try dsimp only at hq
  subst hq
  have hP : va_P D vwCl ([hO b, cO b (nI n) (nI k), gO b, oQ (cY 2) (b 3) (rr 1) 6, gI (cY 0) (rr 1) 6 fW 6, [(b 19, .inl (cY 0, 6, .inl fPy))], oQ (cY 3) (b 20) (rr 6) 13, gJ (cY 1) (rr 6) 6 fB1_1 13] : List va_W).flatten H := hP
  have hD : va_D A ([hO b, cO b (nI n) (nI k), gO b, oQ (cY 2) (b 3) (rr 1) 6, gI (cY 0) (rr 1) 6 fW 6, [(b 19, .inl (cY 0, 6, .inl fPy))], oQ (cY 3) (b 20) (rr 6) 13, gJ (cY 1) (rr 6) 6 fB1_1 13] : List va_W).flatten := hD
  exact r_l hx hb hr hlocks hP hD hS fB1_1 rfl (rfl) dX8_best_21

set_option maxHeartbeats 4000000 in
set_option maxRecDepth 100000 in
theorem c_X8_stops_ok (l : Launch) (D : va_G) (cY : Nat → ClassId) (sz : Nat) (b : Nat → Nat) (rr : Nat → Nat → Nat) (n : Nat) (k : Nat) (fW : Nat → Nat → Int32) (fPy : Nat → Int32) (fB : Nat → Nat → Int64) (g : Nat → Nat → Nat) (i : Nat) (t : Nat) (hn1 : 1 ≤ n) (hn6 : n ≤ 6) (hk1 : 1 ≤ k) (hk12 : k ≤ 12) (hW : ∀ i j, i < n → j < n → fW i j = nI (cnt (g i) j k)) (hi : i < n) (ht : t ≤ 12) : Met l yX8_stops wsX8_stops ({ frames := 5, cells := 0, slots := 0, locals := 200 }) (cP D cY [.ref (b 0), .int (nI i), .int (nI t)] [hO b, cO b (nI n) (nI k), gO b, oQ (cY 2) (b 3) (rr 1) 6, gI (cY 0) (rr 1) 6 fW 6, [(b 19, .inl (cY 0, 6, .inl fPy))], oQ (cY 3) (b 20) (rr 6) 13, gJ (cY 1) (rr 6) 6 fB 13] sz) (qI (S := (Nat → Nat → Int64)) D cY (fun r uu => r = bI (stC fPy g n k i t)) (fun uu => [hO b, cO b (nI n) (nI k), gO b, oQ (cY 2) (b 3) (rr 1) 6, gI (cY 0) (rr 1) 6 fW 6, [(b 19, .inl (cY 0, 6, .inl fPy))], oQ (cY 3) (b 20) (rr 6) 13, gJ (cY 1) (rr 6) 6 uu 13]) (va_A ([hO b, cO b (nI n) (nI k), gO b, oQ (cY 2) (b 3) (rr 1) 6, gI (cY 0) (rr 1) 6 fW 6, [(b 19, .inl (cY 0, 6, .inl fPy))], oQ (cY 3) (b 20) (rr 6) 13, gJ (cY 1) (rr 6) 6 fB 13] : List va_W).flatten sz)) 0 0 (va_A ([hO b, cO b (nI n) (nI k), gO b, oQ (cY 2) (b 3) (rr 1) 6, gI (cY 0) (rr 1) 6 fW 6, [(b 19, .inl (cY 0, 6, .inl fPy))], oQ (cY 3) (b 20) (rr 6) 13, gJ (cY 1) (rr 6) 6 fB 13] : List va_W).flatten sz) := by
  refine mtB (Qc := fun A => qI (S := (Nat → Nat → Int64)) D cY (fun r uu => r = bI (stC fPy g n k i t)) (fun uu => [hO b, cO b (nI n) (nI k), gO b, oQ (cY 2) (b 3) (rr 1) 6, gI (cY 0) (rr 1) 6 fW 6, [(b 19, .inl (cY 0, 6, .inl fPy))], oQ (cY 3) (b 20) (rr 6) 13, gJ (cY 1) (rr 6) 6 uu 13]) A) (cc := cX8_stops) (maxL := 3) (ret := (some .boolean)) (by decide) rfl (Nat.le_of_ble_eq_true rfl) ?_
  intro p e s m below meth c A ls hx hb hr hml hts hown hlocks hnm hsz hP hK hVK hD hS hA hl
  have hown : s.vm.findClass RX8 = some m.cls := hown
  have hl : lv_has ls 3 [(0, .ref (b 0)), (1, .int (nI i)), (2, .int (nI t))] := hl
  have hP : va_P D vwCl ([hO b, cO b (nI n) (nI k), gO b, oQ (cY 2) (b 3) (rr 1) 6, gI (cY 0) (rr 1) 6 fW 6, [(b 19, .inl (cY 0, 6, .inl fPy))], oQ (cY 3) (b 20) (rr 6) 13, gJ (cY 1) (rr 6) 6 fB 13] : List va_W).flatten s.heap := hP
  have hD : va_D A ([hO b, cO b (nI n) (nI k), gO b, oQ (cY 2) (b 3) (rr 1) 6, gI (cY 0) (rr 1) 6 fW 6, [(b 19, .inl (cY 0, 6, .inl fPy))], oQ (cY 3) (b 20) (rr 6) 13, gJ (cY 1) (rr 6) 6 fB 13] : List va_W).flatten := hD
  refine lv_aload_n hx hb dX8_stops_0 rfl (lv_at hl 0 rfl) ?_
  refine lv_iload_n hx hb dX8_stops_1 rfl (lv_at hl 1 rfl) ?_
  refine ca_v (CL := [hO b, cO b (nI n) (nI k)]) (va_runV (As := [.int (nI i)]) (rest := []) ⟨hx, hb, hml, hown, hts⟩ (c_X8_needState_ok l D cY s.heap.size b n k i (by omega) (by omega) (by omega) (by omega) (by omega)) (cwV 1 hts gX8_stops_X8_needState rfl rfl rfl (by decide +kernel) ⟨Nat.le_of_ble_eq_true rfl, Nat.le_of_ble_eq_true rfl⟩) (b_preV hVK hP hD [0, 1] rfl rfl 0 rfl rfl) rfl rfl hl.1 rfl (lv_room (Nat.le_of_ble_eq_true rfl)) dX8_stops_2 ⟨Nat.le_refl _, Nat.le_refl _⟩) hP hD hS hA [0, 1] rfl rfl (fun _ => rfl) (fun uu H locs hq hP hD hS => ?_)
  have hP : va_P D vwCl ([hO b, cO b (nI n) (nI k), gO b, oQ (cY 2) (b 3) (rr 1) 6, gI (cY 0) (rr 1) 6 fW 6, [(b 19, .inl (cY 0, 6, .inl fPy))], oQ (cY 3) (b 20) (rr 6) 13, gJ (cY 1) (rr 6) 6 fB 13] : List va_W).flatten H := hP
  have hD : va_D A ([hO b, cO b (nI n) (nI k), gO b, oQ (cY 2) (b 3) (rr 1) 6, gI (cY 0) (rr 1) 6 fW 6, [(b 19, .inl (cY 0, 6, .inl fPy))], oQ (cY 3) (b 20) (rr 6) 13, gJ (cY 1) (rr 6) 6 fB 13] : List va_W).flatten := hD
  refine lv_iload_n hx hb dX8_stops_5 rfl (lv_at hl 2 rfl) ?_
  refine lv_iconst (v := nI 0) hx hb dX8_stops_6 (by decide) ?_
  refine lv_bipush (v := nI 12) hx hb dX8_stops_7 (by decide) ?_
  refine ca_v (CL := []) (va_runS (As := [.int (nI t), .int (nI 0), .int (nI 12)]) (rest := []) ⟨hx, hb, hml, hown, hts⟩ (c_X8_needRange_ok l D cY H.size (nI t) (nI 0) (nI 12) (inR_t (by omega) (by omega) (by omega))) (va_cwS 3 hts gX8_stops_X8_needRange rfl rfl rfl (by decide +kernel) ⟨Nat.le_of_ble_eq_true rfl, Nat.le_of_ble_eq_true rfl⟩) (b_preS hVK hP hD [] rfl rfl) rfl rfl hl.1 rfl (lv_room (Nat.le_of_ble_eq_true rfl)) dX8_stops_9 ⟨Nat.le_refl _, Nat.le_refl _⟩) hP hD hS hA [] rfl rfl (fun _ => rfl) (fun uu H locs hq hP hD hS => ?_)
  have hP : va_P D vwCl ([hO b, cO b (nI n) (nI k), gO b, oQ (cY 2) (b 3) (rr 1) 6, gI (cY 0) (rr 1) 6 fW 6, [(b 19, .inl (cY 0, 6, .inl fPy))], oQ (cY 3) (b 20) (rr 6) 13, gJ (cY 1) (rr 6) 6 fB 13] : List va_W).flatten H := hP
  have hD : va_D A ([hO b, cO b (nI n) (nI k), gO b, oQ (cY 2) (b 3) (rr 1) 6, gI (cY 0) (rr 1) 6 fW 6, [(b 19, .inl (cY 0, 6, .inl fPy))], oQ (cY 3) (b 20) (rr 6) 13, gJ (cY 1) (rr 6) 6 fB 13] : List va_W).flatten := hD
  refine lv_aload_n hx hb dX8_stops_12 rfl (lv_at hl 0 rfl) ?_
  refine b_get (ci := 8) (v := .ref (b 18)) (C := RX8) (T := TX8) (N := 8) hx hb hts (by decide +kernel) hown hK hP 0 rfl rfl 6 (by decide) (hts (.fieldLink RX8 56 "ChanceHall" "games" "LChanceHall$Games;") (by decide +kernel)) (fun _ h9 => h9) rfl dX8_stops_13 ?_
  refine lv_iload_n hx hb dX8_stops_16 rfl (lv_at hl 1 rfl) ?_
  refine lv_iload_n hx hb dX8_stops_17 rfl (lv_at hl 2 rfl) ?_
  refine ca_i (CL := [gO b, cO b (nI n) (nI k), oQ (cY 2) (b 3) (rr 1) 6, gI (cY 0) (rr 1) 6 fW 6, [(b 19, .inl (cY 0, 6, .inl fPy))], oQ (cY 3) (b 20) (rr 6) 13, gJ (cY 1) (rr 6) 6 fB 13]) (va_runV (As := [.int (nI i), .int (nI t)]) (rest := []) ⟨hx, hb, hml, hown, hts⟩ (c_X4_isBestToStop l D cY H.size b rr n k fW fPy fB g i t (by omega) (by omega) (by omega) (by omega) hW (by omega) (by omega)) (cwV 2 hts gX8_stops_X4_isBestToStop rfl rfl rfl (by decide +kernel) ⟨Nat.le_of_ble_eq_true rfl, Nat.le_of_ble_eq_true rfl⟩) (b_preV hVK hP hD [2, 1, 3, 4, 5, 6, 7] rfl rfl 2 rfl rfl) rfl rfl hl.1 rfl (lv_room (Nat.le_of_ble_eq_true rfl)) dX8_stops_18 ⟨Nat.le_refl _, Nat.le_refl _⟩) hP hD hS hA [2, 1, 3, 4, 5, 6, 7] rfl rfl (fun _ => rfl) (fun r18 uu H locs hq hP hD hS => ?_)
  obtain ⟨fB1_1, rfl⟩ : ∃ z, z = uu := ⟨_, rfl⟩
  try dsimp only at hq
  subst hq
  have hP : va_P D vwCl ([hO b, cO b (nI n) (nI k), gO b, oQ (cY 2) (b 3) (rr 1) 6, gI (cY 0) (rr 1) 6 fW 6, [(b 19, .inl (cY 0, 6, .inl fPy))], oQ (cY 3) (b 20) (rr 6) 13, gJ (cY 1) (rr 6) 6 fB1_1 13] : List va_W).flatten H := hP
  have hD : va_D A ([hO b, cO b (nI n) (nI k), gO b, oQ (cY 2) (b 3) (rr 1) 6, gI (cY 0) (rr 1) 6 fW 6, [(b 19, .inl (cY 0, 6, .inl fPy))], oQ (cY 3) (b 20) (rr 6) 13, gJ (cY 1) (rr 6) 6 fB1_1 13] : List va_W).flatten := hD
  exact r_z hx hb hr hlocks hP hD hS fB1_1 rfl (rfl) dX8_stops_21

set_option maxHeartbeats 4000000 in
set_option maxRecDepth 100000 in
theorem c_X8_reverses_ok (l : Launch) (D : va_G) (cY : Nat → ClassId) (sz : Nat) (b : Nat → Nat) (rr : Nat → Nat → Nat) (n : Nat) (k : Nat) (fW : Nat → Nat → Int32) (fRs : Nat → Int64) (fOt : Nat → Int32) (fMi : Nat → Int64) (g : Nat → Nat → Nat) (hn1 : 1 ≤ n) (hn6 : n ≤ 6) (hk1 : 1 ≤ k) (hk12 : k ≤ 12) (hW : ∀ i j, i < n → j < n → fW i j = nI (cnt (g i) j k)) : Met l yX8_reverses wsX8_reverses ({ frames := 6, cells := 0, slots := 0, locals := 240 }) (cP D cY [.ref (b 0)] [hO b, cO b (nI n) (nI k), tO b, oQ (cY 2) (b 3) (rr 1) 6, gI (cY 0) (rr 1) 6 fW 6, [(b 12, .inl (cY 1, 6, .inr (.inl fRs)))], [(b 13, .inl (cY 0, 6, .inl fOt))], [(b 14, .inl (cY 1, 32, .inr (.inl fMi)))]] sz) (qI (S := (Nat → Int64) × (Nat → Int32) × (Nat → Int64)) D cY (fun r uu => r = bI (revA g n k)) (fun uu => [hO b, cO b (nI n) (nI k), tO b, oQ (cY 2) (b 3) (rr 1) 6, gI (cY 0) (rr 1) 6 fW 6, [(b 12, .inl (cY 1, 6, .inr (.inl uu.1)))], [(b 13, .inl (cY 0, 6, .inl uu.2.1))], [(b 14, .inl (cY 1, 32, .inr (.inl uu.2.2)))]]) (va_A ([hO b, cO b (nI n) (nI k), tO b, oQ (cY 2) (b 3) (rr 1) 6, gI (cY 0) (rr 1) 6 fW 6, [(b 12, .inl (cY 1, 6, .inr (.inl fRs)))], [(b 13, .inl (cY 0, 6, .inl fOt))], [(b 14, .inl (cY 1, 32, .inr (.inl fMi)))]] : List va_W).flatten sz)) 0 0 (va_A ([hO b, cO b (nI n) (nI k), tO b, oQ (cY 2) (b 3) (rr 1) 6, gI (cY 0) (rr 1) 6 fW 6, [(b 12, .inl (cY 1, 6, .inr (.inl fRs)))], [(b 13, .inl (cY 0, 6, .inl fOt))], [(b 14, .inl (cY 1, 32, .inr (.inl fMi)))]] : List va_W).flatten sz) := by
  refine mtB (Qc := fun A => qI (S := (Nat → Int64) × (Nat → Int32) × (Nat → Int64)) D cY (fun r uu => r = bI (revA g n k)) (fun uu => [hO b, cO b (nI n) (nI k), tO b, oQ (cY 2) (b 3) (rr 1) 6, gI (cY 0) (rr 1) 6 fW 6, [(b 12, .inl (cY 1, 6, .inr (.inl uu.1)))], [(b 13, .inl (cY 0, 6, .inl uu.2.1))], [(b 14, .inl (cY 1, 32, .inr (.inl uu.2.2)))]]) A) (cc := cX8_reverses) (maxL := 1) (ret := (some .boolean)) (by decide) rfl (Nat.le_of_ble_eq_true rfl) ?_
  intro p e s m below meth c A ls hx hb hr hml hts hown hlocks hnm hsz hP hK hVK hD hS hA hl
  have hown : s.vm.findClass RX8 = some m.cls := hown
  have hl : lv_has ls 1 [(0, .ref (b 0))] := hl
  have hP : va_P D vwCl ([hO b, cO b (nI n) (nI k), tO b, oQ (cY 2) (b 3) (rr 1) 6, gI (cY 0) (rr 1) 6 fW 6, [(b 12, .inl (cY 1, 6, .inr (.inl fRs)))], [(b 13, .inl (cY 0, 6, .inl fOt))], [(b 14, .inl (cY 1, 32, .inr (.inl fMi)))]] : List va_W).flatten s.heap := hP
  have hD : va_D A ([hO b, cO b (nI n) (nI k), tO b, oQ (cY 2) (b 3) (rr 1) 6, gI (cY 0) (rr 1) 6 fW 6, [(b 12, .inl (cY 1, 6, .inr (.inl fRs)))], [(b 13, .inl (cY 0, 6, .inl fOt))], [(b 14, .inl (cY 1, 32, .inr (.inl fMi)))]] : List va_W).flatten := hD
  refine lv_aload_n hx hb dX8_reverses_0 rfl (lv_at hl 0 rfl) ?_
  refine b_get (ci := 8) (v := .ref (b 11)) (C := RX8) (T := TX8) (N := 8) hx hb hts (by decide +kernel) hown hK hP 0 rfl rfl 4 (by decide) (hts (.fieldLink RX8 42 "ChanceHall" "trees" "LChanceHall$Trees;") (by decide +kernel)) (fun _ h9 => h9) rfl dX8_reverses_1 ?_
  refine ca_i (CL := [tO b, cO b (nI n) (nI k), oQ (cY 2) (b 3) (rr 1) 6, gI (cY 0) (rr 1) 6 fW 6, [(b 12, .inl (cY 1, 6, .inr (.inl fRs)))], [(b 13, .inl (cY 0, 6, .inl fOt))], [(b 14, .inl (cY 1, 32, .inr (.inl fMi)))]]) (va_runV (As := []) (rest := []) ⟨hx, hb, hml, hown, hts⟩ (c_X7_isTheSameBackwards l D cY s.heap.size b rr n k fW fRs fOt fMi g (by omega) (by omega) (by omega) (by omega) hW) (cwV 0 hts gX8_reverses_X7_isTheSameBackwards rfl rfl rfl (by decide +kernel) ⟨Nat.le_of_ble_eq_true rfl, Nat.le_of_ble_eq_true rfl⟩) (b_preV hVK hP hD [2, 1, 3, 4, 5, 6, 7] rfl rfl 2 rfl rfl) rfl rfl hl.1 rfl (lv_room (Nat.le_of_ble_eq_true rfl)) dX8_reverses_4 ⟨Nat.le_refl _, Nat.le_refl _⟩) hP hD hS hA [2, 1, 3, 4, 5, 6, 7] rfl rfl (fun _ => rfl) (fun r4 uu H locs hq hP hD hS => ?_)
  obtain ⟨fRs1_1, fOt1_2, fMi1_3⟩ := uu
  try dsimp only at hq
  subst hq
  have hP : va_P D vwCl ([hO b, cO b (nI n) (nI k), tO b, oQ (cY 2) (b 3) (rr 1) 6, gI (cY 0) (rr 1) 6 fW 6, [(b 12, .inl (cY 1, 6, .inr (.inl fRs1_1)))], [(b 13, .inl (cY 0, 6, .inl fOt1_2))], [(b 14, .inl (cY 1, 32, .inr (.inl fMi1_3)))]] : List va_W).flatten H := hP
  have hD : va_D A ([hO b, cO b (nI n) (nI k), tO b, oQ (cY 2) (b 3) (rr 1) 6, gI (cY 0) (rr 1) 6 fW 6, [(b 12, .inl (cY 1, 6, .inr (.inl fRs1_1)))], [(b 13, .inl (cY 0, 6, .inl fOt1_2))], [(b 14, .inl (cY 1, 32, .inr (.inl fMi1_3)))]] : List va_W).flatten := hD
  exact r_z hx hb hr hlocks hP hD hS (fRs1_1, fOt1_2, fMi1_3) rfl (rfl) dX8_reverses_7

set_option maxHeartbeats 4000000 in
set_option maxRecDepth 100000 in
theorem c_X8_isLumped_ok (l : Launch) (D : va_G) (cY : Nat → ClassId) (sz : Nat) (b : Nat → Nat) (rr : Nat → Nat → Nat) (n : Nat) (k : Nat) (fW : Nat → Nat → Int32) (fCc : Nat → Int32) (g : Nat → Nat → Nat) (col : Nat → Nat) (hn1 : 1 ≤ n) (hn6 : n ≤ 6) (hk1 : 1 ≤ k) (hk12 : k ≤ 12) (hW : ∀ i j, i < n → j < n → fW i j = nI (cnt (g i) j k)) (hC : ∀ j, j < n → fCc j = nI (col j)) (hcl : ∀ j, j < n → col j < 6) : Met l yX8_isLumped wsX8_isLumped ({ frames := 3, cells := 0, slots := 0, locals := 120 }) (cP D cY [.ref (b 0)] [hO b, cO b (nI n) (nI k), uO b, oQ (cY 2) (b 3) (rr 1) 6, gI (cY 0) (rr 1) 6 fW 6, [(b 22, .inl (cY 0, 6, .inl fCc))]] sz) (qI (S := Unit) D cY (fun r uu => r = bI (lmA g n k col)) (fun uu => [hO b, cO b (nI n) (nI k), uO b, oQ (cY 2) (b 3) (rr 1) 6, gI (cY 0) (rr 1) 6 fW 6, [(b 22, .inl (cY 0, 6, .inl fCc))]]) (va_A ([hO b, cO b (nI n) (nI k), uO b, oQ (cY 2) (b 3) (rr 1) 6, gI (cY 0) (rr 1) 6 fW 6, [(b 22, .inl (cY 0, 6, .inl fCc))]] : List va_W).flatten sz)) 0 0 (va_A ([hO b, cO b (nI n) (nI k), uO b, oQ (cY 2) (b 3) (rr 1) 6, gI (cY 0) (rr 1) 6 fW 6, [(b 22, .inl (cY 0, 6, .inl fCc))]] : List va_W).flatten sz) := by
  refine mtB (Qc := fun A => qI (S := Unit) D cY (fun r uu => r = bI (lmA g n k col)) (fun uu => [hO b, cO b (nI n) (nI k), uO b, oQ (cY 2) (b 3) (rr 1) 6, gI (cY 0) (rr 1) 6 fW 6, [(b 22, .inl (cY 0, 6, .inl fCc))]]) A) (cc := cX8_isLumped) (maxL := 1) (ret := (some .boolean)) (by decide) rfl (Nat.le_of_ble_eq_true rfl) ?_
  intro p e s m below meth c A ls hx hb hr hml hts hown hlocks hnm hsz hP hK hVK hD hS hA hl
  have hown : s.vm.findClass RX8 = some m.cls := hown
  have hl : lv_has ls 1 [(0, .ref (b 0))] := hl
  have hP : va_P D vwCl ([hO b, cO b (nI n) (nI k), uO b, oQ (cY 2) (b 3) (rr 1) 6, gI (cY 0) (rr 1) 6 fW 6, [(b 22, .inl (cY 0, 6, .inl fCc))]] : List va_W).flatten s.heap := hP
  have hD : va_D A ([hO b, cO b (nI n) (nI k), uO b, oQ (cY 2) (b 3) (rr 1) 6, gI (cY 0) (rr 1) 6 fW 6, [(b 22, .inl (cY 0, 6, .inl fCc))]] : List va_W).flatten := hD
  refine lv_aload_n hx hb dX8_isLumped_0 rfl (lv_at hl 0 rfl) ?_
  refine b_get (ci := 8) (v := .ref (b 21)) (C := RX8) (T := TX8) (N := 8) hx hb hts (by decide +kernel) hown hK hP 0 rfl rfl 7 (by decide) (hts (.fieldLink RX8 63 "ChanceHall" "lumps" "LChanceHall$Lumps;") (by decide +kernel)) (fun _ h9 => h9) rfl dX8_isLumped_1 ?_
  refine ca_i (CL := [uO b, cO b (nI n) (nI k), oQ (cY 2) (b 3) (rr 1) 6, gI (cY 0) (rr 1) 6 fW 6, [(b 22, .inl (cY 0, 6, .inl fCc))]]) (va_runV (As := []) (rest := []) ⟨hx, hb, hml, hown, hts⟩ (c_X6_isChainLumped l D cY s.heap.size b rr n k fW fCc g col (by omega) (by omega) (by omega) (by omega) hW hC hcl) (cwV 0 hts gX8_isLumped_X6_isChainLumped rfl rfl rfl (by decide +kernel) ⟨Nat.le_of_ble_eq_true rfl, Nat.le_of_ble_eq_true rfl⟩) (b_preV hVK hP hD [2, 1, 3, 4, 5] rfl rfl 2 rfl rfl) rfl rfl hl.1 rfl (lv_room (Nat.le_of_ble_eq_true rfl)) dX8_isLumped_4 ⟨Nat.le_refl _, Nat.le_refl _⟩) hP hD hS hA [2, 1, 3, 4, 5] rfl rfl (fun _ => rfl) (fun r4 uu H locs hq hP hD hS => ?_)
  subst hq
  have hP : va_P D vwCl ([hO b, cO b (nI n) (nI k), uO b, oQ (cY 2) (b 3) (rr 1) 6, gI (cY 0) (rr 1) 6 fW 6, [(b 22, .inl (cY 0, 6, .inl fCc))]] : List va_W).flatten H := hP
  have hD : va_D A ([hO b, cO b (nI n) (nI k), uO b, oQ (cY 2) (b 3) (rr 1) 6, gI (cY 0) (rr 1) 6 fW 6, [(b 22, .inl (cY 0, 6, .inl fCc))]] : List va_W).flatten := hD
  exact r_z hx hb hr hlocks hP hD hS () rfl (rfl) dX8_isLumped_7

set_option maxHeartbeats 4000000 in
set_option maxRecDepth 100000 in
theorem c_X8_begin_ok (l : Launch) (D : va_G) (cY : Nat → ClassId) (sz : Nat) (b : Nat → Nat) (rr : Nat → Nat → Nat) (st0 : Int32) (sl0 : Int32) (fG : Nat → Nat → Int32) (fW : Nat → Nat → Int32) (fPy : Nat → Int32) (fCc : Nat → Int32) (n2 : Nat) (k2 : Nat) (h1 : 1 ≤ n2) (h2 : n2 ≤ 6) (h3 : 1 ≤ k2) (h4 : k2 ≤ 12) : Met l yX8_begin wsX8_begin ({ frames := 2, cells := 0, slots := 0, locals := 80 }) (cP D cY [.ref (b 0), .int (nI n2), .int (nI k2)] [hO b, cO b st0 sl0, oQ (cY 2) (b 2) (rr 0) 6, gI (cY 0) (rr 0) 12 fG 6, oQ (cY 2) (b 3) (rr 1) 6, gI (cY 0) (rr 1) 6 fW 6, gO b, [(b 19, .inl (cY 0, 6, .inl fPy))], uO b, [(b 22, .inl (cY 0, 6, .inl fCc))]] sz) (qV (S := (Nat → Nat → Int32) × (Nat → Nat → Int32) × (Nat → Int32) × (Nat → Int32)) D cY (fun uu => ((∀ i j, i < 6 → j < 12 → uu.1 i j = nI i) ∧ ∀ i j, i < 6 → j < 6 → uu.2.1 i j = (if i = j then nI k2 else nI 0)) ∧ (∀ j, j < 6 → uu.2.2.1 j = nI 0) ∧ ∀ j, j < 6 → uu.2.2.2 j = nI 0) (fun uu => [hO b, cO b (nI n2) (nI k2), oQ (cY 2) (b 2) (rr 0) 6, gI (cY 0) (rr 0) 12 uu.1 6, oQ (cY 2) (b 3) (rr 1) 6, gI (cY 0) (rr 1) 6 uu.2.1 6, gO b, [(b 19, .inl (cY 0, 6, .inl uu.2.2.1))], uO b, [(b 22, .inl (cY 0, 6, .inl uu.2.2.2))]]) (va_A ([hO b, cO b st0 sl0, oQ (cY 2) (b 2) (rr 0) 6, gI (cY 0) (rr 0) 12 fG 6, oQ (cY 2) (b 3) (rr 1) 6, gI (cY 0) (rr 1) 6 fW 6, gO b, [(b 19, .inl (cY 0, 6, .inl fPy))], uO b, [(b 22, .inl (cY 0, 6, .inl fCc))]] : List va_W).flatten sz)) 0 0 (va_A ([hO b, cO b st0 sl0, oQ (cY 2) (b 2) (rr 0) 6, gI (cY 0) (rr 0) 12 fG 6, oQ (cY 2) (b 3) (rr 1) 6, gI (cY 0) (rr 1) 6 fW 6, gO b, [(b 19, .inl (cY 0, 6, .inl fPy))], uO b, [(b 22, .inl (cY 0, 6, .inl fCc))]] : List va_W).flatten sz) := by
  refine mtB (Qc := fun A => qV (S := (Nat → Nat → Int32) × (Nat → Nat → Int32) × (Nat → Int32) × (Nat → Int32)) D cY (fun uu => ((∀ i j, i < 6 → j < 12 → uu.1 i j = nI i) ∧ ∀ i j, i < 6 → j < 6 → uu.2.1 i j = (if i = j then nI k2 else nI 0)) ∧ (∀ j, j < 6 → uu.2.2.1 j = nI 0) ∧ ∀ j, j < 6 → uu.2.2.2 j = nI 0) (fun uu => [hO b, cO b (nI n2) (nI k2), oQ (cY 2) (b 2) (rr 0) 6, gI (cY 0) (rr 0) 12 uu.1 6, oQ (cY 2) (b 3) (rr 1) 6, gI (cY 0) (rr 1) 6 uu.2.1 6, gO b, [(b 19, .inl (cY 0, 6, .inl uu.2.2.1))], uO b, [(b 22, .inl (cY 0, 6, .inl uu.2.2.2))]]) A) (cc := cX8_begin) (maxL := 3) (ret := none) (by decide) rfl (Nat.le_of_ble_eq_true rfl) ?_
  intro p e s m below meth c A ls hx hb hr hml hts hown hlocks hnm hsz hP hK hVK hD hS hA hl
  have hown : s.vm.findClass RX8 = some m.cls := hown
  have hl : lv_has ls 3 [(0, .ref (b 0)), (1, .int (nI n2)), (2, .int (nI k2))] := hl
  have hP : va_P D vwCl ([hO b, cO b st0 sl0, oQ (cY 2) (b 2) (rr 0) 6, gI (cY 0) (rr 0) 12 fG 6, oQ (cY 2) (b 3) (rr 1) 6, gI (cY 0) (rr 1) 6 fW 6, gO b, [(b 19, .inl (cY 0, 6, .inl fPy))], uO b, [(b 22, .inl (cY 0, 6, .inl fCc))]] : List va_W).flatten s.heap := hP
  have hD : va_D A ([hO b, cO b st0 sl0, oQ (cY 2) (b 2) (rr 0) 6, gI (cY 0) (rr 0) 12 fG 6, oQ (cY 2) (b 3) (rr 1) 6, gI (cY 0) (rr 1) 6 fW 6, gO b, [(b 19, .inl (cY 0, 6, .inl fPy))], uO b, [(b 22, .inl (cY 0, 6, .inl fCc))]] : List va_W).flatten := hD
  refine lv_iload_n hx hb dX8_begin_0 rfl (lv_at hl 1 rfl) ?_
  refine lv_iconst (v := nI 1) hx hb dX8_begin_1 (by decide) ?_
  refine lv_bipush (v := nI 6) hx hb dX8_begin_2 (by decide) ?_
  refine ca_v (CL := []) (va_runS (As := [.int (nI n2), .int (nI 1), .int (nI 6)]) (rest := []) ⟨hx, hb, hml, hown, hts⟩ (c_X8_needRange_ok l D cY s.heap.size (nI n2) (nI 1) (nI 6) (inR_t (by omega) (by omega) (by omega))) (va_cwS 3 hts gX8_begin_X8_needRange rfl rfl rfl (by decide +kernel) ⟨Nat.le_of_ble_eq_true rfl, Nat.le_of_ble_eq_true rfl⟩) (b_preS hVK hP hD [] rfl rfl) rfl rfl hl.1 rfl (lv_room (Nat.le_of_ble_eq_true rfl)) dX8_begin_4 ⟨Nat.le_refl _, Nat.le_refl _⟩) hP hD hS hA [] rfl rfl (fun _ => rfl) (fun uu H locs hq hP hD hS => ?_)
  have hP : va_P D vwCl ([hO b, cO b st0 sl0, oQ (cY 2) (b 2) (rr 0) 6, gI (cY 0) (rr 0) 12 fG 6, oQ (cY 2) (b 3) (rr 1) 6, gI (cY 0) (rr 1) 6 fW 6, gO b, [(b 19, .inl (cY 0, 6, .inl fPy))], uO b, [(b 22, .inl (cY 0, 6, .inl fCc))]] : List va_W).flatten H := hP
  have hD : va_D A ([hO b, cO b st0 sl0, oQ (cY 2) (b 2) (rr 0) 6, gI (cY 0) (rr 0) 12 fG 6, oQ (cY 2) (b 3) (rr 1) 6, gI (cY 0) (rr 1) 6 fW 6, gO b, [(b 19, .inl (cY 0, 6, .inl fPy))], uO b, [(b 22, .inl (cY 0, 6, .inl fCc))]] : List va_W).flatten := hD
  refine lv_iload_n hx hb dX8_begin_7 rfl (lv_at hl 2 rfl) ?_
  refine lv_iconst (v := nI 1) hx hb dX8_begin_8 (by decide) ?_
  refine lv_bipush (v := nI 12) hx hb dX8_begin_9 (by decide) ?_
  refine ca_v (CL := []) (va_runS (As := [.int (nI k2), .int (nI 1), .int (nI 12)]) (rest := []) ⟨hx, hb, hml, hown, hts⟩ (c_X8_needRange_ok l D cY H.size (nI k2) (nI 1) (nI 12) (inR_t (by omega) (by omega) (by omega))) (va_cwS 3 hts gX8_begin_X8_needRange rfl rfl rfl (by decide +kernel) ⟨Nat.le_of_ble_eq_true rfl, Nat.le_of_ble_eq_true rfl⟩) (b_preS hVK hP hD [] rfl rfl) rfl rfl hl.1 rfl (lv_room (Nat.le_of_ble_eq_true rfl)) dX8_begin_11 ⟨Nat.le_refl _, Nat.le_refl _⟩) hP hD hS hA [] rfl rfl (fun _ => rfl) (fun uu H locs hq hP hD hS => ?_)
  have hP : va_P D vwCl ([hO b, cO b st0 sl0, oQ (cY 2) (b 2) (rr 0) 6, gI (cY 0) (rr 0) 12 fG 6, oQ (cY 2) (b 3) (rr 1) 6, gI (cY 0) (rr 1) 6 fW 6, gO b, [(b 19, .inl (cY 0, 6, .inl fPy))], uO b, [(b 22, .inl (cY 0, 6, .inl fCc))]] : List va_W).flatten H := hP
  have hD : va_D A ([hO b, cO b st0 sl0, oQ (cY 2) (b 2) (rr 0) 6, gI (cY 0) (rr 0) 12 fG 6, oQ (cY 2) (b 3) (rr 1) 6, gI (cY 0) (rr 1) 6 fW 6, gO b, [(b 19, .inl (cY 0, 6, .inl fPy))], uO b, [(b 22, .inl (cY 0, 6, .inl fCc))]] : List va_W).flatten := hD
  refine lv_aload_n hx hb dX8_begin_14 rfl (lv_at hl 0 rfl) ?_
  refine b_get (ci := 8) (v := .ref (b 1)) (C := RX8) (T := TX8) (N := 8) hx hb hts (by decide +kernel) hown hK hP 0 rfl rfl 0 (by decide) (hts (.fieldLink RX8 10 "ChanceHall" "chain" "LChanceHall$Chain;") (by decide +kernel)) (fun _ h9 => h9) rfl dX8_begin_15 ?_
  refine lv_iload_n hx hb dX8_begin_18 rfl (lv_at hl 1 rfl) ?_
  refine lv_iload_n hx hb dX8_begin_19 rfl (lv_at hl 2 rfl) ?_
  refine ca_v (CL := [cO b st0 sl0, oQ (cY 2) (b 2) (rr 0) 6, gI (cY 0) (rr 0) 12 fG 6, oQ (cY 2) (b 3) (rr 1) 6, gI (cY 0) (rr 1) 6 fW 6]) (va_runV (As := [.int (nI n2), .int (nI k2)]) (rest := []) ⟨hx, hb, hml, hown, hts⟩ (c_X0_setOut l D cY H.size b rr st0 sl0 fG fW n2 k2) (cwV 2 hts gX8_begin_X0_setOut rfl rfl rfl (by decide +kernel) ⟨Nat.le_of_ble_eq_true rfl, Nat.le_of_ble_eq_true rfl⟩) (b_preV hVK hP hD [1, 2, 3, 4, 5] rfl rfl 1 rfl rfl) rfl rfl hl.1 rfl (lv_room (Nat.le_of_ble_eq_true rfl)) dX8_begin_20 ⟨Nat.le_refl _, Nat.le_refl _⟩) hP hD hS hA [1, 2, 3, 4, 5] rfl rfl (fun _ => rfl) (fun uu H locs hq hP hD hS => ?_)
  obtain ⟨fG1_1, fW1_2⟩ := uu
  try dsimp only at hq
  have q20 := hq
  have hP : va_P D vwCl ([hO b, cO b (nI n2) (nI k2), oQ (cY 2) (b 2) (rr 0) 6, gI (cY 0) (rr 0) 12 fG1_1 6, oQ (cY 2) (b 3) (rr 1) 6, gI (cY 0) (rr 1) 6 fW1_2 6, gO b, [(b 19, .inl (cY 0, 6, .inl fPy))], uO b, [(b 22, .inl (cY 0, 6, .inl fCc))]] : List va_W).flatten H := hP
  have hD : va_D A ([hO b, cO b (nI n2) (nI k2), oQ (cY 2) (b 2) (rr 0) 6, gI (cY 0) (rr 0) 12 fG1_1 6, oQ (cY 2) (b 3) (rr 1) 6, gI (cY 0) (rr 1) 6 fW1_2 6, gO b, [(b 19, .inl (cY 0, 6, .inl fPy))], uO b, [(b 22, .inl (cY 0, 6, .inl fCc))]] : List va_W).flatten := hD
  refine lv_aload_n hx hb dX8_begin_23 rfl (lv_at hl 0 rfl) ?_
  refine b_get (ci := 8) (v := .ref (b 18)) (C := RX8) (T := TX8) (N := 8) hx hb hts (by decide +kernel) hown hK hP 0 rfl rfl 6 (by decide) (hts (.fieldLink RX8 56 "ChanceHall" "games" "LChanceHall$Games;") (by decide +kernel)) (fun _ h9 => h9) rfl dX8_begin_24 ?_
  refine ca_v (CL := [gO b, [(b 19, .inl (cY 0, 6, .inl fPy))]]) (va_runV (As := []) (rest := []) ⟨hx, hb, hml, hown, hts⟩ (c_X4_forget l D cY H.size b fPy) (cwV 0 hts gX8_begin_X4_forget rfl rfl rfl (by decide +kernel) ⟨Nat.le_of_ble_eq_true rfl, Nat.le_of_ble_eq_true rfl⟩) (b_preV hVK hP hD [6, 7] rfl rfl 6 rfl rfl) rfl rfl hl.1 rfl (lv_room (Nat.le_of_ble_eq_true rfl)) dX8_begin_27 ⟨Nat.le_refl _, Nat.le_refl _⟩) hP hD hS hA [6, 7] rfl rfl (fun _ => rfl) (fun uu H locs hq hP hD hS => ?_)
  obtain ⟨fPy1_3, rfl⟩ : ∃ z, z = uu := ⟨_, rfl⟩
  try dsimp only at hq
  have q27 := hq
  have hP : va_P D vwCl ([hO b, cO b (nI n2) (nI k2), oQ (cY 2) (b 2) (rr 0) 6, gI (cY 0) (rr 0) 12 fG1_1 6, oQ (cY 2) (b 3) (rr 1) 6, gI (cY 0) (rr 1) 6 fW1_2 6, gO b, [(b 19, .inl (cY 0, 6, .inl fPy1_3))], uO b, [(b 22, .inl (cY 0, 6, .inl fCc))]] : List va_W).flatten H := hP
  have hD : va_D A ([hO b, cO b (nI n2) (nI k2), oQ (cY 2) (b 2) (rr 0) 6, gI (cY 0) (rr 0) 12 fG1_1 6, oQ (cY 2) (b 3) (rr 1) 6, gI (cY 0) (rr 1) 6 fW1_2 6, gO b, [(b 19, .inl (cY 0, 6, .inl fPy1_3))], uO b, [(b 22, .inl (cY 0, 6, .inl fCc))]] : List va_W).flatten := hD
  refine lv_aload_n hx hb dX8_begin_30 rfl (lv_at hl 0 rfl) ?_
  refine b_get (ci := 8) (v := .ref (b 21)) (C := RX8) (T := TX8) (N := 8) hx hb hts (by decide +kernel) hown hK hP 0 rfl rfl 7 (by decide) (hts (.fieldLink RX8 63 "ChanceHall" "lumps" "LChanceHall$Lumps;") (by decide +kernel)) (fun _ h9 => h9) rfl dX8_begin_31 ?_
  refine ca_v (CL := [uO b, [(b 22, .inl (cY 0, 6, .inl fCc))]]) (va_runV (As := []) (rest := []) ⟨hx, hb, hml, hown, hts⟩ (c_X6_forget l D cY H.size b fCc) (cwV 0 hts gX8_begin_X6_forget rfl rfl rfl (by decide +kernel) ⟨Nat.le_of_ble_eq_true rfl, Nat.le_of_ble_eq_true rfl⟩) (b_preV hVK hP hD [8, 9] rfl rfl 8 rfl rfl) rfl rfl hl.1 rfl (lv_room (Nat.le_of_ble_eq_true rfl)) dX8_begin_34 ⟨Nat.le_refl _, Nat.le_refl _⟩) hP hD hS hA [8, 9] rfl rfl (fun _ => rfl) (fun uu H locs hq hP hD hS => ?_)
  obtain ⟨fCc1_4, rfl⟩ : ∃ z, z = uu := ⟨_, rfl⟩
  try dsimp only at hq
  have q34 := hq
  have hP : va_P D vwCl ([hO b, cO b (nI n2) (nI k2), oQ (cY 2) (b 2) (rr 0) 6, gI (cY 0) (rr 0) 12 fG1_1 6, oQ (cY 2) (b 3) (rr 1) 6, gI (cY 0) (rr 1) 6 fW1_2 6, gO b, [(b 19, .inl (cY 0, 6, .inl fPy1_3))], uO b, [(b 22, .inl (cY 0, 6, .inl fCc1_4))]] : List va_W).flatten H := hP
  have hD : va_D A ([hO b, cO b (nI n2) (nI k2), oQ (cY 2) (b 2) (rr 0) 6, gI (cY 0) (rr 0) 12 fG1_1 6, oQ (cY 2) (b 3) (rr 1) 6, gI (cY 0) (rr 1) 6 fW1_2 6, gO b, [(b 19, .inl (cY 0, 6, .inl fPy1_3))], uO b, [(b 22, .inl (cY 0, 6, .inl fCc1_4))]] : List va_W).flatten := hD
  exact r_v hx hb hr hlocks hP hD hS (fG1_1, fW1_2, fPy1_3, fCc1_4) rfl (⟨q20, q27, q34⟩) dX8_begin_37

