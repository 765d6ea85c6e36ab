set_option maxHeartbeats 4000000 in
set_option maxRecDepth 100000 in
theorem c_X8_pairOf (l : Launch) (D : va_G) (cY : Nat → ClassId) (sz : Nat) (x : Nat) (y : Nat)  : Met l yX8_pairOf wsX8_pairOf ({ frames := 0, cells := 0, slots := 0, locals := 0 }) (cP D cY [.int (nI x), .int (nI y)] [] sz) (qI (S := Unit) D cY (fun r u => r = nI (6 * x + y)) (fun u => []) (va_A ([] : List va_W).flatten sz)) 0 0 (va_A ([] : List va_W).flatten sz) := by
  refine mtB (Qc := fun A => qI (S := Unit) D cY (fun r u => r = nI (6 * x + y)) (fun u => []) A) (cc := cX8_pairOf) (maxL := 2) (ret := (some .int)) (by decide) rfl (Nat.le_of_ble_eq_true rfl) ?_
  intro p e s m below meth c A ls hx hb hr hml hts hown hlocks hnm hsz hP hK hVK hD hS hA hl
  have hown : s.vm.findClass RX8 = some m.cls := hown
  have hl : lv_has ls 2 [(0, .int (nI x)), (1, .int (nI y))] := hl
  have hP : va_P D vwCl ([] : List va_W).flatten s.heap := hP
  have hD : va_D A ([] : List va_W).flatten := hD
  refine lv_bipush (v := nI 6) hx hb dX8_pairOf_0 (by decide) ?_
  refine lv_iload_n hx hb dX8_pairOf_2 rfl (lv_at hl 0 rfl) ?_
  refine lv_imul hx hb dX8_pairOf_3 ?_
  refine eqi (x' := nI (6 * x)) (pk_mul _ _) ?_
  refine lv_iload_n hx hb dX8_pairOf_4 rfl (lv_at hl 1 rfl) ?_
  refine lv_iadd hx hb dX8_pairOf_5 ?_
  refine eqi (x' := nI (6 * x + y)) (nI_add _ _) ?_
  exact r_i hx hb hr hlocks hP hD hS () rfl (rfl) dX8_pairOf_6

set_option maxHeartbeats 4000000 in
set_option maxRecDepth 100000 in
theorem c_X5_goOneStep (l : Launch) (D : va_G) (cY : Nat → ClassId) (sz : Nat) (b : Nat → Nat) (rr : Nat → Nat → Nat) (n : Nat) (k : Nat) (fW : Nat → Nat → Int32) (g : Nat → Nat → Nat) (v : Nat → Nat) (f : Nat) (x1 : Nat) (x2 : Nat) (f1 : Nat → Int64) (f2 : Nat → Int64) (hn1 : 1 ≤ n) (hn6 : n ≤ 6) (hk1 : 1 ≤ k) (hk12 : k ≤ 12) (hW : ∀ i j, i < n → j < n → fW i j = nI (cnt (g i) j k)) (hf : f < n) (hv : ∀ d, d < n → f1 (6 * f + d) = lN (v d)) : Met l yX5_goOneStep wsX5_goOneStep ({ frames := 1, cells := 0, slots := 0, locals := 40 }) (cP D cY [.ref (b 4), .int (nI f), .ref x1, .ref x2] [lO b, cO b (nI n) (nI k), oQ (cY 2) (b 3) (rr 1) 6, gI (cY 0) (rr 1) 6 fW 6, [(x1, .inl (cY 1, 36, .inr (.inl f1)))], [(x2, .inl (cY 1, 36, .inr (.inl f2)))]] sz) (qV (S := (Nat → Int64)) D cY (fun u => GI v g n k f n f2 u) (fun u => [lO b, cO b (nI n) (nI k), oQ (cY 2) (b 3) (rr 1) 6, gI (cY 0) (rr 1) 6 fW 6, [(x1, .inl (cY 1, 36, .inr (.inl f1)))], [(x2, .inl (cY 1, 36, .inr (.inl u)))]]) (va_A ([lO b, cO b (nI n) (nI k), oQ (cY 2) (b 3) (rr 1) 6, gI (cY 0) (rr 1) 6 fW 6, [(x1, .inl (cY 1, 36, .inr (.inl f1)))], [(x2, .inl (cY 1, 36, .inr (.inl f2)))]] : List va_W).flatten sz)) 0 0 (va_A ([lO b, cO b (nI n) (nI k), oQ (cY 2) (b 3) (rr 1) 6, gI (cY 0) (rr 1) 6 fW 6, [(x1, .inl (cY 1, 36, .inr (.inl f1)))], [(x2, .inl (cY 1, 36, .inr (.inl f2)))]] : List va_W).flatten sz) := by
  refine mtB (Qc := fun A => qV (S := (Nat → Int64)) D cY (fun u => GI v g n k f n f2 u) (fun u => [lO b, cO b (nI n) (nI k), oQ (cY 2) (b 3) (rr 1) 6, gI (cY 0) (rr 1) 6 fW 6, [(x1, .inl (cY 1, 36, .inr (.inl f1)))], [(x2, .inl (cY 1, 36, .inr (.inl u)))]]) A) (cc := cX5_goOneStep) (maxL := 8) (ret := none) (by decide) rfl (Nat.le_of_ble_eq_true rfl) ?_
  intro p e s m below meth c A ls hx hb hr hml hts hown hlocks hnm hsz hP hK hVK hD hS hA hl
  have hown : s.vm.findClass RX5 = some m.cls := hown
  have hl : lv_has ls 8 [(0, .ref (b 4)), (1, .int (nI f)), (2, .ref x1), (3, .ref x2)] := hl
  have hP : va_P D vwCl ([lO b, cO b (nI n) (nI k), oQ (cY 2) (b 3) (rr 1) 6, gI (cY 0) (rr 1) 6 fW 6, [(x1, .inl (cY 1, 36, .inr (.inl f1)))], [(x2, .inl (cY 1, 36, .inr (.inl f2)))]] : List va_W).flatten s.heap := hP
  have hD : va_D A ([lO b, cO b (nI n) (nI k), oQ (cY 2) (b 3) (rr 1) 6, gI (cY 0) (rr 1) 6 fW 6, [(x1, .inl (cY 1, 36, .inr (.inl f1)))], [(x2, .inl (cY 1, 36, .inr (.inl f2)))]] : List va_W).flatten := hD
  refine lv_iconst (v := nI 0) hx hb dX5_goOneStep_0 (by decide) ?_
  refine lv_istore (lv' := [(4, .int (nI 0)), (0, .ref (b 4)), (1, .int (nI f)), (2, .ref x1), (3, .ref x2)]) hx hb dX5_goOneStep_1 hl (by decide) rfl (fun ls hl => ?_)
  have L3 : ∀ u : Nat, u ≤ n → ∀ (fX : Nat → Int64), (GI v g n k f u f2 fX) → ∀ (H : Heap) (locs : List Loc), va_P D vwCl ([lO b, cO b (nI n) (nI k), oQ (cY 2) (b 3) (rr 1) 6, gI (cY 0) (rr 1) 6 fW 6, [(x1, .inl (cY 1, 36, .inr (.inl f1)))], [(x2, .inl (cY 1, 36, .inr (.inl fX)))]] : List va_W).flatten H → va_D A ([lO b, cO b (nI n) (nI k), oQ (cY 2) (b 3) (rr 1) 6, gI (cY 0) (rr 1) 6 fW 6, [(x1, .inl (cY 1, 36, .inr (.inl f1)))], [(x2, .inl (cY 1, 36, .inr (.inl fX)))]] : List va_W).flatten → va_S A s.heap H locs → ∀ (ls : Array Slot), lv_has ls 8 [(0, .ref (b 4)), (1, .int (nI f)), (2, .ref x1), (3, .ref x2), (4, .int (nI u))] → W p l e ({ frames := 1, cells := 0, slots := 0, locals := 40 }) s m ([.ref (b 4), .int (nI f), .ref x1, .ref x2] : List Value).toArray below meth c H locs 0 0 (MQ below (qV (S := (Nat → Int64)) D cY (fun u => GI v g n k f n f2 u) (fun u => [lO b, cO b (nI n) (nI k), oQ (cY 2) (b 3) (rr 1) 6, gI (cY 0) (rr 1) 6 fW 6, [(x1, .inl (cY 1, 36, .inr (.inl f1)))], [(x2, .inl (cY 1, 36, .inr (.inl u)))]]) A) ([.ref (b 4), .int (nI f), .ref x1, .ref x2] : List Value).toArray s 0 0 A) (F0 m 3 ls []) := by
    refine lpW n ?_
    intro u bdu ih3 fX hI H locs hP hD hS ls hl
    refine lv_iload hx hb dX5_goOneStep_3 (lv_at hl 4 rfl) ?_
    refine lv_aload_n hx hb dX5_goOneStep_5 rfl (lv_at hl 0 rfl) ?_
    refine b_get (ci := 5) (v := .ref (b 1)) (C := RX5) (T := TX5) (N := 3) hx hb hts (by decide +kernel) hown hK hP 0 rfl rfl 0 (by decide) (hts (.fieldLink RX5 9 "ChanceHall$Laws" "chain" "LChanceHall$Chain;") (by decide +kernel)) (fun _ h9 => h9) rfl dX5_goOneStep_6 ?_
    refine b_get (ci := 0) (v := .int (nI n)) (C := RX0) (T := TX0) (N := 4) hx hb hts (by decide +kernel) hown hK hP 1 rfl rfl 0 (by decide) (hts (.fieldLink RX5 23 "ChanceHall$Chain" "states" "I") (by decide +kernel)) (fun _ h9 => h9) rfl dX5_goOneStep_9 ?_
    refine n_icmp_ge (tgt := 83) hx hb dX5_goOneStep_12 (by decide) (by omega) (by omega) (fun h12 => ?_) (fun h12 => ?_)
    · -- t
      exact r_v hx hb hr hlocks hP hD hS fX rfl (by (have e : u = n := by omega); rw [e] at hI; exact hI) dX5_goOneStep_83
    · -- f
      refine lv_lconst (v := lN 0) hx hb dX5_goOneStep_15 (by decide) ?_
      refine lv_lstore (lv' := [(5, .long (lN 0)), (0, .ref (b 4)), (1, .int (nI f)), (2, .ref x1), (3, .ref x2), (4, .int (nI u))]) hx hb dX5_goOneStep_16 hl (by decide) rfl (fun ls hl => ?_)
      refine lv_iconst (v := nI 0) hx hb dX5_goOneStep_18 (by decide) ?_
      refine lv_istore (lv' := [(7, .int (nI 0)), (5, .long (lN 0)), (0, .ref (b 4)), (1, .int (nI f)), (2, .ref x1), (3, .ref x2), (4, .int (nI u))]) hx hb dX5_goOneStep_19 hl (by decide) rfl (fun ls hl => ?_)
      have L21 : ∀ q : Nat, q ≤ n →  ∀ (H : Heap) (locs : List Loc), va_P D vwCl ([lO b, cO b (nI n) (nI k), oQ (cY 2) (b 3) (rr 1) 6, gI (cY 0) (rr 1) 6 fW 6, [(x1, .inl (cY 1, 36, .inr (.inl f1)))], [(x2, .inl (cY 1, 36, .inr (.inl fX)))]] : List va_W).flatten H → va_D A ([lO b, cO b (nI n) (nI k), oQ (cY 2) (b 3) (rr 1) 6, gI (cY 0) (rr 1) 6 fW 6, [(x1, .inl (cY 1, 36, .inr (.inl f1)))], [(x2, .inl (cY 1, 36, .inr (.inl fX)))]] : List va_W).flatten → va_S A s.heap H locs → ∀ (ls : Array Slot), lv_has ls 8 [(0, .ref (b 4)), (1, .int (nI f)), (2, .ref x1), (3, .ref x2), (4, .int (nI u)), (5, .long (lN (sm (fun d => v d * cnt (g d) u k) q))), (7, .int (nI q))] → W p l e ({ frames := 1, cells := 0, slots := 0, locals := 40 }) s m ([.ref (b 4), .int (nI f), .ref x1, .ref x2] : List Value).toArray below meth c H locs 0 0 (MQ below (qV (S := (Nat → Int64)) D cY (fun u => GI v g n k f n f2 u) (fun u => [lO b, cO b (nI n) (nI k), oQ (cY 2) (b 3) (rr 1) 6, gI (cY 0) (rr 1) 6 fW 6, [(x1, .inl (cY 1, 36, .inr (.inl f1)))], [(x2, .inl (cY 1, 36, .inr (.inl u)))]]) A) ([.ref (b 4), .int (nI f), .ref x1, .ref x2] : List Value).toArray s 0 0 A) (F0 m 21 ls []) := by
        refine lpW n ?_
        intro q bdq ih21   H locs hP hD hS ls hl
        refine lv_iload hx hb dX5_goOneStep_21 (lv_at hl 6 rfl) ?_
        refine lv_aload_n hx hb dX5_goOneStep_23 rfl (lv_at hl 0 rfl) ?_
        refine b_get (ci := 5) (v := .ref (b 1)) (C := RX5) (T := TX5) (N := 3) hx hb hts (by decide +kernel) hown hK hP 0 rfl rfl 0 (by decide) (hts (.fieldLink RX5 9 "ChanceHall$Laws" "chain" "LChanceHall$Chain;") (by decide +kernel)) (fun _ h9 => h9) rfl dX5_goOneStep_24 ?_
        refine b_get (ci := 0) (v := .int (nI n)) (C := RX0) (T := TX0) (N := 4) hx hb hts (by decide +kernel) hown hK hP 1 rfl rfl 0 (by decide) (hts (.fieldLink RX5 23 "ChanceHall$Chain" "states" "I") (by decide +kernel)) (fun _ h9 => h9) rfl dX5_goOneStep_27 ?_
        refine n_icmp_ge (tgt := 67) hx hb dX5_goOneStep_30 (by decide) (by omega) (by omega) (fun h30 => ?_) (fun h30 => ?_)
        · -- t
          refine lv_aload_n hx hb dX5_goOneStep_67 rfl (lv_at hl 3 rfl) ?_
          refine lv_iload_n hx hb dX5_goOneStep_68 rfl (lv_at hl 1 rfl) ?_
          refine lv_iload hx hb dX5_goOneStep_69 (lv_at hl 4 rfl) ?_
          refine ca_i (CL := []) (va_runSN (As := [.int (nI f), .int (nI u)]) (rest := [.ref x2]) ⟨hx, hb, hml, hown, hts⟩ (c_X8_pairOf l D cY H.size f u) ⟨va_cnB 2 hts gX5_goOneStep_X8_pairOf_n29 rfl rfl rfl hVK.2.1 (hts (.initialized RX8) (by decide +kernel)) (by decide +kernel) ⟨Nat.le_of_ble_eq_true rfl, Nat.le_of_ble_eq_true rfl⟩, hts (.static yX8_pairOf) (by decide +kernel), trivial⟩ (b_preS hVK hP hD [] rfl rfl) rfl rfl hl.1 rfl (lv_room (Nat.le_of_ble_eq_true rfl)) dX5_goOneStep_71 ⟨Nat.le_refl _, Nat.le_refl _⟩) hP hD hS hA [] rfl rfl (fun _ => rfl) (fun r71 uu H locs hq hP hD hS => ?_)
          subst hq
          have hP : va_P D vwCl ([lO b, cO b (nI n) (nI k), oQ (cY 2) (b 3) (rr 1) 6, gI (cY 0) (rr 1) 6 fW 6, [(x1, .inl (cY 1, 36, .inr (.inl f1)))], [(x2, .inl (cY 1, 36, .inr (.inl fX)))]] : List va_W).flatten H := hP
          have hD : va_D A ([lO b, cO b (nI n) (nI k), oQ (cY 2) (b 3) (rr 1) 6, gI (cY 0) (rr 1) 6 fW 6, [(x1, .inl (cY 1, 36, .inr (.inl f1)))], [(x2, .inl (cY 1, 36, .inr (.inl fX)))]] : List va_W).flatten := hD
          refine lv_lload hx hb dX5_goOneStep_74 (lv_at hl 5 rfl) ?_
          refine b_last hx hb hK hP hD hS 5 1 rfl rfl (by omega) (by decide) dX5_goOneStep_76 (fun H locs hP hD hS => ?_)
          have hP : va_P D vwCl ([lO b, cO b (nI n) (nI k), oQ (cY 2) (b 3) (rr 1) 6, gI (cY 0) (rr 1) 6 fW 6, [(x1, .inl (cY 1, 36, .inr (.inl f1)))], [(x2, .inl (cY 1, 36, .inr (.inl (vp_updL fX (6 * f + u) (lN (sm (fun d => v d * cnt (g d) u k) q))))))]] : List va_W).flatten H := hP
          have hD : va_D A ([lO b, cO b (nI n) (nI k), oQ (cY 2) (b 3) (rr 1) 6, gI (cY 0) (rr 1) 6 fW 6, [(x1, .inl (cY 1, 36, .inr (.inl f1)))], [(x2, .inl (cY 1, 36, .inr (.inl (vp_updL fX (6 * f + u) (lN (sm (fun d => v d * cnt (g d) u k) q))))))]] : List va_W).flatten := hD
          refine lv_iinc (v := nI (u + 1)) (lv' := [(4, .int (nI (u + 1))), (0, .ref (b 4)), (1, .int (nI f)), (2, .ref x1), (3, .ref x2), (5, .long (lN (sm (fun d => v d * cnt (g d) u k) q))), (7, .int (nI q))]) hx hb dX5_goOneStep_77 hl (k := 4) rfl (nI_1 u) (by decide) rfl (fun ls hl => ?_)
          refine lv_goto (tgt := 3) hx hb dX5_goOneStep_80 (by decide) ?_
          exact ih3 (by omega) (vp_updL fX (6 * f + u) (lN (sm (fun d => v d * cnt (g d) u k) q))) (GI_s hI (by omega) (by (have e : q = n := by omega); subst e; rfl)) _ _ hP hD hS _ (lv_sub hl [1, 2, 3, 4, 0] rfl)
        · -- f
          refine lv_lload hx hb dX5_goOneStep_33 (lv_at hl 5 rfl) ?_
          refine lv_aload_n hx hb dX5_goOneStep_35 rfl (lv_at hl 2 rfl) ?_
          refine lv_iload_n hx hb dX5_goOneStep_36 rfl (lv_at hl 1 rfl) ?_
          refine lv_iload hx hb dX5_goOneStep_37 (lv_at hl 6 rfl) ?_
          refine ca_i (CL := []) (va_runSN (As := [.int (nI f), .int (nI q)]) (rest := [.ref x1, .long (lN (sm (fun d => v d * cnt (g d) u k) q))]) ⟨hx, hb, hml, hown, hts⟩ (c_X8_pairOf l D cY H.size f q) ⟨va_cnB 2 hts gX5_goOneStep_X8_pairOf_n29 rfl rfl rfl hVK.2.1 (hts (.initialized RX8) (by decide +kernel)) (by decide +kernel) ⟨Nat.le_of_ble_eq_true rfl, Nat.le_of_ble_eq_true rfl⟩, hts (.static yX8_pairOf) (by decide +kernel), trivial⟩ (b_preS hVK hP hD [] rfl rfl) rfl rfl hl.1 rfl (lv_room (Nat.le_of_ble_eq_true rfl)) dX5_goOneStep_39 ⟨Nat.le_refl _, Nat.le_refl _⟩) hP hD hS hA [] rfl rfl (fun _ => rfl) (fun r39 uu H locs hq hP hD hS => ?_)
          subst hq
          have hP : va_P D vwCl ([lO b, cO b (nI n) (nI k), oQ (cY 2) (b 3) (rr 1) 6, gI (cY 0) (rr 1) 6 fW 6, [(x1, .inl (cY 1, 36, .inr (.inl f1)))], [(x2, .inl (cY 1, 36, .inr (.inl fX)))]] : List va_W).flatten H := hP
          have hD : va_D A ([lO b, cO b (nI n) (nI k), oQ (cY 2) (b 3) (rr 1) 6, gI (cY 0) (rr 1) 6 fW 6, [(x1, .inl (cY 1, 36, .inr (.inl f1)))], [(x2, .inl (cY 1, 36, .inr (.inl fX)))]] : List va_W).flatten := hD
          refine b_lald hx hb hK hP 4 1 rfl rfl (by omega) (by decide) dX5_goOneStep_42 ?_
          refine eql (x' := lN (v q)) (hv q (by omega)) ?_
          refine lv_aload_n hx hb dX5_goOneStep_43 rfl (lv_at hl 0 rfl) ?_
          refine b_get (ci := 5) (v := .ref (b 1)) (C := RX5) (T := TX5) (N := 3) hx hb hts (by decide +kernel) hown hK hP 0 rfl rfl 0 (by decide) (hts (.fieldLink RX5 9 "ChanceHall$Laws" "chain" "LChanceHall$Chain;") (by decide +kernel)) (fun _ h9 => h9) rfl dX5_goOneStep_44 ?_
          refine b_get (ci := 0) (v := .ref (b 3)) (C := RX0) (T := TX0) (N := 4) hx hb hts (by decide +kernel) hown hK hP 1 rfl rfl 3 (by decide) (hts (.fieldLink RX5 37 "ChanceHall$Chain" "weights" "[[I") (by decide +kernel)) (fun _ h9 => h9) rfl dX5_goOneStep_47 ?_
          refine lv_iload hx hb dX5_goOneStep_50 (lv_at hl 6 rfl) ?_
          refine g_aald hx hb hK hP 2 2 rfl rfl (by omega) (by decide) dX5_goOneStep_52 ?_
          refine lv_iload hx hb dX5_goOneStep_53 (lv_at hl 4 rfl) ?_
          refine g_iald hx hb hK hP 3 0 rfl rfl (by omega) (by omega) (by decide) dX5_goOneStep_55 ?_
          refine eqi (x' := nI (cnt (g q) u k)) (hW q u (by omega) (by omega)) ?_
          have hcl := cnt_le (g q) u k
          refine lv_i2l (v := lN (cnt (g q) u k)) hx hb dX5_goOneStep_56 (nI_l (by omega)) ?_
          refine lv_lmul hx hb dX5_goOneStep_57 ?_
          refine eql (x' := lN ((v q) * (cnt (g q) u k))) (lN_mul _ _) ?_
          refine lv_ladd hx hb dX5_goOneStep_58 ?_
          refine eql (x' := lN (sm (fun d => v d * cnt (g d) u k) q + (v q) * (cnt (g q) u k))) (lN_add _ _) ?_
          refine lv_lstore (lv' := [(5, .long (lN (sm (fun d => v d * cnt (g d) u k) q + (v q) * (cnt (g q) u k)))), (0, .ref (b 4)), (1, .int (nI f)), (2, .ref x1), (3, .ref x2), (4, .int (nI u)), (7, .int (nI q))]) hx hb dX5_goOneStep_59 hl (by decide) rfl (fun ls hl => ?_)
          refine lv_iinc (v := nI (q + 1)) (lv' := [(7, .int (nI (q + 1))), (5, .long (lN (sm (fun d => v d * cnt (g d) u k) q + (v q) * (cnt (g q) u k)))), (0, .ref (b 4)), (1, .int (nI f)), (2, .ref x1), (3, .ref x2), (4, .int (nI u))]) hx hb dX5_goOneStep_61 hl (k := 6) rfl (nI_1 q) (by decide) rfl (fun ls hl => ?_)
          refine lv_goto (tgt := 21) hx hb dX5_goOneStep_64 (by decide) ?_
          exact ih21 (by omega)   _ _ hP hD hS _ (lv_sub hl [2, 3, 4, 5, 6, 1, 0] rfl)
      exact L21 0 (by omega)   _ _ hP hD hS _ (lv_sub hl [2, 3, 4, 5, 6, 1, 0] rfl)
  exact L3 0 (by omega) f2 GI_0 _ _ hP hD hS _ (lv_sub hl [1, 2, 3, 4, 0] rfl)

set_option maxHeartbeats 4000000 in
set_option maxRecDepth 100000 in
theorem c_X5_countLaws (l : Launch) (D : va_G) (cY : Nat → ClassId) (sz : Nat) (b : Nat → Nat) (rr : Nat → Nat → Nat) (n : Nat) (k : Nat) (fW : Nat → Nat → Int32) (fR : Nat → Nat → Int64) (g : Nat → Nat → Nat) (t : Nat) (hn1 : 1 ≤ n) (hn6 : n ≤ 6) (hk1 : 1 ≤ k) (hk12 : k ≤ 12) (hW : ∀ i j, i < n → j < n → fW i j = nI (cnt (g i) j k)) (ht : t ≤ 12) : Met l yX5_countLaws wsX5_countLaws ({ frames := 2, cells := 0, slots := 0, locals := 80 }) (cP D cY [.ref (b 4), .int (nI t)] [lO b, cO b (nI n) (nI k), oQ (cY 2) (b 3) (rr 1) 6, gI (cY 0) (rr 1) 6 fW 6, oQ (cY 3) (b 5) (rr 2) 13, gJ (cY 1) (rr 2) 36 fR 13] sz) (qV (S := (Nat → Nat → Int64)) D cY (fun u => RT g n k t u) (fun u => [lO b, cO b (nI n) (nI k), oQ (cY 2) (b 3) (rr 1) 6, gI (cY 0) (rr 1) 6 fW 6, oQ (cY 3) (b 5) (rr 2) 13, gJ (cY 1) (rr 2) 36 u 13]) (va_A ([lO b, cO b (nI n) (nI k), oQ (cY 2) (b 3) (rr 1) 6, gI (cY 0) (rr 1) 6 fW 6, oQ (cY 3) (b 5) (rr 2) 13, gJ (cY 1) (rr 2) 36 fR 13] : List va_W).flatten sz)) 0 0 (va_A ([lO b, cO b (nI n) (nI k), oQ (cY 2) (b 3) (rr 1) 6, gI (cY 0) (rr 1) 6 fW 6, oQ (cY 3) (b 5) (rr 2) 13, gJ (cY 1) (rr 2) 36 fR 13] : List va_W).flatten sz) := by
  refine mtB (Qc := fun A => qV (S := (Nat → Nat → Int64)) D cY (fun u => RT g n k t u) (fun u => [lO b, cO b (nI n) (nI k), oQ (cY 2) (b 3) (rr 1) 6, gI (cY 0) (rr 1) 6 fW 6, oQ (cY 3) (b 5) (rr 2) 13, gJ (cY 1) (rr 2) 36 u 13]) A) (cc := cX5_countLaws) (maxL := 4) (ret := none) (by decide) rfl (Nat.le_of_ble_eq_true rfl) ?_
  intro p e s m below meth c A ls hx hb hr hml hts hown hlocks hnm hsz hP hK hVK hD hS hA hl
  have hown : s.vm.findClass RX5 = some m.cls := hown
  have hl : lv_has ls 4 [(0, .ref (b 4)), (1, .int (nI t))] := hl
  have hP : va_P D vwCl ([lO b, cO b (nI n) (nI k), oQ (cY 2) (b 3) (rr 1) 6, gI (cY 0) (rr 1) 6 fW 6, oQ (cY 3) (b 5) (rr 2) 13, gJ (cY 1) (rr 2) 36 fR 13] : List va_W).flatten s.heap := hP
  have hD : va_D A ([lO b, cO b (nI n) (nI k), oQ (cY 2) (b 3) (rr 1) 6, gI (cY 0) (rr 1) 6 fW 6, oQ (cY 3) (b 5) (rr 2) 13, gJ (cY 1) (rr 2) 36 fR 13] : List va_W).flatten := hD
  refine lv_iconst (v := nI 0) hx hb dX5_countLaws_0 (by decide) ?_
  refine lv_istore_n (lv' := [(2, .int (nI 0)), (0, .ref (b 4)), (1, .int (nI t))]) hx hb dX5_countLaws_1 rfl hl (by decide) rfl (fun ls hl => ?_)
  have L2 : ∀ i : Nat, i ≤ n → ∀ (gR : Nat → Nat → Int64), (R0 n i 0 (gR 0)) → ∀ (H : Heap) (locs : List Loc), va_P D vwCl ([lO b, cO b (nI n) (nI k), oQ (cY 2) (b 3) (rr 1) 6, gI (cY 0) (rr 1) 6 fW 6, oQ (cY 3) (b 5) (rr 2) 13, gJ (cY 1) (rr 2) 36 gR 13] : List va_W).flatten H → va_D A ([lO b, cO b (nI n) (nI k), oQ (cY 2) (b 3) (rr 1) 6, gI (cY 0) (rr 1) 6 fW 6, oQ (cY 3) (b 5) (rr 2) 13, gJ (cY 1) (rr 2) 36 gR 13] : List va_W).flatten → va_S A s.heap H locs → ∀ (ls : Array Slot), lv_has ls 4 [(0, .ref (b 4)), (1, .int (nI t)), (2, .int (nI i))] → W p l e ({ frames := 2, cells := 0, slots := 0, locals := 80 }) s m ([.ref (b 4), .int (nI t)] : List Value).toArray below meth c H locs 0 0 (MQ below (qV (S := (Nat → Nat → Int64)) D cY (fun u => RT g n k t u) (fun u => [lO b, cO b (nI n) (nI k), oQ (cY 2) (b 3) (rr 1) 6, gI (cY 0) (rr 1) 6 fW 6, oQ (cY 3) (b 5) (rr 2) 13, gJ (cY 1) (rr 2) 36 u 13]) A) ([.ref (b 4), .int (nI t)] : List Value).toArray s 0 0 A) (F0 m 2 ls []) := by
    refine lpW n ?_
    intro i bdi ih2 gR hI H locs hP hD hS ls hl
    refine lv_iload_n hx hb dX5_countLaws_2 rfl (lv_at hl 2 rfl) ?_
    refine lv_aload_n hx hb dX5_countLaws_3 rfl (lv_at hl 0 rfl) ?_
    refine b_get (ci := 5) (v := .ref (b 1)) (C := RX5) (T := TX5) (N := 3) hx hb hts (by decide +kernel) hown hK hP 0 rfl rfl 0 (by decide) (hts (.fieldLink RX5 9 "ChanceHall$Laws" "chain" "LChanceHall$Chain;") (by decide +kernel)) (fun _ h9 => h9) rfl dX5_countLaws_4 ?_
    refine b_get (ci := 0) (v := .int (nI n)) (C := RX0) (T := TX0) (N := 4) hx hb hts (by decide +kernel) hown hK hP 1 rfl rfl 0 (by decide) (hts (.fieldLink RX5 23 "ChanceHall$Chain" "states" "I") (by decide +kernel)) (fun _ h9 => h9) rfl dX5_countLaws_7 ?_
    refine n_icmp_ge (tgt := 60) hx hb dX5_countLaws_10 (by decide) (by omega) (by omega) (fun h10 => ?_) (fun h10 => ?_)
    · -- t
      refine lv_iconst (v := nI 1) hx hb dX5_countLaws_60 (by decide) ?_
      refine lv_istore_n (lv' := [(2, .int (nI 1)), (0, .ref (b 4)), (1, .int (nI t))]) hx hb dX5_countLaws_61 rfl hl (by decide) rfl (fun ls hl => ?_)
      have L62 : ∀ u : Nat, u ≤ t → ∀ (gR3 : Nat → Nat → Int64), (RT g n k u gR3) → ∀ (H : Heap) (locs : List Loc), va_P D vwCl ([lO b, cO b (nI n) (nI k), oQ (cY 2) (b 3) (rr 1) 6, gI (cY 0) (rr 1) 6 fW 6, oQ (cY 3) (b 5) (rr 2) 13, gJ (cY 1) (rr 2) 36 gR3 13] : List va_W).flatten H → va_D A ([lO b, cO b (nI n) (nI k), oQ (cY 2) (b 3) (rr 1) 6, gI (cY 0) (rr 1) 6 fW 6, oQ (cY 3) (b 5) (rr 2) 13, gJ (cY 1) (rr 2) 36 gR3 13] : List va_W).flatten → va_S A s.heap H locs → ∀ (ls : Array Slot), lv_has ls 4 [(0, .ref (b 4)), (1, .int (nI t)), (2, .int (nI (u + 1)))] → W p l e ({ frames := 2, cells := 0, slots := 0, locals := 80 }) s m ([.ref (b 4), .int (nI t)] : List Value).toArray below meth c H locs 0 0 (MQ below (qV (S := (Nat → Nat → Int64)) D cY (fun u => RT g n k t u) (fun u => [lO b, cO b (nI n) (nI k), oQ (cY 2) (b 3) (rr 1) 6, gI (cY 0) (rr 1) 6 fW 6, oQ (cY 3) (b 5) (rr 2) 13, gJ (cY 1) (rr 2) 36 u 13]) A) ([.ref (b 4), .int (nI t)] : List Value).toArray s 0 0 A) (F0 m 62 ls []) := by
        refine lpW t ?_
        intro u bdu ih62 gR3 hT H locs hP hD hS ls hl
        refine lv_iload_n hx hb dX5_countLaws_62 rfl (lv_at hl 2 rfl) ?_
        refine lv_iload_n hx hb dX5_countLaws_63 rfl (lv_at hl 1 rfl) ?_
        refine n_icmp_gt (tgt := 111) hx hb dX5_countLaws_64 (by decide) (by omega) (by omega) (fun h64 => ?_) (fun h64 => ?_)
        · -- t
          exact r_v hx hb hr hlocks hP hD hS gR3 rfl (by (have e : u = t := by omega); rw [e] at hT; exact hT) dX5_countLaws_111
        · -- f
          refine lv_iconst (v := nI 0) hx hb dX5_countLaws_67 (by decide) ?_
          refine lv_istore_n (lv' := [(3, .int (nI 0)), (0, .ref (b 4)), (1, .int (nI t)), (2, .int (nI (u + 1)))]) hx hb dX5_countLaws_68 rfl hl (by decide) rfl (fun ls hl => ?_)
          have L69 : ∀ y : Nat, y ≤ n → ∀ (gR4 : Nat → Nat → Int64), (RU g n k u y gR4) → ∀ (H : Heap) (locs : List Loc), va_P D vwCl ([lO b, cO b (nI n) (nI k), oQ (cY 2) (b 3) (rr 1) 6, gI (cY 0) (rr 1) 6 fW 6, oQ (cY 3) (b 5) (rr 2) 13, gJ (cY 1) (rr 2) 36 gR4 13] : List va_W).flatten H → va_D A ([lO b, cO b (nI n) (nI k), oQ (cY 2) (b 3) (rr 1) 6, gI (cY 0) (rr 1) 6 fW 6, oQ (cY 3) (b 5) (rr 2) 13, gJ (cY 1) (rr 2) 36 gR4 13] : List va_W).flatten → va_S A s.heap H locs → ∀ (ls : Array Slot), lv_has ls 4 [(0, .ref (b 4)), (1, .int (nI t)), (2, .int (nI (u + 1))), (3, .int (nI y))] → W p l e ({ frames := 2, cells := 0, slots := 0, locals := 80 }) s m ([.ref (b 4), .int (nI t)] : List Value).toArray below meth c H locs 0 0 (MQ below (qV (S := (Nat → Nat → Int64)) D cY (fun u => RT g n k t u) (fun u => [lO b, cO b (nI n) (nI k), oQ (cY 2) (b 3) (rr 1) 6, gI (cY 0) (rr 1) 6 fW 6, oQ (cY 3) (b 5) (rr 2) 13, gJ (cY 1) (rr 2) 36 u 13]) A) ([.ref (b 4), .int (nI t)] : List Value).toArray s 0 0 A) (F0 m 69 ls []) := by
            refine lpW n ?_
            intro y bdy ih69 gR4 hU H locs hP hD hS ls hl
            refine lv_iload_n hx hb dX5_countLaws_69 rfl (lv_at hl 3 rfl) ?_
            refine lv_aload_n hx hb dX5_countLaws_70 rfl (lv_at hl 0 rfl) ?_
            refine b_get (ci := 5) (v := .ref (b 1)) (C := RX5) (T := TX5) (N := 3) hx hb hts (by decide +kernel) hown hK hP 0 rfl rfl 0 (by decide) (hts (.fieldLink RX5 9 "ChanceHall$Laws" "chain" "LChanceHall$Chain;") (by decide +kernel)) (fun _ h9 => h9) rfl dX5_countLaws_71 ?_
            refine b_get (ci := 0) (v := .int (nI n)) (C := RX0) (T := TX0) (N := 4) hx hb hts (by decide +kernel) hown hK hP 1 rfl rfl 0 (by decide) (hts (.fieldLink RX5 23 "ChanceHall$Chain" "states" "I") (by decide +kernel)) (fun _ h9 => h9) rfl dX5_countLaws_74 ?_
            refine n_icmp_ge (tgt := 105) hx hb dX5_countLaws_77 (by decide) (by omega) (by omega) (fun h77 => ?_) (fun h77 => ?_)
            · -- t
              refine lv_iinc (v := nI (u + 1 + 1)) (lv' := [(2, .int (nI (u + 1 + 1))), (0, .ref (b 4)), (1, .int (nI t)), (3, .int (nI y))]) hx hb dX5_countLaws_105 hl (k := 2) rfl (nI_1 (u + 1)) (by decide) rfl (fun ls hl => ?_)
              refine lv_goto (tgt := 62) hx hb dX5_countLaws_108 (by decide) ?_
              exact ih62 (by omega) gR4 (RU_e (by (have e : y = n := by omega); rw [← e]; rw [← e] at hU; exact hU)) _ _ hP hD hS _ (lv_sub hl [1, 2, 0] rfl)
            · -- f
              refine lv_aload_n hx hb dX5_countLaws_80 rfl (lv_at hl 0 rfl) ?_
              refine lv_iload_n hx hb dX5_countLaws_81 rfl (lv_at hl 3 rfl) ?_
              refine lv_aload_n hx hb dX5_countLaws_82 rfl (lv_at hl 0 rfl) ?_
              refine b_get (ci := 5) (v := .ref (b 5)) (C := RX5) (T := TX5) (N := 3) hx hb hts (by decide +kernel) hown hK hP 0 rfl rfl 1 (by decide) (hts (.fieldLink RX5 17 "ChanceHall$Laws" "rows" "[[J") (by decide +kernel)) (fun _ h9 => h9) rfl dX5_countLaws_83 ?_
              refine lv_iload_n hx hb dX5_countLaws_86 rfl (lv_at hl 2 rfl) ?_
              refine lv_iconst (v := nI 1) hx hb dX5_countLaws_87 (by decide) ?_
              refine lv_isub hx hb dX5_countLaws_88 ?_
              refine eqi (x' := nI ((u + 1) - 1)) (pk_sub (by omega)) ?_
              refine eqi (x' := nI u) (rfl) ?_
              refine g_aald hx hb hK hP 4 3 rfl rfl (by omega) (by decide) dX5_countLaws_89 ?_
              refine lv_aload_n hx hb dX5_countLaws_90 rfl (lv_at hl 0 rfl) ?_
              refine b_get (ci := 5) (v := .ref (b 5)) (C := RX5) (T := TX5) (N := 3) hx hb hts (by decide +kernel) hown hK hP 0 rfl rfl 1 (by decide) (hts (.fieldLink RX5 17 "ChanceHall$Laws" "rows" "[[J") (by decide +kernel)) (fun _ h9 => h9) rfl dX5_countLaws_91 ?_
              refine lv_iload_n hx hb dX5_countLaws_94 rfl (lv_at hl 2 rfl) ?_
              refine g_aald hx hb hK hP 4 3 rfl rfl (by omega) (by decide) dX5_countLaws_95 ?_
              obtain ⟨X_1, hP, hD, hbk2⟩ := g_out2 hP hD (b := 5) rfl (i := u) (j := u + 1) (by omega) (by omega) (by omega)
              have hP : va_P D vwCl ([lO b, cO b (nI n) (nI k), oQ (cY 2) (b 3) (rr 1) 6, gI (cY 0) (rr 1) 6 fW 6, oQ (cY 3) (b 5) (rr 2) 13, X_1, [(rr 2 u, .inl (cY 1, 36, .inr (.inl (gR4 u))))], [(rr 2 (u + 1), .inl (cY 1, 36, .inr (.inl (gR4 (u + 1)))))]] : List va_W).flatten H := hP
              have hD : va_D A ([lO b, cO b (nI n) (nI k), oQ (cY 2) (b 3) (rr 1) 6, gI (cY 0) (rr 1) 6 fW 6, oQ (cY 3) (b 5) (rr 2) 13, X_1, [(rr 2 u, .inl (cY 1, 36, .inr (.inl (gR4 u))))], [(rr 2 (u + 1), .inl (cY 1, 36, .inr (.inl (gR4 (u + 1)))))]] : List va_W).flatten := hD
              refine ca_v (CL := [lO b, cO b (nI n) (nI k), oQ (cY 2) (b 3) (rr 1) 6, gI (cY 0) (rr 1) 6 fW 6, [(rr 2 u, .inl (cY 1, 36, .inr (.inl (gR4 u))))], [(rr 2 (u + 1), .inl (cY 1, 36, .inr (.inl (gR4 (u + 1)))))]]) (va_runV (As := [.int (nI y), .ref (rr 2 u), .ref (rr 2 (u + 1))]) (rest := []) ⟨hx, hb, hml, hown, hts⟩ (c_X5_goOneStep l D cY H.size b rr n k fW g (PL g n k y u) y (rr 2 u) (rr 2 (u + 1)) (gR4 u) (gR4 (u + 1)) (by omega) (by omega) (by omega) (by omega) hW (by omega) (fun d hd => hU.1 u (by omega) y d (by omega) hd)) (cwV 3 hts gX5_countLaws_X5_goOneStep rfl rfl rfl (by decide +kernel) ⟨Nat.le_of_ble_eq_true rfl, Nat.le_of_ble_eq_true rfl⟩) (b_preV hVK hP hD [0, 1, 2, 3, 6, 7] rfl rfl 0 rfl rfl) rfl rfl hl.1 rfl (lv_room (Nat.le_of_ble_eq_true rfl)) dX5_countLaws_96 ⟨Nat.le_refl _, Nat.le_refl _⟩) hP hD hS hA [0, 1, 2, 3, 6, 7] rfl rfl (fun _ => rfl) (fun uu H locs hq hP hD hS => ?_)
              obtain ⟨fx2_3, rfl⟩ : ∃ z, z = uu := ⟨_, rfl⟩
              try dsimp only at hq
              have q96 := hq
              have hP : va_P D vwCl ([lO b, cO b (nI n) (nI k), oQ (cY 2) (b 3) (rr 1) 6, gI (cY 0) (rr 1) 6 fW 6, oQ (cY 3) (b 5) (rr 2) 13, X_1, [(rr 2 u, .inl (cY 1, 36, .inr (.inl (gR4 u))))], [(rr 2 (u + 1), .inl (cY 1, 36, .inr (.inl fx2_3)))]] : List va_W).flatten H := hP
              have hD : va_D A ([lO b, cO b (nI n) (nI k), oQ (cY 2) (b 3) (rr 1) 6, gI (cY 0) (rr 1) 6 fW 6, oQ (cY 3) (b 5) (rr 2) 13, X_1, [(rr 2 u, .inl (cY 1, 36, .inr (.inl (gR4 u))))], [(rr 2 (u + 1), .inl (cY 1, 36, .inr (.inl fx2_3)))]] : List va_W).flatten := hD
              obtain ⟨hP, hD⟩ := hbk2 _ _ hP hD
              have hP : va_P D vwCl ([lO b, cO b (nI n) (nI k), oQ (cY 2) (b 3) (rr 1) 6, gI (cY 0) (rr 1) 6 fW 6, oQ (cY 3) (b 5) (rr 2) 13, gJ (cY 1) (rr 2) 36 (va_up gR4 (u + 1) fx2_3) 13] : List va_W).flatten H := hP
              have hD : va_D A ([lO b, cO b (nI n) (nI k), oQ (cY 2) (b 3) (rr 1) 6, gI (cY 0) (rr 1) 6 fW 6, oQ (cY 3) (b 5) (rr 2) 13, gJ (cY 1) (rr 2) 36 (va_up gR4 (u + 1) fx2_3) 13] : List va_W).flatten := hD
              refine lv_iinc (v := nI (y + 1)) (lv' := [(3, .int (nI (y + 1))), (0, .ref (b 4)), (1, .int (nI t)), (2, .int (nI (u + 1)))]) hx hb dX5_countLaws_99 hl (k := 3) rfl (nI_1 y) (by decide) rfl (fun ls hl => ?_)
              refine lv_goto (tgt := 69) hx hb dX5_countLaws_102 (by decide) ?_
              exact ih69 (by omega) (va_up gR4 (u + 1) fx2_3) (RU_s hn6 hU q96) _ _ hP hD hS _ (lv_sub hl [1, 2, 3, 0] rfl)
          exact L69 0 (by omega) gR3 (RU_0 hT) _ _ hP hD hS _ (lv_sub hl [1, 2, 3, 0] rfl)
      exact L62 0 (by omega) gR (RT_0 (by (have e : i = n := by omega); rw [← e]; rw [← e] at hI; exact hI)) _ _ hP hD hS _ (lv_sub hl [1, 2, 0] rfl)
    · -- f
      refine lv_iconst (v := nI 0) hx hb dX5_countLaws_13 (by decide) ?_
      refine lv_istore_n (lv' := [(3, .int (nI 0)), (0, .ref (b 4)), (1, .int (nI t)), (2, .int (nI i))]) hx hb dX5_countLaws_14 rfl hl (by decide) rfl (fun ls hl => ?_)
      have L15 : ∀ j : Nat, j ≤ n → ∀ (gR2 : Nat → Nat → Int64), (R0 n i j (gR2 0)) → ∀ (H : Heap) (locs : List Loc), va_P D vwCl ([lO b, cO b (nI n) (nI k), oQ (cY 2) (b 3) (rr 1) 6, gI (cY 0) (rr 1) 6 fW 6, oQ (cY 3) (b 5) (rr 2) 13, gJ (cY 1) (rr 2) 36 gR2 13] : List va_W).flatten H → va_D A ([lO b, cO b (nI n) (nI k), oQ (cY 2) (b 3) (rr 1) 6, gI (cY 0) (rr 1) 6 fW 6, oQ (cY 3) (b 5) (rr 2) 13, gJ (cY 1) (rr 2) 36 gR2 13] : List va_W).flatten → va_S A s.heap H locs → ∀ (ls : Array Slot), lv_has ls 4 [(0, .ref (b 4)), (1, .int (nI t)), (2, .int (nI i)), (3, .int (nI j))] → W p l e ({ frames := 2, cells := 0, slots := 0, locals := 80 }) s m ([.ref (b 4), .int (nI t)] : List Value).toArray below meth c H locs 0 0 (MQ below (qV (S := (Nat → Nat → Int64)) D cY (fun u => RT g n k t u) (fun u => [lO b, cO b (nI n) (nI k), oQ (cY 2) (b 3) (rr 1) 6, gI (cY 0) (rr 1) 6 fW 6, oQ (cY 3) (b 5) (rr 2) 13, gJ (cY 1) (rr 2) 36 u 13]) A) ([.ref (b 4), .int (nI t)] : List Value).toArray s 0 0 A) (F0 m 15 ls []) := by
        refine lpW n ?_
        intro j bdj ih15 gR2 hJ H locs hP hD hS ls hl
        refine lv_iload_n hx hb dX5_countLaws_15 rfl (lv_at hl 3 rfl) ?_
        refine lv_aload_n hx hb dX5_countLaws_16 rfl (lv_at hl 0 rfl) ?_
        refine b_get (ci := 5) (v := .ref (b 1)) (C := RX5) (T := TX5) (N := 3) hx hb hts (by decide +kernel) hown hK hP 0 rfl rfl 0 (by decide) (hts (.fieldLink RX5 9 "ChanceHall$Laws" "chain" "LChanceHall$Chain;") (by decide +kernel)) (fun _ h9 => h9) rfl dX5_countLaws_17 ?_
        refine b_get (ci := 0) (v := .int (nI n)) (C := RX0) (T := TX0) (N := 4) hx hb hts (by decide +kernel) hown hK hP 1 rfl rfl 0 (by decide) (hts (.fieldLink RX5 23 "ChanceHall$Chain" "states" "I") (by decide +kernel)) (fun _ h9 => h9) rfl dX5_countLaws_20 ?_
        refine n_icmp_ge (tgt := 54) hx hb dX5_countLaws_23 (by decide) (by omega) (by omega) (fun h23 => ?_) (fun h23 => ?_)
        · -- t
          refine lv_iinc (v := nI (i + 1)) (lv' := [(2, .int (nI (i + 1))), (0, .ref (b 4)), (1, .int (nI t)), (3, .int (nI j))]) hx hb dX5_countLaws_54 hl (k := 2) rfl (nI_1 i) (by decide) rfl (fun ls hl => ?_)
          refine lv_goto (tgt := 2) hx hb dX5_countLaws_57 (by decide) ?_
          exact ih2 (by omega) gR2 (R0_n (by (have e : j = n := by omega); rw [← e]; rw [← e] at hJ; exact hJ)) _ _ hP hD hS _ (lv_sub hl [1, 2, 0] rfl)
        · -- f
          refine lv_aload_n hx hb dX5_countLaws_26 rfl (lv_at hl 0 rfl) ?_
          refine b_get (ci := 5) (v := .ref (b 5)) (C := RX5) (T := TX5) (N := 3) hx hb hts (by decide +kernel) hown hK hP 0 rfl rfl 1 (by decide) (hts (.fieldLink RX5 17 "ChanceHall$Laws" "rows" "[[J") (by decide +kernel)) (fun _ h9 => h9) rfl dX5_countLaws_27 ?_
          refine lv_iconst (v := nI 0) hx hb dX5_countLaws_30 (by decide) ?_
          refine g_aald hx hb hK hP 4 3 rfl rfl (by omega) (by decide) dX5_countLaws_31 ?_
          refine lv_iload_n hx hb dX5_countLaws_32 rfl (lv_at hl 2 rfl) ?_
          refine lv_iload_n hx hb dX5_countLaws_33 rfl (lv_at hl 3 rfl) ?_
          refine ca_i (CL := []) (va_runSN (As := [.int (nI i), .int (nI j)]) (rest := [.ref (rr 2 0)]) ⟨hx, hb, hml, hown, hts⟩ (c_X8_pairOf l D cY H.size i j) ⟨va_cnB 2 hts gX5_countLaws_X8_pairOf_n29 rfl rfl rfl hVK.2.1 (hts (.initialized RX8) (by decide +kernel)) (by decide +kernel) ⟨Nat.le_of_ble_eq_true rfl, Nat.le_of_ble_eq_true rfl⟩, hts (.static yX8_pairOf) (by decide +kernel), trivial⟩ (b_preS hVK hP hD [] rfl rfl) rfl rfl hl.1 rfl (lv_room (Nat.le_of_ble_eq_true rfl)) dX5_countLaws_34 ⟨Nat.le_refl _, Nat.le_refl _⟩) hP hD hS hA [] rfl rfl (fun _ => rfl) (fun r34 uu H locs hq hP hD hS => ?_)
          subst hq
          have hP : va_P D vwCl ([lO b, cO b (nI n) (nI k), oQ (cY 2) (b 3) (rr 1) 6, gI (cY 0) (rr 1) 6 fW 6, oQ (cY 3) (b 5) (rr 2) 13, gJ (cY 1) (rr 2) 36 gR2 13] : List va_W).flatten H := hP
          have hD : va_D A ([lO b, cO b (nI n) (nI k), oQ (cY 2) (b 3) (rr 1) 6, gI (cY 0) (rr 1) 6 fW 6, oQ (cY 3) (b 5) (rr 2) 13, gJ (cY 1) (rr 2) 36 gR2 13] : List va_W).flatten := hD
          refine lv_iload_n hx hb dX5_countLaws_37 rfl (lv_at hl 2 rfl) ?_
          refine lv_iload_n hx hb dX5_countLaws_38 rfl (lv_at hl 3 rfl) ?_
          refine n_icmp_ne (tgt := 46) hx hb dX5_countLaws_39 (by decide) (by omega) (by omega) (fun h39 => ?_) (fun h39 => ?_)
          · -- t
            refine lv_lconst (v := lN 0) hx hb dX5_countLaws_46 (by decide) ?_
            refine g_last hx hb hK hP hD hS 5 1 rfl rfl (by omega) (by omega) (by decide) dX5_countLaws_47 (fun H locs hP hD hS => ?_)
            have hP : va_P D vwCl ([lO b, cO b (nI n) (nI k), oQ (cY 2) (b 3) (rr 1) 6, gI (cY 0) (rr 1) 6 fW 6, oQ (cY 3) (b 5) (rr 2) 13, gJ (cY 1) (rr 2) 36 (va_up gR2 0 (vp_updL (gR2 0) (6 * i + j) (lN 0))) 13] : List va_W).flatten H := hP
            have hD : va_D A ([lO b, cO b (nI n) (nI k), oQ (cY 2) (b 3) (rr 1) 6, gI (cY 0) (rr 1) 6 fW 6, oQ (cY 3) (b 5) (rr 2) 13, gJ (cY 1) (rr 2) 36 (va_up gR2 0 (vp_updL (gR2 0) (6 * i + j) (lN 0))) 13] : List va_W).flatten := hD
            refine lv_iinc (v := nI (j + 1)) (lv' := [(3, .int (nI (j + 1))), (0, .ref (b 4)), (1, .int (nI t)), (2, .int (nI i))]) hx hb dX5_countLaws_48 hl (k := 3) rfl (nI_1 j) (by decide) rfl (fun ls hl => ?_)
            refine lv_goto (tgt := 15) hx hb dX5_countLaws_51 (by decide) ?_
            exact ih15 (by omega) (va_up gR2 0 (vp_updL (gR2 0) (6 * i + j) (lN 0))) (by rw [va_up_self]; exact R0_s hn6 (by omega) hJ (by first | exact if_neg (fun z => h39 z.symm) | exact if_pos h39.symm)) _ _ hP hD hS _ (lv_sub hl [1, 2, 3, 0] rfl)
          · -- f
            refine lv_lconst (v := lN 1) hx hb dX5_countLaws_42 (by decide) ?_
            refine lv_goto (tgt := 47) hx hb dX5_countLaws_43 (by decide) ?_
            refine g_last hx hb hK hP hD hS 5 1 rfl rfl (by omega) (by omega) (by decide) dX5_countLaws_47 (fun H locs hP hD hS => ?_)
            have hP : va_P D vwCl ([lO b, cO b (nI n) (nI k), oQ (cY 2) (b 3) (rr 1) 6, gI (cY 0) (rr 1) 6 fW 6, oQ (cY 3) (b 5) (rr 2) 13, gJ (cY 1) (rr 2) 36 (va_up gR2 0 (vp_updL (gR2 0) (6 * i + j) (lN 1))) 13] : List va_W).flatten H := hP
            have hD : va_D A ([lO b, cO b (nI n) (nI k), oQ (cY 2) (b 3) (rr 1) 6, gI (cY 0) (rr 1) 6 fW 6, oQ (cY 3) (b 5) (rr 2) 13, gJ (cY 1) (rr 2) 36 (va_up gR2 0 (vp_updL (gR2 0) (6 * i + j) (lN 1))) 13] : List va_W).flatten := hD
            refine lv_iinc (v := nI (j + 1)) (lv' := [(3, .int (nI (j + 1))), (0, .ref (b 4)), (1, .int (nI t)), (2, .int (nI i))]) hx hb dX5_countLaws_48 hl (k := 3) rfl (nI_1 j) (by decide) rfl (fun ls hl => ?_)
            refine lv_goto (tgt := 15) hx hb dX5_countLaws_51 (by decide) ?_
            exact ih15 (by omega) (va_up gR2 0 (vp_updL (gR2 0) (6 * i + j) (lN 1))) (by rw [va_up_self]; exact R0_s hn6 (by omega) hJ (by first | exact if_neg (fun z => h39 z.symm) | exact if_pos h39.symm)) _ _ hP hD hS _ (lv_sub hl [1, 2, 3, 0] rfl)
      exact L15 0 (by omega) gR hI _ _ hP hD hS _ (lv_sub hl [1, 2, 3, 0] rfl)
  exact L2 0 (by omega) fR R0_0 _ _ hP hD hS _ (lv_sub hl [1, 2, 0] rfl)

set_option maxHeartbeats 4000000 in
set_option maxRecDepth 100000 in
theorem c_X5_countLaw (l : Launch) (D : va_G) (cY : Nat → ClassId) (sz : Nat) (b : Nat → Nat) (rr : Nat → Nat → Nat) (n : Nat) (k : Nat) (fW : Nat → Nat → Int32) (fR : Nat → Nat → Int64) (g : Nat → Nat → Nat) (f : Nat) (t : Nat) (j : Nat) (hn1 : 1 ≤ n) (hn6 : n ≤ 6) (hk1 : 1 ≤ k) (hk12 : k ≤ 12) (hW : ∀ i j, i < n → j < n → fW i j = nI (cnt (g i) j k)) (ht : t ≤ 12) (hf : f < n) (hj : j < n) : Met l yX5_countLaw wsX5_countLaw ({ frames := 3, cells := 0, slots := 0, locals := 120 }) (cP D cY [.ref (b 4), .int (nI f), .int (nI t), .int (nI j)] [lO b, cO b (nI n) (nI k), oQ (cY 2) (b 3) (rr 1) 6, gI (cY 0) (rr 1) 6 fW 6, oQ (cY 3) (b 5) (rr 2) 13, gJ (cY 1) (rr 2) 36 fR 13] sz) (qL (S := (Nat → Nat → Int64)) D cY (fun r u => r = lN (PL g n k f t j)) (fun u => [lO b, cO b (nI n) (nI k), oQ (cY 2) (b 3) (rr 1) 6, gI (cY 0) (rr 1) 6 fW 6, oQ (cY 3) (b 5) (rr 2) 13, gJ (cY 1) (rr 2) 36 u 13]) (va_A ([lO b, cO b (nI n) (nI k), oQ (cY 2) (b 3) (rr 1) 6, gI (cY 0) (rr 1) 6 fW 6, oQ (cY 3) (b 5) (rr 2) 13, gJ (cY 1) (rr 2) 36 fR 13] : List va_W).flatten sz)) 0 0 (va_A ([lO b, cO b (nI n) (nI k), oQ (cY 2) (b 3) (rr 1) 6, gI (cY 0) (rr 1) 6 fW 6, oQ (cY 3) (b 5) (rr 2) 13, gJ (cY 1) (rr 2) 36 fR 13] : List va_W).flatten sz) := by
  refine mtB (Qc := fun A => qL (S := (Nat → Nat → Int64)) D cY (fun r u => r = lN (PL g n k f t j)) (fun u => [lO b, cO b (nI n) (nI k), oQ (cY 2) (b 3) (rr 1) 6, gI (cY 0) (rr 1) 6 fW 6, oQ (cY 3) (b 5) (rr 2) 13, gJ (cY 1) (rr 2) 36 u 13]) A) (cc := cX5_countLaw) (maxL := 4) (ret := (some .long)) (by decide) rfl (Nat.le_of_ble_eq_true rfl) ?_
  intro p e s m below meth c A ls hx hb hr hml hts hown hlocks hnm hsz hP hK hVK hD hS hA hl
  have hown : s.vm.findClass RX5 = some m.cls := hown
  have hl : lv_has ls 4 [(0, .ref (b 4)), (1, .int (nI f)), (2, .int (nI t)), (3, .int (nI j))] := hl
  have hP : va_P D vwCl ([lO b, cO b (nI n) (nI k), oQ (cY 2) (b 3) (rr 1) 6, gI (cY 0) (rr 1) 6 fW 6, oQ (cY 3) (b 5) (rr 2) 13, gJ (cY 1) (rr 2) 36 fR 13] : List va_W).flatten s.heap := hP
  have hD : va_D A ([lO b, cO b (nI n) (nI k), oQ (cY 2) (b 3) (rr 1) 6, gI (cY 0) (rr 1) 6 fW 6, oQ (cY 3) (b 5) (rr 2) 13, gJ (cY 1) (rr 2) 36 fR 13] : List va_W).flatten := hD
  refine lv_aload_n hx hb dX5_countLaw_0 rfl (lv_at hl 0 rfl) ?_
  refine lv_iload_n hx hb dX5_countLaw_1 rfl (lv_at hl 2 rfl) ?_
  refine ca_v (CL := [lO b, cO b (nI n) (nI k), oQ (cY 2) (b 3) (rr 1) 6, gI (cY 0) (rr 1) 6 fW 6, oQ (cY 3) (b 5) (rr 2) 13, gJ (cY 1) (rr 2) 36 fR 13]) (va_runV (As := [.int (nI t)]) (rest := []) ⟨hx, hb, hml, hown, hts⟩ (c_X5_countLaws l D cY s.heap.size b rr n k fW fR g t (by omega) (by omega) (by omega) (by omega) hW (by omega)) (cwV 1 hts gX5_countLaw_X5_countLaws rfl rfl rfl (by decide +kernel) ⟨Nat.le_of_ble_eq_true rfl, Nat.le_of_ble_eq_true rfl⟩) (b_preV hVK hP hD [0, 1, 2, 3, 4, 5] rfl rfl 0 rfl rfl) rfl rfl hl.1 rfl (lv_room (Nat.le_of_ble_eq_true rfl)) dX5_countLaw_2 ⟨Nat.le_refl _, Nat.le_refl _⟩) hP hD hS hA [0, 1, 2, 3, 4, 5] rfl rfl (fun _ => rfl) (fun uu H locs hq hP hD hS => ?_)
  obtain ⟨fR1_1, rfl⟩ : ∃ z, z = uu := ⟨_, rfl⟩
  try dsimp only at hq
  have q2 := hq
  have hP : va_P D vwCl ([lO b, cO b (nI n) (nI k), oQ (cY 2) (b 3) (rr 1) 6, gI (cY 0) (rr 1) 6 fW 6, oQ (cY 3) (b 5) (rr 2) 13, gJ (cY 1) (rr 2) 36 fR1_1 13] : List va_W).flatten H := hP
  have hD : va_D A ([lO b, cO b (nI n) (nI k), oQ (cY 2) (b 3) (rr 1) 6, gI (cY 0) (rr 1) 6 fW 6, oQ (cY 3) (b 5) (rr 2) 13, gJ (cY 1) (rr 2) 36 fR1_1 13] : List va_W).flatten := hD
  refine lv_aload_n hx hb dX5_countLaw_5 rfl (lv_at hl 0 rfl) ?_
  refine b_get (ci := 5) (v := .ref (b 5)) (C := RX5) (T := TX5) (N := 3) hx hb hts (by decide +kernel) hown hK hP 0 rfl rfl 1 (by decide) (hts (.fieldLink RX5 17 "ChanceHall$Laws" "rows" "[[J") (by decide +kernel)) (fun _ h9 => h9) rfl dX5_countLaw_6 ?_
  refine lv_iload_n hx hb dX5_countLaw_9 rfl (lv_at hl 2 rfl) ?_
  refine g_aald hx hb hK hP 4 3 rfl rfl (by omega) (by decide) dX5_countLaw_10 ?_
  refine lv_iload_n hx hb dX5_countLaw_11 rfl (lv_at hl 1 rfl) ?_
  refine lv_iload_n hx hb dX5_countLaw_12 rfl (lv_at hl 3 rfl) ?_
  refine ca_i (CL := []) (va_runSN (As := [.int (nI f), .int (nI j)]) (rest := [.ref (rr 2 t)]) ⟨hx, hb, hml, hown, hts⟩ (c_X8_pairOf l D cY H.size f j) ⟨va_cnB 2 hts gX5_countLaw_X8_pairOf_n29 rfl rfl rfl hVK.2.1 (hts (.initialized RX8) (by decide +kernel)) (by decide +kernel) ⟨Nat.le_of_ble_eq_true rfl, Nat.le_of_ble_eq_true rfl⟩, hts (.static yX8_pairOf) (by decide +kernel), trivial⟩ (b_preS hVK hP hD [] rfl rfl) rfl rfl hl.1 rfl (lv_room (Nat.le_of_ble_eq_true rfl)) dX5_countLaw_13 ⟨Nat.le_refl _, Nat.le_refl _⟩) hP hD hS hA [] rfl rfl (fun _ => rfl) (fun r13 uu H locs hq hP hD hS => ?_)
  subst hq
  have hP : va_P D vwCl ([lO b, cO b (nI n) (nI k), oQ (cY 2) (b 3) (rr 1) 6, gI (cY 0) (rr 1) 6 fW 6, oQ (cY 3) (b 5) (rr 2) 13, gJ (cY 1) (rr 2) 36 fR1_1 13] : List va_W).flatten H := hP
  have hD : va_D A ([lO b, cO b (nI n) (nI k), oQ (cY 2) (b 3) (rr 1) 6, gI (cY 0) (rr 1) 6 fW 6, oQ (cY 3) (b 5) (rr 2) 13, gJ (cY 1) (rr 2) 36 fR1_1 13] : List va_W).flatten := hD
  refine g_lald hx hb hK hP 5 1 rfl rfl (by omega) (by omega) (by decide) dX5_countLaw_16 ?_
  exact r_l hx hb hr hlocks hP hD hS fR1_1 rfl (q2 t (by omega) f j hf hj) dX5_countLaw_17

set_option maxHeartbeats 4000000 in
set_option maxRecDepth 100000 in
theorem c_X5_distanceBehind (l : Launch) (D : va_G) (cY : Nat → ClassId) (sz : Nat) (b : Nat → Nat) (rr : Nat → Nat → Nat) (n : Nat) (k : Nat) (fR : Nat → Nat → Int64) (g : Nat → Nat → Nat) (f : Nat) (w : Nat) (t : Nat) (hn1 : 1 ≤ n) (hn6 : n ≤ 6) (hk1 : 1 ≤ k) (hk12 : k ≤ 12) (hgn : ∀ i j, i < n → j < k → g i j < n) (hR : ∀ i j, i < n → j < n → fR t (6 * i + j) = lN (PL g n k i t j)) (hf : f < n) (hw : w < n) (ht : t ≤ 12) : Met l yX5_distanceBehind wsX5_distanceBehind ({ frames := 1, cells := 0, slots := 0, locals := 40 }) (cP D cY [.ref (b 4), .int (nI f), .int (nI w), .int (nI t)] [lO b, cO b (nI n) (nI k), oQ (cY 3) (b 5) (rr 2) 13, gJ (cY 1) (rr 2) 36 fR 13] sz) (qL (S := Unit) D cY (fun r u => r = lN (dst (PL g n k f t) (PL g n k w t) n)) (fun u => [lO b, cO b (nI n) (nI k), oQ (cY 3) (b 5) (rr 2) 13, gJ (cY 1) (rr 2) 36 fR 13]) (va_A ([lO b, cO b (nI n) (nI k), oQ (cY 3) (b 5) (rr 2) 13, gJ (cY 1) (rr 2) 36 fR 13] : List va_W).flatten sz)) 0 0 (va_A ([lO b, cO b (nI n) (nI k), oQ (cY 3) (b 5) (rr 2) 13, gJ (cY 1) (rr 2) 36 fR 13] : List va_W).flatten sz) := by
  refine mtB (Qc := fun A => qL (S := Unit) D cY (fun r u => r = lN (dst (PL g n k f t) (PL g n k w t) n)) (fun u => [lO b, cO b (nI n) (nI k), oQ (cY 3) (b 5) (rr 2) 13, gJ (cY 1) (rr 2) 36 fR 13]) A) (cc := cX5_distanceBehind) (maxL := 9) (ret := (some .long)) (by decide) rfl (Nat.le_of_ble_eq_true rfl) ?_
  intro p e s m below meth c A ls hx hb hr hml hts hown hlocks hnm hsz hP hK hVK hD hS hA hl
  have hown : s.vm.findClass RX5 = some m.cls := hown
  have hl : lv_has ls 9 [(0, .ref (b 4)), (1, .int (nI f)), (2, .int (nI w)), (3, .int (nI t))] := hl
  have hP : va_P D vwCl ([lO b, cO b (nI n) (nI k), oQ (cY 3) (b 5) (rr 2) 13, gJ (cY 1) (rr 2) 36 fR 13] : List va_W).flatten s.heap := hP
  have hD : va_D A ([lO b, cO b (nI n) (nI k), oQ (cY 3) (b 5) (rr 2) 13, gJ (cY 1) (rr 2) 36 fR 13] : List va_W).flatten := hD
  have hpw := pow_b (k := k) (t := t) hk12 hk1 ht
  refine lv_lconst (v := lN 0) hx hb dX5_distanceBehind_0 (by decide) ?_
  refine lv_lstore (lv' := [(4, .long (lN 0)), (0, .ref (b 4)), (1, .int (nI f)), (2, .int (nI w)), (3, .int (nI t))]) hx hb dX5_distanceBehind_1 hl (by decide) rfl (fun ls hl => ?_)
  refine lv_iconst (v := nI 0) hx hb dX5_distanceBehind_3 (by decide) ?_
  refine lv_istore (lv' := [(6, .int (nI 0)), (4, .long (lN 0)), (0, .ref (b 4)), (1, .int (nI f)), (2, .int (nI w)), (3, .int (nI t))]) hx hb dX5_distanceBehind_4 hl (by decide) rfl (fun ls hl => ?_)
  have L6 : ∀ q : Nat, q ≤ n →  ∀ (H : Heap) (locs : List Loc), va_P D vwCl ([lO b, cO b (nI n) (nI k), oQ (cY 3) (b 5) (rr 2) 13, gJ (cY 1) (rr 2) 36 fR 13] : List va_W).flatten H → va_D A ([lO b, cO b (nI n) (nI k), oQ (cY 3) (b 5) (rr 2) 13, gJ (cY 1) (rr 2) 36 fR 13] : List va_W).flatten → va_S A s.heap H locs → ∀ (ls : Array Slot), lv_has ls 9 [(0, .ref (b 4)), (1, .int (nI f)), (2, .int (nI w)), (3, .int (nI t)), (4, .long (lN (dst (PL g n k f t) (PL g n k w t) q))), (6, .int (nI q))] → W p l e ({ frames := 1, cells := 0, slots := 0, locals := 40 }) s m ([.ref (b 4), .int (nI f), .int (nI w), .int (nI t)] : List Value).toArray below meth c H locs 0 0 (MQ below (qL (S := Unit) D cY (fun r u => r = lN (dst (PL g n k f t) (PL g n k w t) n)) (fun u => [lO b, cO b (nI n) (nI k), oQ (cY 3) (b 5) (rr 2) 13, gJ (cY 1) (rr 2) 36 fR 13]) A) ([.ref (b 4), .int (nI f), .int (nI w), .int (nI t)] : List Value).toArray s 0 0 A) (F0 m 6 ls []) := by
    refine lpW n ?_
    intro q bdq ih6   H locs hP hD hS ls hl
    refine lv_iload hx hb dX5_distanceBehind_6 (lv_at hl 5 rfl) ?_
    refine lv_aload_n hx hb dX5_distanceBehind_8 rfl (lv_at hl 0 rfl) ?_
    refine b_get (ci := 5) (v := .ref (b 1)) (C := RX5) (T := TX5) (N := 3) hx hb hts (by decide +kernel) hown hK hP 0 rfl rfl 0 (by decide) (hts (.fieldLink RX5 9 "ChanceHall$Laws" "chain" "LChanceHall$Chain;") (by decide +kernel)) (fun _ h9 => h9) rfl dX5_distanceBehind_9 ?_
    refine b_get (ci := 0) (v := .int (nI n)) (C := RX0) (T := TX0) (N := 4) hx hb hts (by decide +kernel) hown hK hP 1 rfl rfl 0 (by decide) (hts (.fieldLink RX5 23 "ChanceHall$Chain" "states" "I") (by decide +kernel)) (fun _ h9 => h9) rfl dX5_distanceBehind_12 ?_
    refine n_icmp_ge (tgt := 64) hx hb dX5_distanceBehind_15 (by decide) (by omega) (by omega) (fun h15 => ?_) (fun h15 => ?_)
    · -- t
      refine lv_lload hx hb dX5_distanceBehind_64 (lv_at hl 4 rfl) ?_
      exact r_l hx hb hr hlocks hP hD hS () rfl (by (have e : q = n := by omega); subst e; rfl) dX5_distanceBehind_66
    · -- f
      refine lv_aload_n hx hb dX5_distanceBehind_18 rfl (lv_at hl 0 rfl) ?_
      refine b_get (ci := 5) (v := .ref (b 5)) (C := RX5) (T := TX5) (N := 3) hx hb hts (by decide +kernel) hown hK hP 0 rfl rfl 1 (by decide) (hts (.fieldLink RX5 17 "ChanceHall$Laws" "rows" "[[J") (by decide +kernel)) (fun _ h9 => h9) rfl dX5_distanceBehind_19 ?_
      refine lv_iload_n hx hb dX5_distanceBehind_22 rfl (lv_at hl 3 rfl) ?_
      refine g_aald hx hb hK hP 2 3 rfl rfl (by omega) (by decide) dX5_distanceBehind_23 ?_
      refine lv_iload_n hx hb dX5_distanceBehind_24 rfl (lv_at hl 1 rfl) ?_
      refine lv_iload hx hb dX5_distanceBehind_25 (lv_at hl 5 rfl) ?_
      refine ca_i (CL := []) (va_runSN (As := [.int (nI f), .int (nI q)]) (rest := [.ref (rr 2 t)]) ⟨hx, hb, hml, hown, hts⟩ (c_X8_pairOf l D cY H.size f q) ⟨va_cnB 2 hts gX5_distanceBehind_X8_pairOf_n29 rfl rfl rfl hVK.2.1 (hts (.initialized RX8) (by decide +kernel)) (by decide +kernel) ⟨Nat.le_of_ble_eq_true rfl, Nat.le_of_ble_eq_true rfl⟩, hts (.static yX8_pairOf) (by decide +kernel), trivial⟩ (b_preS hVK hP hD [] rfl rfl) rfl rfl hl.1 rfl (lv_room (Nat.le_of_ble_eq_true rfl)) dX5_distanceBehind_27 ⟨Nat.le_refl _, Nat.le_refl _⟩) hP hD hS hA [] rfl rfl (fun _ => rfl) (fun r27 uu H locs hq hP hD hS => ?_)
      subst hq
      have hP : va_P D vwCl ([lO b, cO b (nI n) (nI k), oQ (cY 3) (b 5) (rr 2) 13, gJ (cY 1) (rr 2) 36 fR 13] : List va_W).flatten H := hP
      have hD : va_D A ([lO b, cO b (nI n) (nI k), oQ (cY 3) (b 5) (rr 2) 13, gJ (cY 1) (rr 2) 36 fR 13] : List va_W).flatten := hD
      refine g_lald hx hb hK hP 3 1 rfl rfl (by omega) (by omega) (by decide) dX5_distanceBehind_30 ?_
      refine eql (x' := lN (PL g n k f t q)) (hR f q hf (by omega)) ?_
      refine lv_aload_n hx hb dX5_distanceBehind_31 rfl (lv_at hl 0 rfl) ?_
      refine b_get (ci := 5) (v := .ref (b 5)) (C := RX5) (T := TX5) (N := 3) hx hb hts (by decide +kernel) hown hK hP 0 rfl rfl 1 (by decide) (hts (.fieldLink RX5 17 "ChanceHall$Laws" "rows" "[[J") (by decide +kernel)) (fun _ h9 => h9) rfl dX5_distanceBehind_32 ?_
      refine lv_iload_n hx hb dX5_distanceBehind_35 rfl (lv_at hl 3 rfl) ?_
      refine g_aald hx hb hK hP 2 3 rfl rfl (by omega) (by decide) dX5_distanceBehind_36 ?_
      refine lv_iload_n hx hb dX5_distanceBehind_37 rfl (lv_at hl 2 rfl) ?_
      refine lv_iload hx hb dX5_distanceBehind_38 (lv_at hl 5 rfl) ?_
      refine ca_i (CL := []) (va_runSN (As := [.int (nI w), .int (nI q)]) (rest := [.ref (rr 2 t), .long (lN (PL g n k f t q))]) ⟨hx, hb, hml, hown, hts⟩ (c_X8_pairOf l D cY H.size w q) ⟨va_cnB 2 hts gX5_distanceBehind_X8_pairOf_n29 rfl rfl rfl hVK.2.1 (hts (.initialized RX8) (by decide +kernel)) (by decide +kernel) ⟨Nat.le_of_ble_eq_true rfl, Nat.le_of_ble_eq_true rfl⟩, hts (.static yX8_pairOf) (by decide +kernel), trivial⟩ (b_preS hVK hP hD [] rfl rfl) rfl rfl hl.1 rfl (lv_room (Nat.le_of_ble_eq_true rfl)) dX5_distanceBehind_40 ⟨Nat.le_refl _, Nat.le_refl _⟩) hP hD hS hA [] rfl rfl (fun _ => rfl) (fun r40 uu H locs hq hP hD hS => ?_)
      subst hq
      have hP : va_P D vwCl ([lO b, cO b (nI n) (nI k), oQ (cY 3) (b 5) (rr 2) 13, gJ (cY 1) (rr 2) 36 fR 13] : List va_W).flatten H := hP
      have hD : va_D A ([lO b, cO b (nI n) (nI k), oQ (cY 3) (b 5) (rr 2) 13, gJ (cY 1) (rr 2) 36 fR 13] : List va_W).flatten := hD
      refine g_lald hx hb hK hP 3 1 rfl rfl (by omega) (by omega) (by decide) dX5_distanceBehind_43 ?_
      refine eql (x' := lN (PL g n k w t q)) (hR w q hw (by omega)) ?_
      have hf1 := PL_le (t := t) (b := q) hgn hf (by omega)
      have hf2 := PL_le (t := t) (b := q) hgn hw (by omega)
      refine lv_lsub hx hb dX5_distanceBehind_44 ?_
      refine lv_lstore (lv' := [(7, .long ((lN (PL g n k f t q)) - (lN (PL g n k w t q)))), (0, .ref (b 4)), (1, .int (nI f)), (2, .int (nI w)), (3, .int (nI t)), (4, .long (lN (dst (PL g n k f t) (PL g n k w t) q))), (6, .int (nI q))]) hx hb dX5_distanceBehind_45 hl (by decide) rfl (fun ls hl => ?_)
      refine lv_lload hx hb dX5_distanceBehind_47 (lv_at hl 5 rfl) ?_
      refine lv_lload hx hb dX5_distanceBehind_49 (lv_at hl 0 rfl) ?_
      refine lv_lconst (v := lN 0) hx hb dX5_distanceBehind_51 (by decide) ?_
      refine va_mmax_long hx hb (hml.trans hl.1.symm) hown (hts (.methodLink RX5 45 Lib.MathLoose.max_long.x) (by decide +kernel)) (hts (.static Lib.MathLoose.max_long.x) (by decide +kernel)) (hts (.initialized "java/lang/Math") (by decide +kernel)) (hts (.code Lib.MathLoose.max_long.x Lib.MathLoose.max_long.code 4 (some .long)) (by decide +kernel)) (Nat.le_of_ble_eq_true rfl) (Nat.le_of_ble_eq_true rfl) (Nat.zero_le _) (Nat.zero_le _) dX5_distanceBehind_52 ?_
      refine eql (x' := lN (PL g n k f t q - PL g n k w t q)) (mxd (by omega) (by omega)) ?_
      refine lv_ladd hx hb dX5_distanceBehind_55 ?_
      refine eql (x' := lN (dst (PL g n k f t) (PL g n k w t) q + (PL g n k f t q - PL g n k w t q))) (lN_add _ _) ?_
      refine lv_lstore (lv' := [(4, .long (lN (dst (PL g n k f t) (PL g n k w t) q + (PL g n k f t q - PL g n k w t q)))), (7, .long ((lN (PL g n k f t q)) - (lN (PL g n k w t q)))), (0, .ref (b 4)), (1, .int (nI f)), (2, .int (nI w)), (3, .int (nI t)), (6, .int (nI q))]) hx hb dX5_distanceBehind_56 hl (by decide) rfl (fun ls hl => ?_)
      refine lv_iinc (v := nI (q + 1)) (lv' := [(6, .int (nI (q + 1))), (4, .long (lN (dst (PL g n k f t) (PL g n k w t) q + (PL g n k f t q - PL g n k w t q)))), (7, .long ((lN (PL g n k f t q)) - (lN (PL g n k w t q)))), (0, .ref (b 4)), (1, .int (nI f)), (2, .int (nI w)), (3, .int (nI t))]) hx hb dX5_distanceBehind_58 hl (k := 6) rfl (nI_1 q) (by decide) rfl (fun ls hl => ?_)
      refine lv_goto (tgt := 6) hx hb dX5_distanceBehind_61 (by decide) ?_
      exact ih6 (by omega)   _ _ hP hD hS _ (lv_sub hl [3, 4, 5, 6, 1, 0] rfl)
  exact L6 0 (by omega)   _ _ hP hD hS _ (lv_sub hl [2, 3, 4, 5, 1, 0] rfl)

set_option maxHeartbeats 4000000 in
set_option maxRecDepth 100000 in
theorem c_X5_isMixed (l : Launch) (D : va_G) (cY : Nat → ClassId) (sz : Nat) (b : Nat → Nat) (rr : Nat → Nat → Nat) (n : Nat) (k : Nat) (fR : Nat → Nat → Int64) (g : Nat → Nat → Nat) (th2 : Nat) (t : Nat) (hn1 : 1 ≤ n) (hn6 : n ≤ 6) (hk1 : 1 ≤ k) (hk12 : k ≤ 12) (hgn : ∀ i j, i < n → j < k → g i j < n) (hR : ∀ i j, i < n → j < n → fR t (6 * i + j) = lN (PL g n k i t j)) (hth : th2 ≤ 1000) (ht : t ≤ 12) : Met l yX5_isMixed wsX5_isMixed ({ frames := 2, cells := 0, slots := 0, locals := 80 }) (cP D cY [.ref (b 4), .int (nI th2), .int (nI t)] [lO b, cO b (nI n) (nI k), oQ (cY 3) (b 5) (rr 2) 13, gJ (cY 1) (rr 2) 36 fR 13] sz) (qI (S := Unit) D cY (fun r u => r = bI (mixA g n k th2 t)) (fun u => [lO b, cO b (nI n) (nI k), oQ (cY 3) (b 5) (rr 2) 13, gJ (cY 1) (rr 2) 36 fR 13]) (va_A ([lO b, cO b (nI n) (nI k), oQ (cY 3) (b 5) (rr 2) 13, gJ (cY 1) (rr 2) 36 fR 13] : List va_W).flatten sz)) 0 0 (va_A ([lO b, cO b (nI n) (nI k), oQ (cY 3) (b 5) (rr 2) 13, gJ (cY 1) (rr 2) 36 fR 13] : List va_W).flatten sz) := by
  refine mtB (Qc := fun A => qI (S := Unit) D cY (fun r u => r = bI (mixA g n k th2 t)) (fun u => [lO b, cO b (nI n) (nI k), oQ (cY 3) (b 5) (rr 2) 13, gJ (cY 1) (rr 2) 36 fR 13]) A) (cc := cX5_isMixed) (maxL := 7) (ret := (some .boolean)) (by decide) rfl (Nat.le_of_ble_eq_true rfl) ?_
  intro p e s m below meth c A ls hx hb hr hml hts hown hlocks hnm hsz hP hK hVK hD hS hA hl
  have hown : s.vm.findClass RX5 = some m.cls := hown
  have hl : lv_has ls 7 [(0, .ref (b 4)), (1, .int (nI th2)), (2, .int (nI t))] := hl
  have hP : va_P D vwCl ([lO b, cO b (nI n) (nI k), oQ (cY 3) (b 5) (rr 2) 13, gJ (cY 1) (rr 2) 36 fR 13] : List va_W).flatten s.heap := hP
  have hD : va_D A ([lO b, cO b (nI n) (nI k), oQ (cY 3) (b 5) (rr 2) 13, gJ (cY 1) (rr 2) 36 fR 13] : List va_W).flatten := hD
  have hpw := pow_b (k := k) (t := t) hk12 hk1 ht
  have hpw2 : th2 * k ^ t ≤ 1000 * 8916100448256 := Nat.mul_le_mul hth hpw
  refine lv_iload_n hx hb dX5_isMixed_0 rfl (lv_at hl 1 rfl) ?_
  refine lv_i2l (v := lN th2) hx hb dX5_isMixed_1 (nI_l (by omega)) ?_
  refine lv_aload_n hx hb dX5_isMixed_2 rfl (lv_at hl 0 rfl) ?_
  refine b_get (ci := 5) (v := .ref (b 1)) (C := RX5) (T := TX5) (N := 3) hx hb hts (by decide +kernel) hown hK hP 0 rfl rfl 0 (by decide) (hts (.fieldLink RX5 9 "ChanceHall$Laws" "chain" "LChanceHall$Chain;") (by decide +kernel)) (fun _ h9 => h9) rfl dX5_isMixed_3 ?_
  refine lv_iload_n hx hb dX5_isMixed_6 rfl (lv_at hl 2 rfl) ?_
  refine ca_l (CL := [cO b (nI n) (nI k)]) (va_runV (As := [.int (nI t)]) (rest := [.long (lN th2)]) ⟨hx, hb, hml, hown, hts⟩ (c_X0_countWords l D cY s.heap.size b n k t (by omega) (by omega) (by omega) (by omega) (by omega)) (cwV 1 hts gX5_isMixed_X0_countWords rfl rfl rfl (by decide +kernel) ⟨Nat.le_of_ble_eq_true rfl, Nat.le_of_ble_eq_true rfl⟩) (b_preV hVK hP hD [1] rfl rfl 1 rfl rfl) rfl rfl hl.1 rfl (lv_room (Nat.le_of_ble_eq_true rfl)) dX5_isMixed_7 ⟨Nat.le_refl _, Nat.le_refl _⟩) hP hD hS hA [1] rfl rfl (fun _ => rfl) (fun r7 uu H locs hq hP hD hS => ?_)
  subst hq
  have hP : va_P D vwCl ([lO b, cO b (nI n) (nI k), oQ (cY 3) (b 5) (rr 2) 13, gJ (cY 1) (rr 2) 36 fR 13] : List va_W).flatten H := hP
  have hD : va_D A ([lO b, cO b (nI n) (nI k), oQ (cY 3) (b 5) (rr 2) 13, gJ (cY 1) (rr 2) 36 fR 13] : List va_W).flatten := hD
  refine lv_lmul hx hb dX5_isMixed_10 ?_
  refine eql (x' := lN (th2 * (k ^ t))) (lN_mul _ _) ?_
  refine lv_lstore_n (lv' := [(3, .long (lN (th2 * (k ^ t)))), (0, .ref (b 4)), (1, .int (nI th2)), (2, .int (nI t))]) hx hb dX5_isMixed_11 rfl hl (by decide) rfl (fun ls hl => ?_)
  refine lv_iconst (v := nI 0) hx hb dX5_isMixed_12 (by decide) ?_
  refine lv_istore (lv' := [(5, .int (nI 0)), (3, .long (lN (th2 * (k ^ t)))), (0, .ref (b 4)), (1, .int (nI th2)), (2, .int (nI t))]) hx hb dX5_isMixed_13 hl (by decide) rfl (fun ls hl => ?_)
  have L15 : ∀ u : Nat, u ≤ n →  (∀ o w, o < u → o < w → w < n → mixC g n k th2 t o w = true) → ∀ (H : Heap) (locs : List Loc), va_P D vwCl ([lO b, cO b (nI n) (nI k), oQ (cY 3) (b 5) (rr 2) 13, gJ (cY 1) (rr 2) 36 fR 13] : List va_W).flatten H → va_D A ([lO b, cO b (nI n) (nI k), oQ (cY 3) (b 5) (rr 2) 13, gJ (cY 1) (rr 2) 36 fR 13] : List va_W).flatten → va_S A s.heap H locs → ∀ (ls : Array Slot), lv_has ls 7 [(0, .ref (b 4)), (1, .int (nI th2)), (2, .int (nI t)), (3, .long (lN (th2 * (k ^ t)))), (5, .int (nI u))] → W p l e ({ frames := 2, cells := 0, slots := 0, locals := 80 }) s m ([.ref (b 4), .int (nI th2), .int (nI t)] : List Value).toArray below meth c H locs 0 0 (MQ below (qI (S := Unit) D cY (fun r u => r = bI (mixA g n k th2 t)) (fun u => [lO b, cO b (nI n) (nI k), oQ (cY 3) (b 5) (rr 2) 13, gJ (cY 1) (rr 2) 36 fR 13]) A) ([.ref (b 4), .int (nI th2), .int (nI t)] : List Value).toArray s 0 0 A) (F0 m 15 ls []) := by
    refine lpW n ?_
    intro u bdu ih15  hI H locs hP hD hS ls hl
    refine lv_iload hx hb dX5_isMixed_15 (lv_at hl 4 rfl) ?_
    refine lv_aload_n hx hb dX5_isMixed_17 rfl (lv_at hl 0 rfl) ?_
    refine b_get (ci := 5) (v := .ref (b 1)) (C := RX5) (T := TX5) (N := 3) hx hb hts (by decide +kernel) hown hK hP 0 rfl rfl 0 (by decide) (hts (.fieldLink RX5 9 "ChanceHall$Laws" "chain" "LChanceHall$Chain;") (by decide +kernel)) (fun _ h9 => h9) rfl dX5_isMixed_18 ?_
    refine b_get (ci := 0) (v := .int (nI n)) (C := RX0) (T := TX0) (N := 4) hx hb hts (by decide +kernel) hown hK hP 1 rfl rfl 0 (by decide) (hts (.fieldLink RX5 23 "ChanceHall$Chain" "states" "I") (by decide +kernel)) (fun _ h9 => h9) rfl dX5_isMixed_21 ?_
    refine n_icmp_ge (tgt := 77) hx hb dX5_isMixed_24 (by decide) (by omega) (by omega) (fun h24 => ?_) (fun h24 => ?_)
    · -- t
      refine lv_iconst (v := nI 1) hx hb dX5_isMixed_77 (by decide) ?_
      refine eqi (x' := bI true) rfl ?_
      exact r_z hx hb hr hlocks hP hD hS () rfl (congrArg bI (mixA_t (fun o w h1 h2 => hI o w (by omega) h1 h2)).symm) dX5_isMixed_78
    · -- f
      refine lv_iload hx hb dX5_isMixed_27 (lv_at hl 4 rfl) ?_
      refine lv_iconst (v := nI 1) hx hb dX5_isMixed_29 (by decide) ?_
      refine lv_iadd hx hb dX5_isMixed_30 ?_
      refine eqi (x' := nI (u + 1)) (nI_add _ _) ?_
      refine lv_istore (lv' := [(6, .int (nI (u + 1))), (0, .ref (b 4)), (1, .int (nI th2)), (2, .int (nI t)), (3, .long (lN (th2 * (k ^ t)))), (5, .int (nI u))]) hx hb dX5_isMixed_31 hl (by decide) rfl (fun ls hl => ?_)
      have L33 : ∀ w : Nat, w ≤ n →  (∀ z, u < z → z < w → mixC g n k th2 t u z = true) → (u < w) → ∀ (H : Heap) (locs : List Loc), va_P D vwCl ([lO b, cO b (nI n) (nI k), oQ (cY 3) (b 5) (rr 2) 13, gJ (cY 1) (rr 2) 36 fR 13] : List va_W).flatten H → va_D A ([lO b, cO b (nI n) (nI k), oQ (cY 3) (b 5) (rr 2) 13, gJ (cY 1) (rr 2) 36 fR 13] : List va_W).flatten → va_S A s.heap H locs → ∀ (ls : Array Slot), lv_has ls 7 [(0, .ref (b 4)), (1, .int (nI th2)), (2, .int (nI t)), (3, .long (lN (th2 * (k ^ t)))), (5, .int (nI u)), (6, .int (nI w))] → W p l e ({ frames := 2, cells := 0, slots := 0, locals := 80 }) s m ([.ref (b 4), .int (nI th2), .int (nI t)] : List Value).toArray below meth c H locs 0 0 (MQ below (qI (S := Unit) D cY (fun r u => r = bI (mixA g n k th2 t)) (fun u => [lO b, cO b (nI n) (nI k), oQ (cY 3) (b 5) (rr 2) 13, gJ (cY 1) (rr 2) 36 fR 13]) A) ([.ref (b 4), .int (nI th2), .int (nI t)] : List Value).toArray s 0 0 A) (F0 m 33 ls []) := by
        refine lpW n ?_
        intro w bdw ih33  hJ huw H locs hP hD hS ls hl
        refine lv_iload hx hb dX5_isMixed_33 (lv_at hl 5 rfl) ?_
        refine lv_aload_n hx hb dX5_isMixed_35 rfl (lv_at hl 0 rfl) ?_
        refine b_get (ci := 5) (v := .ref (b 1)) (C := RX5) (T := TX5) (N := 3) hx hb hts (by decide +kernel) hown hK hP 0 rfl rfl 0 (by decide) (hts (.fieldLink RX5 9 "ChanceHall$Laws" "chain" "LChanceHall$Chain;") (by decide +kernel)) (fun _ h9 => h9) rfl dX5_isMixed_36 ?_
        refine b_get (ci := 0) (v := .int (nI n)) (C := RX0) (T := TX0) (N := 4) hx hb hts (by decide +kernel) hown hK hP 1 rfl rfl 0 (by decide) (hts (.fieldLink RX5 23 "ChanceHall$Chain" "states" "I") (by decide +kernel)) (fun _ h9 => h9) rfl dX5_isMixed_39 ?_
        refine n_icmp_ge (tgt := 71) hx hb dX5_isMixed_42 (by decide) (by omega) (by omega) (fun h42 => ?_) (fun h42 => ?_)
        · -- t
          refine lv_iinc (v := nI (u + 1)) (lv' := [(5, .int (nI (u + 1))), (0, .ref (b 4)), (1, .int (nI th2)), (2, .int (nI t)), (3, .long (lN (th2 * (k ^ t)))), (6, .int (nI w))]) hx hb dX5_isMixed_71 hl (k := 4) rfl (nI_1 u) (by decide) rfl (fun ls hl => ?_)
          refine lv_goto (tgt := 15) hx hb dX5_isMixed_74 (by decide) ?_
          exact ih15 (by omega)  (fun o w h1 h2 h3 => by
  by_cases e : o = u
  · subst e; exact hJ w h2 (by omega)
  · exact hI o w (by omega) h2 h3) _ _ hP hD hS _ (lv_sub hl [1, 2, 3, 4, 0] rfl)
        · -- f
          refine lv_ldc2 (v := 1000) hx hb hown (hts (.constantLong RX5 55 1000) (by decide +kernel)) dX5_isMixed_45 ?_
          refine eql (x' := lN 1000) (by decide) ?_
          refine lv_aload_n hx hb dX5_isMixed_48 rfl (lv_at hl 0 rfl) ?_
          refine lv_iload hx hb dX5_isMixed_49 (lv_at hl 4 rfl) ?_
          refine lv_iload hx hb dX5_isMixed_51 (lv_at hl 5 rfl) ?_
          refine lv_iload_n hx hb dX5_isMixed_53 rfl (lv_at hl 2 rfl) ?_
          refine ca_l (CL := [lO b, cO b (nI n) (nI k), oQ (cY 3) (b 5) (rr 2) 13, gJ (cY 1) (rr 2) 36 fR 13]) (va_runV (As := [.int (nI u), .int (nI w), .int (nI t)]) (rest := [.long (lN 1000)]) ⟨hx, hb, hml, hown, hts⟩ (c_X5_distanceBehind l D cY H.size b rr n k fR g u w t (by omega) (by omega) (by omega) (by omega) hgn hR (by omega) (by omega) (by omega)) (cwV 3 hts gX5_isMixed_X5_distanceBehind rfl rfl rfl (by decide +kernel) ⟨Nat.le_of_ble_eq_true rfl, Nat.le_of_ble_eq_true rfl⟩) (b_preV hVK hP hD [0, 1, 2, 3] rfl rfl 0 rfl rfl) rfl rfl hl.1 rfl (lv_room (Nat.le_of_ble_eq_true rfl)) dX5_isMixed_54 ⟨Nat.le_refl _, Nat.le_refl _⟩) hP hD hS hA [0, 1, 2, 3] rfl rfl (fun _ => rfl) (fun r54 uu H locs hq hP hD hS => ?_)
          subst hq
          have hP : va_P D vwCl ([lO b, cO b (nI n) (nI k), oQ (cY 3) (b 5) (rr 2) 13, gJ (cY 1) (rr 2) 36 fR 13] : List va_W).flatten H := hP
          have hD : va_D A ([lO b, cO b (nI n) (nI k), oQ (cY 3) (b 5) (rr 2) 13, gJ (cY 1) (rr 2) 36 fR 13] : List va_W).flatten := hD
          have hds : dst (PL g n k u t) (PL g n k w t) n ≤ k ^ t := Nat.le_trans dst_le (Nat.le_of_eq (PL_sum hgn (by omega) t))
          refine lv_lmul hx hb dX5_isMixed_57 ?_
          refine eql (x' := lN (1000 * (dst (PL g n k u t) (PL g n k w t) n))) (lN_mul _ _) ?_
          refine lv_lload_n hx hb dX5_isMixed_58 rfl (lv_at hl 3 rfl) ?_
          refine W.lcmp hx hb dX5_isMixed_59 ?_
          refine l_if_le (tgt := 65) hx hb dX5_isMixed_60 (by decide) (fun h60 => ?_) (fun h60 => ?_)
          · -- t
            have h60 := lle (by omega) (by omega) h60
            have hC : mixC g n k th2 t u w = true := decide_eq_true (by omega)
            refine lv_iinc (v := nI (w + 1)) (lv' := [(6, .int (nI (w + 1))), (0, .ref (b 4)), (1, .int (nI th2)), (2, .int (nI t)), (3, .long (lN (th2 * (k ^ t)))), (5, .int (nI u))]) hx hb dX5_isMixed_65 hl (k := 5) rfl (nI_1 w) (by decide) rfl (fun ls hl => ?_)
            refine lv_goto (tgt := 33) hx hb dX5_isMixed_68 (by decide) ?_
            exact ih33 (by omega)  (fun z h1 h2 => by
  by_cases e : z = w
  · subst e; exact hC
  · exact hJ z h1 (by omega)) (by omega) _ _ hP hD hS _ (lv_sub hl [1, 2, 3, 4, 5, 0] rfl)
          · -- f
            have h60 := lnle (by omega) (by omega) h60
            have hC : mixC g n k th2 t u w = false := decide_eq_false (by omega)
            refine lv_iconst (v := nI 0) hx hb dX5_isMixed_63 (by decide) ?_
            refine eqi (x' := bI false) rfl ?_
            exact r_z hx hb hr hlocks hP hD hS () rfl (congrArg bI (mixA_f huw (by omega) hC).symm) dX5_isMixed_64
      exact L33 (u + 1) (by omega)  (fun z h1 h2 => by omega) (by omega) _ _ hP hD hS _ (lv_sub hl [1, 2, 3, 4, 5, 0] rfl)
  exact L15 0 (by omega)  (fun o w h => by omega) _ _ hP hD hS _ (lv_sub hl [2, 3, 4, 1, 0] rfl)

set_option maxHeartbeats 4000000 in
set_option maxRecDepth 100000 in
theorem c_X5_hitsIn (l : Launch) (D : va_G) (cY : Nat → ClassId) (sz : Nat) (b : Nat → Nat) (rr : Nat → Nat → Nat) (n : Nat) (k : Nat) (fW : Nat → Nat → Int32) (fH : Nat → Nat → Int64) (g : Nat → Nat → Nat) (i : Nat) (t : Nat) (w : Nat) (hn1 : 1 ≤ n) (hn6 : n ≤ 6) (hk1 : 1 ≤ k) (hk12 : k ≤ 12) (hW : ∀ i j, i < n → j < n → fW i j = nI (cnt (g i) j k)) (hi : i < n) (hw : w < n) (ht : t ≤ 12) (hH : t = 0 ∨ ∀ d, d < n → fH (t - 1) d = lN (HB g n k w (t - 1) d)) : Met l yX5_hitsIn wsX5_hitsIn ({ frames := 1, cells := 0, slots := 0, locals := 40 }) (cP D cY [.ref (b 4), .int (nI i), .int (nI t), .int (nI w)] [lO b, cO b (nI n) (nI k), oQ (cY 2) (b 3) (rr 1) 6, gI (cY 0) (rr 1) 6 fW 6, oQ (cY 3) (b 6) (rr 3) 13, gJ (cY 1) (rr 3) 6 fH 13] sz) (qL (S := Unit) D cY (fun r u => r = lN (HB g n k w t i)) (fun u => [lO b, cO b (nI n) (nI k), oQ (cY 2) (b 3) (rr 1) 6, gI (cY 0) (rr 1) 6 fW 6, oQ (cY 3) (b 6) (rr 3) 13, gJ (cY 1) (rr 3) 6 fH 13]) (va_A ([lO b, cO b (nI n) (nI k), oQ (cY 2) (b 3) (rr 1) 6, gI (cY 0) (rr 1) 6 fW 6, oQ (cY 3) (b 6) (rr 3) 13, gJ (cY 1) (rr 3) 6 fH 13] : List va_W).flatten sz)) 0 0 (va_A ([lO b, cO b (nI n) (nI k), oQ (cY 2) (b 3) (rr 1) 6, gI (cY 0) (rr 1) 6 fW 6, oQ (cY 3) (b 6) (rr 3) 13, gJ (cY 1) (rr 3) 6 fH 13] : List va_W).flatten sz) := by
  refine mtB (Qc := fun A => qL (S := Unit) D cY (fun r u => r = lN (HB g n k w t i)) (fun u => [lO b, cO b (nI n) (nI k), oQ (cY 2) (b 3) (rr 1) 6, gI (cY 0) (rr 1) 6 fW 6, oQ (cY 3) (b 6) (rr 3) 13, gJ (cY 1) (rr 3) 6 fH 13]) A) (cc := cX5_hitsIn) (maxL := 4) (ret := (some .long)) (by decide) rfl (Nat.le_of_ble_eq_true rfl) ?_
  intro p e s m below meth c A ls hx hb hr hml hts hown hlocks hnm hsz hP hK hVK hD hS hA hl
  have hown : s.vm.findClass RX5 = some m.cls := hown
  have hl : lv_has ls 4 [(0, .ref (b 4)), (1, .int (nI i)), (2, .int (nI t)), (3, .int (nI w))] := hl
  have hP : va_P D vwCl ([lO b, cO b (nI n) (nI k), oQ (cY 2) (b 3) (rr 1) 6, gI (cY 0) (rr 1) 6 fW 6, oQ (cY 3) (b 6) (rr 3) 13, gJ (cY 1) (rr 3) 6 fH 13] : List va_W).flatten s.heap := hP
  have hD : va_D A ([lO b, cO b (nI n) (nI k), oQ (cY 2) (b 3) (rr 1) 6, gI (cY 0) (rr 1) 6 fW 6, oQ (cY 3) (b 6) (rr 3) 13, gJ (cY 1) (rr 3) 6 fH 13] : List va_W).flatten := hD
  refine lv_iload_n hx hb dX5_hitsIn_0 rfl (lv_at hl 1 rfl) ?_
  refine lv_iload_n hx hb dX5_hitsIn_1 rfl (lv_at hl 3 rfl) ?_
  refine n_icmp_ne (tgt := 14) hx hb dX5_hitsIn_2 (by decide) (by omega) (by omega) (fun h2 => ?_) (fun h2 => ?_)
  · -- t
    refine lv_iload_n hx hb dX5_hitsIn_14 rfl (lv_at hl 2 rfl) ?_
    refine n_if_ne (tgt := 22) hx hb dX5_hitsIn_15 (by decide) (by omega) (fun h15 => ?_) (fun h15 => ?_)
    · -- t
      refine lv_aload_n hx hb dX5_hitsIn_22 rfl (lv_at hl 0 rfl) ?_
      refine b_get (ci := 5) (v := .ref (b 1)) (C := RX5) (T := TX5) (N := 3) hx hb hts (by decide +kernel) hown hK hP 0 rfl rfl 0 (by decide) (hts (.fieldLink RX5 9 "ChanceHall$Laws" "chain" "LChanceHall$Chain;") (by decide +kernel)) (fun _ h9 => h9) rfl dX5_hitsIn_23 ?_
      refine lv_iload_n hx hb dX5_hitsIn_26 rfl (lv_at hl 1 rfl) ?_
      refine lv_aload_n hx hb dX5_hitsIn_27 rfl (lv_at hl 0 rfl) ?_
      refine b_get (ci := 5) (v := .ref (b 6)) (C := RX5) (T := TX5) (N := 3) hx hb hts (by decide +kernel) hown hK hP 0 rfl rfl 2 (by decide) (hts (.fieldLink RX5 20 "ChanceHall$Laws" "hitRows" "[[J") (by decide +kernel)) (fun _ h9 => h9) rfl dX5_hitsIn_28 ?_
      refine lv_iload_n hx hb dX5_hitsIn_31 rfl (lv_at hl 2 rfl) ?_
      refine lv_iconst (v := nI 1) hx hb dX5_hitsIn_32 (by decide) ?_
      refine lv_isub hx hb dX5_hitsIn_33 ?_
      refine eqi (x' := nI (t - 1)) (pk_sub (by omega)) ?_
      refine g_aald hx hb hK hP 4 3 rfl rfl (by omega) (by decide) dX5_hitsIn_34 ?_
      obtain ⟨X_1, hP, hD, hbk2s, hbk2⟩ := g_outJ hP hD (b := 5) rfl (j := t - 1) (by omega)
      have hP : va_P D vwCl ([lO b, cO b (nI n) (nI k), oQ (cY 2) (b 3) (rr 1) 6, gI (cY 0) (rr 1) 6 fW 6, oQ (cY 3) (b 6) (rr 3) 13, X_1, [(rr 3 (t - 1), .inl (cY 1, 6, .inr (.inl (fH (t - 1)))))]] : List va_W).flatten s.heap := hP
      have hD : va_D A ([lO b, cO b (nI n) (nI k), oQ (cY 2) (b 3) (rr 1) 6, gI (cY 0) (rr 1) 6 fW 6, oQ (cY 3) (b 6) (rr 3) 13, X_1, [(rr 3 (t - 1), .inl (cY 1, 6, .inr (.inl (fH (t - 1)))))]] : List va_W).flatten := hD
      refine ca_l (CL := [cO b (nI n) (nI k), oQ (cY 2) (b 3) (rr 1) 6, gI (cY 0) (rr 1) 6 fW 6, [(rr 3 (t - 1), .inl (cY 1, 6, .inr (.inl (fH (t - 1)))))]]) (va_runV (As := [.int (nI i), .ref (rr 3 (t - 1))]) (rest := []) ⟨hx, hb, hml, hown, hts⟩ (c_X0_sumOverSlots l D cY s.heap.size b rr n k fW g i (rr 3 (t - 1)) 6 (fH (t - 1)) (by omega) (by omega) (by omega) (by omega) hW (by omega) (⟨by omega, by omega⟩)) (cwV 2 hts gX5_hitsIn_X0_sumOverSlots rfl rfl rfl (by decide +kernel) ⟨Nat.le_of_ble_eq_true rfl, Nat.le_of_ble_eq_true rfl⟩) (b_preV hVK hP hD [1, 2, 3, 6] rfl rfl 1 rfl rfl) rfl rfl hl.1 rfl (lv_room (Nat.le_of_ble_eq_true rfl)) dX5_hitsIn_35 ⟨Nat.le_refl _, Nat.le_refl _⟩) hP hD hS hA [1, 2, 3, 6] rfl rfl (fun _ => rfl) (fun r35 uu H locs hq hP hD hS => ?_)
      subst hq
      have hP : va_P D vwCl ([lO b, cO b (nI n) (nI k), oQ (cY 2) (b 3) (rr 1) 6, gI (cY 0) (rr 1) 6 fW 6, oQ (cY 3) (b 6) (rr 3) 13, X_1, [(rr 3 (t - 1), .inl (cY 1, 6, .inr (.inl (fH (t - 1)))))]] : List va_W).flatten H := hP
      have hD : va_D A ([lO b, cO b (nI n) (nI k), oQ (cY 2) (b 3) (rr 1) 6, gI (cY 0) (rr 1) 6 fW 6, oQ (cY 3) (b 6) (rr 3) 13, X_1, [(rr 3 (t - 1), .inl (cY 1, 6, .inr (.inl (fH (t - 1)))))]] : List va_W).flatten := hD
      obtain ⟨hP, hD⟩ := hbk2s _ hP hD
      have hP : va_P D vwCl ([lO b, cO b (nI n) (nI k), oQ (cY 2) (b 3) (rr 1) 6, gI (cY 0) (rr 1) 6 fW 6, oQ (cY 3) (b 6) (rr 3) 13, gJ (cY 1) (rr 3) 6 fH 13] : List va_W).flatten H := hP
      have hD : va_D A ([lO b, cO b (nI n) (nI k), oQ (cY 2) (b 3) (rr 1) 6, gI (cY 0) (rr 1) 6 fW 6, oQ (cY 3) (b 6) (rr 3) 13, gJ (cY 1) (rr 3) 6 fH 13] : List va_W).flatten := hD
      have hfin : sumL (fun j => lN (cnt (g i) j k) * fH (t - 1) j) n = lN (HB g n k w t i) := by
        obtain ⟨z, rfl⟩ : ∃ z, t = z + 1 := ⟨t - 1, by omega⟩
        rcases hH with e | hH
        · omega
        · rw [sumL_lN (v := fun d => cnt (g i) d k * HB g n k w z d) (fun d hd => by rw [hH d hd, lN_mul]; rfl)]
          exact congrArg lN (if_neg h2).symm
      exact r_l hx hb hr hlocks hP hD hS () rfl (by first | (rw [h15]; exact congrArg lN (if_neg h2).symm) | exact hfin) dX5_hitsIn_38
    · -- f
      refine lv_lconst (v := lN 0) hx hb dX5_hitsIn_18 (by decide) ?_
      refine lv_goto (tgt := 38) hx hb dX5_hitsIn_19 (by decide) ?_
      exact r_l hx hb hr hlocks hP hD hS () rfl (by first | (rw [h15]; exact congrArg lN (if_neg h2).symm) | exact hfin) dX5_hitsIn_38
  · -- f
    refine lv_aload_n hx hb dX5_hitsIn_5 rfl (lv_at hl 0 rfl) ?_
    refine b_get (ci := 5) (v := .ref (b 1)) (C := RX5) (T := TX5) (N := 3) hx hb hts (by decide +kernel) hown hK hP 0 rfl rfl 0 (by decide) (hts (.fieldLink RX5 9 "ChanceHall$Laws" "chain" "LChanceHall$Chain;") (by decide +kernel)) (fun _ h9 => h9) rfl dX5_hitsIn_6 ?_
    refine lv_iload_n hx hb dX5_hitsIn_9 rfl (lv_at hl 2 rfl) ?_
    refine ca_l (CL := [cO b (nI n) (nI k)]) (va_runV (As := [.int (nI t)]) (rest := []) ⟨hx, hb, hml, hown, hts⟩ (c_X0_countWords l D cY s.heap.size b n k t (by omega) (by omega) (by omega) (by omega) (by omega)) (cwV 1 hts gX5_hitsIn_X0_countWords rfl rfl rfl (by decide +kernel) ⟨Nat.le_of_ble_eq_true rfl, Nat.le_of_ble_eq_true rfl⟩) (b_preV hVK hP hD [1] rfl rfl 1 rfl rfl) rfl rfl hl.1 rfl (lv_room (Nat.le_of_ble_eq_true rfl)) dX5_hitsIn_10 ⟨Nat.le_refl _, Nat.le_refl _⟩) hP hD hS hA [1] rfl rfl (fun _ => rfl) (fun r10 uu H locs hq hP hD hS => ?_)
    subst hq
    have hP : va_P D vwCl ([lO b, cO b (nI n) (nI k), oQ (cY 2) (b 3) (rr 1) 6, gI (cY 0) (rr 1) 6 fW 6, oQ (cY 3) (b 6) (rr 3) 13, gJ (cY 1) (rr 3) 6 fH 13] : List va_W).flatten H := hP
    have hD : va_D A ([lO b, cO b (nI n) (nI k), oQ (cY 2) (b 3) (rr 1) 6, gI (cY 0) (rr 1) 6 fW 6, oQ (cY 3) (b 6) (rr 3) 13, gJ (cY 1) (rr 3) 6 fH 13] : List va_W).flatten := hD
    exact r_l hx hb hr hlocks hP hD hS () rfl (by rw [h2]; exact congrArg lN HB_b.symm) dX5_hitsIn_13

set_option maxHeartbeats 4000000 in
set_option maxRecDepth 100000 in
theorem c_X5_countHits (l : Launch) (D : va_G) (cY : Nat → ClassId) (sz : Nat) (b : Nat → Nat) (rr : Nat → Nat → Nat) (n : Nat) (k : Nat) (fW : Nat → Nat → Int32) (fH : Nat → Nat → Int64) (g : Nat → Nat → Nat) (f : Nat) (t : Nat) (w : Nat) (hn1 : 1 ≤ n) (hn6 : n ≤ 6) (hk1 : 1 ≤ k) (hk12 : k ≤ 12) (hW : ∀ i j, i < n → j < n → fW i j = nI (cnt (g i) j k)) (hf : f < n) (hw : w < n) (ht : t ≤ 12) : Met l yX5_countHits wsX5_countHits ({ frames := 2, cells := 0, slots := 0, locals := 80 }) (cP D cY [.ref (b 4), .int (nI f), .int (nI t), .int (nI w)] [lO b, cO b (nI n) (nI k), oQ (cY 2) (b 3) (rr 1) 6, gI (cY 0) (rr 1) 6 fW 6, oQ (cY 3) (b 6) (rr 3) 13, gJ (cY 1) (rr 3) 6 fH 13] sz) (qL (S := (Nat → Nat → Int64)) D cY (fun r u => r = lN (HB g n k w t f)) (fun u => [lO b, cO b (nI n) (nI k), oQ (cY 2) (b 3) (rr 1) 6, gI (cY 0) (rr 1) 6 fW 6, oQ (cY 3) (b 6) (rr 3) 13, gJ (cY 1) (rr 3) 6 u 13]) (va_A ([lO b, cO b (nI n) (nI k), oQ (cY 2) (b 3) (rr 1) 6, gI (cY 0) (rr 1) 6 fW 6, oQ (cY 3) (b 6) (rr 3) 13, gJ (cY 1) (rr 3) 6 fH 13] : List va_W).flatten sz)) 0 0 (va_A ([lO b, cO b (nI n) (nI k), oQ (cY 2) (b 3) (rr 1) 6, gI (cY 0) (rr 1) 6 fW 6, oQ (cY 3) (b 6) (rr 3) 13, gJ (cY 1) (rr 3) 6 fH 13] : List va_W).flatten sz) := by
  refine mtB (Qc := fun A => qL (S := (Nat → Nat → Int64)) D cY (fun r u => r = lN (HB g n k w t f)) (fun u => [lO b, cO b (nI n) (nI k), oQ (cY 2) (b 3) (rr 1) 6, gI (cY 0) (rr 1) 6 fW 6, oQ (cY 3) (b 6) (rr 3) 13, gJ (cY 1) (rr 3) 6 u 13]) A) (cc := cX5_countHits) (maxL := 6) (ret := (some .long)) (by decide) rfl (Nat.le_of_ble_eq_true rfl) ?_
  intro p e s m below meth c A ls hx hb hr hml hts hown hlocks hnm hsz hP hK hVK hD hS hA hl
  have hown : s.vm.findClass RX5 = some m.cls := hown
  have hl : lv_has ls 6 [(0, .ref (b 4)), (1, .int (nI f)), (2, .int (nI t)), (3, .int (nI w))] := hl
  have hP : va_P D vwCl ([lO b, cO b (nI n) (nI k), oQ (cY 2) (b 3) (rr 1) 6, gI (cY 0) (rr 1) 6 fW 6, oQ (cY 3) (b 6) (rr 3) 13, gJ (cY 1) (rr 3) 6 fH 13] : List va_W).flatten s.heap := hP
  have hD : va_D A ([lO b, cO b (nI n) (nI k), oQ (cY 2) (b 3) (rr 1) 6, gI (cY 0) (rr 1) 6 fW 6, oQ (cY 3) (b 6) (rr 3) 13, gJ (cY 1) (rr 3) 6 fH 13] : List va_W).flatten := hD
  refine lv_iconst (v := nI 0) hx hb dX5_countHits_0 (by decide) ?_
  refine lv_istore (lv' := [(4, .int (nI 0)), (0, .ref (b 4)), (1, .int (nI f)), (2, .int (nI t)), (3, .int (nI w))]) hx hb dX5_countHits_1 hl (by decide) rfl (fun ls hl => ?_)
  have L3 : ∀ u : Nat, u ≤ t + 1 → ∀ (gH : Nat → Nat → Int64), (HT_ g n k w u 0 gH) → ∀ (H : Heap) (locs : List Loc), va_P D vwCl ([lO b, cO b (nI n) (nI k), oQ (cY 2) (b 3) (rr 1) 6, gI (cY 0) (rr 1) 6 fW 6, oQ (cY 3) (b 6) (rr 3) 13, gJ (cY 1) (rr 3) 6 gH 13] : List va_W).flatten H → va_D A ([lO b, cO b (nI n) (nI k), oQ (cY 2) (b 3) (rr 1) 6, gI (cY 0) (rr 1) 6 fW 6, oQ (cY 3) (b 6) (rr 3) 13, gJ (cY 1) (rr 3) 6 gH 13] : List va_W).flatten → va_S A s.heap H locs → ∀ (ls : Array Slot), lv_has ls 6 [(0, .ref (b 4)), (1, .int (nI f)), (2, .int (nI t)), (3, .int (nI w)), (4, .int (nI u))] → W p l e ({ frames := 2, cells := 0, slots := 0, locals := 80 }) s m ([.ref (b 4), .int (nI f), .int (nI t), .int (nI w)] : List Value).toArray below meth c H locs 0 0 (MQ below (qL (S := (Nat → Nat → Int64)) D cY (fun r u => r = lN (HB g n k w t f)) (fun u => [lO b, cO b (nI n) (nI k), oQ (cY 2) (b 3) (rr 1) 6, gI (cY 0) (rr 1) 6 fW 6, oQ (cY 3) (b 6) (rr 3) 13, gJ (cY 1) (rr 3) 6 u 13]) A) ([.ref (b 4), .int (nI f), .int (nI t), .int (nI w)] : List Value).toArray s 0 0 A) (F0 m 3 ls []) := by
    refine lpW (t + 1) ?_
    intro u bdu ih3 gH hI H locs hP hD hS ls hl
    refine lv_iload hx hb dX5_countHits_3 (lv_at hl 4 rfl) ?_
    refine lv_iload_n hx hb dX5_countHits_5 rfl (lv_at hl 2 rfl) ?_
    refine n_icmp_gt (tgt := 55) hx hb dX5_countHits_6 (by decide) (by omega) (by omega) (fun h6 => ?_) (fun h6 => ?_)
    · -- t
      refine lv_aload_n hx hb dX5_countHits_55 rfl (lv_at hl 0 rfl) ?_
      refine b_get (ci := 5) (v := .ref (b 6)) (C := RX5) (T := TX5) (N := 3) hx hb hts (by decide +kernel) hown hK hP 0 rfl rfl 2 (by decide) (hts (.fieldLink RX5 20 "ChanceHall$Laws" "hitRows" "[[J") (by decide +kernel)) (fun _ h9 => h9) rfl dX5_countHits_56 ?_
      refine lv_iload_n hx hb dX5_countHits_59 rfl (lv_at hl 2 rfl) ?_
      refine g_aald hx hb hK hP 4 3 rfl rfl (by omega) (by decide) dX5_countHits_60 ?_
      refine lv_iload_n hx hb dX5_countHits_61 rfl (lv_at hl 1 rfl) ?_
      refine g_lald hx hb hK hP 5 1 rfl rfl (by omega) (by omega) (by decide) dX5_countHits_62 ?_
      exact r_l hx hb hr hlocks hP hD hS gH rfl (hI.1 t (by omega) f hf) dX5_countHits_63
    · -- f
      refine lv_iconst (v := nI 0) hx hb dX5_countHits_9 (by decide) ?_
      refine lv_istore (lv' := [(5, .int (nI 0)), (0, .ref (b 4)), (1, .int (nI f)), (2, .int (nI t)), (3, .int (nI w)), (4, .int (nI u))]) hx hb dX5_countHits_10 hl (by decide) rfl (fun ls hl => ?_)
      have L12 : ∀ i : Nat, i ≤ n → ∀ (gH2 : Nat → Nat → Int64), (HT_ g n k w u i gH2) → ∀ (H : Heap) (locs : List Loc), va_P D vwCl ([lO b, cO b (nI n) (nI k), oQ (cY 2) (b 3) (rr 1) 6, gI (cY 0) (rr 1) 6 fW 6, oQ (cY 3) (b 6) (rr 3) 13, gJ (cY 1) (rr 3) 6 gH2 13] : List va_W).flatten H → va_D A ([lO b, cO b (nI n) (nI k), oQ (cY 2) (b 3) (rr 1) 6, gI (cY 0) (rr 1) 6 fW 6, oQ (cY 3) (b 6) (rr 3) 13, gJ (cY 1) (rr 3) 6 gH2 13] : List va_W).flatten → va_S A s.heap H locs → ∀ (ls : Array Slot), lv_has ls 6 [(0, .ref (b 4)), (1, .int (nI f)), (2, .int (nI t)), (3, .int (nI w)), (4, .int (nI u)), (5, .int (nI i))] → W p l e ({ frames := 2, cells := 0, slots := 0, locals := 80 }) s m ([.ref (b 4), .int (nI f), .int (nI t), .int (nI w)] : List Value).toArray below meth c H locs 0 0 (MQ below (qL (S := (Nat → Nat → Int64)) D cY (fun r u => r = lN (HB g n k w t f)) (fun u => [lO b, cO b (nI n) (nI k), oQ (cY 2) (b 3) (rr 1) 6, gI (cY 0) (rr 1) 6 fW 6, oQ (cY 3) (b 6) (rr 3) 13, gJ (cY 1) (rr 3) 6 u 13]) A) ([.ref (b 4), .int (nI f), .int (nI t), .int (nI w)] : List Value).toArray s 0 0 A) (F0 m 12 ls []) := by
        refine lpW n ?_
        intro i bdi ih12 gH2 hJ H locs hP hD hS ls hl
        refine lv_iload hx hb dX5_countHits_12 (lv_at hl 5 rfl) ?_
        refine lv_aload_n hx hb dX5_countHits_14 rfl (lv_at hl 0 rfl) ?_
        refine b_get (ci := 5) (v := .ref (b 1)) (C := RX5) (T := TX5) (N := 3) hx hb hts (by decide +kernel) hown hK hP 0 rfl rfl 0 (by decide) (hts (.fieldLink RX5 9 "ChanceHall$Laws" "chain" "LChanceHall$Chain;") (by decide +kernel)) (fun _ h9 => h9) rfl dX5_countHits_15 ?_
        refine b_get (ci := 0) (v := .int (nI n)) (C := RX0) (T := TX0) (N := 4) hx hb hts (by decide +kernel) hown hK hP 1 rfl rfl 0 (by decide) (hts (.fieldLink RX5 23 "ChanceHall$Chain" "states" "I") (by decide +kernel)) (fun _ h9 => h9) rfl dX5_countHits_18 ?_
        refine n_icmp_ge (tgt := 49) hx hb dX5_countHits_21 (by decide) (by omega) (by omega) (fun h21 => ?_) (fun h21 => ?_)
        · -- t
          refine lv_iinc (v := nI (u + 1)) (lv' := [(4, .int (nI (u + 1))), (0, .ref (b 4)), (1, .int (nI f)), (2, .int (nI t)), (3, .int (nI w)), (5, .int (nI i))]) hx hb dX5_countHits_49 hl (k := 4) rfl (nI_1 u) (by decide) rfl (fun ls hl => ?_)
          refine lv_goto (tgt := 3) hx hb dX5_countHits_52 (by decide) ?_
          exact ih3 (by omega) gH2 (HT_n (by (have e : i = n := by omega); rw [← e]; rw [← e] at hJ; exact hJ)) _ _ hP hD hS _ (lv_sub hl [1, 2, 3, 4, 0] rfl)
        · -- f
          refine lv_aload_n hx hb dX5_countHits_24 rfl (lv_at hl 0 rfl) ?_
          refine b_get (ci := 5) (v := .ref (b 6)) (C := RX5) (T := TX5) (N := 3) hx hb hts (by decide +kernel) hown hK hP 0 rfl rfl 2 (by decide) (hts (.fieldLink RX5 20 "ChanceHall$Laws" "hitRows" "[[J") (by decide +kernel)) (fun _ h9 => h9) rfl dX5_countHits_25 ?_
          refine lv_iload hx hb dX5_countHits_28 (lv_at hl 4 rfl) ?_
          refine g_aald hx hb hK hP 4 3 rfl rfl (by omega) (by decide) dX5_countHits_30 ?_
          refine lv_iload hx hb dX5_countHits_31 (lv_at hl 5 rfl) ?_
          refine lv_aload_n hx hb dX5_countHits_33 rfl (lv_at hl 0 rfl) ?_
          refine lv_iload hx hb dX5_countHits_34 (lv_at hl 5 rfl) ?_
          refine lv_iload hx hb dX5_countHits_36 (lv_at hl 4 rfl) ?_
          refine lv_iload_n hx hb dX5_countHits_38 rfl (lv_at hl 3 rfl) ?_
          refine ca_l (CL := [lO b, cO b (nI n) (nI k), oQ (cY 2) (b 3) (rr 1) 6, gI (cY 0) (rr 1) 6 fW 6, oQ (cY 3) (b 6) (rr 3) 13, gJ (cY 1) (rr 3) 6 gH2 13]) (va_runV (As := [.int (nI i), .int (nI u), .int (nI w)]) (rest := [.int (nI i), .ref (rr 3 u)]) ⟨hx, hb, hml, hown, hts⟩ (c_X5_hitsIn l D cY H.size b rr n k fW gH2 g i u w (by omega) (by omega) (by omega) (by omega) hW (by omega) (by omega) (by omega) (by
  rcases Nat.eq_zero_or_pos u with z | z
  · exact Or.inl z
  · exact Or.inr (fun d hd => hJ.1 (u - 1) (by omega) d hd))) (cwV 3 hts gX5_countHits_X5_hitsIn rfl rfl rfl (by decide +kernel) ⟨Nat.le_of_ble_eq_true rfl, Nat.le_of_ble_eq_true rfl⟩) (b_preV hVK hP hD [0, 1, 2, 3, 4, 5] rfl rfl 0 rfl rfl) rfl rfl hl.1 rfl (lv_room (Nat.le_of_ble_eq_true rfl)) dX5_countHits_39 ⟨Nat.le_refl _, Nat.le_refl _⟩) hP hD hS hA [0, 1, 2, 3, 4, 5] rfl rfl (fun _ => rfl) (fun r39 uu H locs hq hP hD hS => ?_)
          subst hq
          have hP : va_P D vwCl ([lO b, cO b (nI n) (nI k), oQ (cY 2) (b 3) (rr 1) 6, gI (cY 0) (rr 1) 6 fW 6, oQ (cY 3) (b 6) (rr 3) 13, gJ (cY 1) (rr 3) 6 gH2 13] : List va_W).flatten H := hP
          have hD : va_D A ([lO b, cO b (nI n) (nI k), oQ (cY 2) (b 3) (rr 1) 6, gI (cY 0) (rr 1) 6 fW 6, oQ (cY 3) (b 6) (rr 3) 13, gJ (cY 1) (rr 3) 6 gH2 13] : List va_W).flatten := hD
          refine g_last hx hb hK hP hD hS 5 1 rfl rfl (by omega) (by omega) (by decide) dX5_countHits_42 (fun H locs hP hD hS => ?_)
          have hP : va_P D vwCl ([lO b, cO b (nI n) (nI k), oQ (cY 2) (b 3) (rr 1) 6, gI (cY 0) (rr 1) 6 fW 6, oQ (cY 3) (b 6) (rr 3) 13, gJ (cY 1) (rr 3) 6 (va_up gH2 u (vp_updL (gH2 u) i (lN (HB g n k w u i)))) 13] : List va_W).flatten H := hP
          have hD : va_D A ([lO b, cO b (nI n) (nI k), oQ (cY 2) (b 3) (rr 1) 6, gI (cY 0) (rr 1) 6 fW 6, oQ (cY 3) (b 6) (rr 3) 13, gJ (cY 1) (rr 3) 6 (va_up gH2 u (vp_updL (gH2 u) i (lN (HB g n k w u i)))) 13] : List va_W).flatten := hD
          refine lv_iinc (v := nI (i + 1)) (lv' := [(5, .int (nI (i + 1))), (0, .ref (b 4)), (1, .int (nI f)), (2, .int (nI t)), (3, .int (nI w)), (4, .int (nI u))]) hx hb dX5_countHits_43 hl (k := 5) rfl (nI_1 i) (by decide) rfl (fun ls hl => ?_)
          refine lv_goto (tgt := 12) hx hb dX5_countHits_46 (by decide) ?_
          exact ih12 (by omega) (va_up gH2 u (vp_updL (gH2 u) i (lN (HB g n k w u i)))) (HT_s hJ) _ _ hP hD hS _ (lv_sub hl [1, 2, 3, 4, 5, 0] rfl)
      exact L12 0 (by omega) gH hI _ _ hP hD hS _ (lv_sub hl [1, 2, 3, 4, 5, 0] rfl)
  exact L3 0 (by omega) fH HT_0 _ _ hP hD hS _ (lv_sub hl [1, 2, 3, 4, 0] rfl)

set_option maxHeartbeats 4000000 in
set_option maxRecDepth 100000 in
theorem c_X2_apartFrom (l : Launch) (D : va_G) (cY : Nat → ClassId) (sz : Nat) (b : Nat → Nat) (rr : Nat → Nat → Nat) (n : Nat) (k : Nat) (fG : Nat → Nat → Int32) (fA : Nat → Nat → Int64) (g : Nat → Nat → Nat) (i : Nat) (j : Nat) (t : Nat) (hn1 : 1 ≤ n) (hn6 : n ≤ 6) (hk1 : 1 ≤ k) (hk12 : k ≤ 12) (hG : ∀ i j, i < n → j < k → fG i j = nI (g i j)) (hgn : ∀ i j, i < n → j < k → g i j < n) (hi : i < n) (hj : j < n) (ht : t ≤ 12) (hA2 : t = 0 ∨ ∀ x y, x < n → y < n → fA (t - 1) (6 * x + y) = lN (AB g k (t - 1) x y)) : Met l yX2_apartFrom wsX2_apartFrom ({ frames := 1, cells := 0, slots := 0, locals := 40 }) (cP D cY [.ref (b 7), .int (nI i), .int (nI j), .int (nI t)] [kO b, cO b (nI n) (nI k), oQ (cY 2) (b 2) (rr 0) 6, gI (cY 0) (rr 0) 12 fG 6, oQ (cY 3) (b 8) (rr 4) 13, gJ (cY 1) (rr 4) 36 fA 13] sz) (qL (S := Unit) D cY (fun r u => r = lN (AB g k t i j)) (fun u => [kO b, cO b (nI n) (nI k), oQ (cY 2) (b 2) (rr 0) 6, gI (cY 0) (rr 0) 12 fG 6, oQ (cY 3) (b 8) (rr 4) 13, gJ (cY 1) (rr 4) 36 fA 13]) (va_A ([kO b, cO b (nI n) (nI k), oQ (cY 2) (b 2) (rr 0) 6, gI (cY 0) (rr 0) 12 fG 6, oQ (cY 3) (b 8) (rr 4) 13, gJ (cY 1) (rr 4) 36 fA 13] : List va_W).flatten sz)) 0 0 (va_A ([kO b, cO b (nI n) (nI k), oQ (cY 2) (b 2) (rr 0) 6, gI (cY 0) (rr 0) 12 fG 6, oQ (cY 3) (b 8) (rr 4) 13, gJ (cY 1) (rr 4) 36 fA 13] : List va_W).flatten sz) := by
  refine mtB (Qc := fun A => qL (S := Unit) D cY (fun r u => r = lN (AB g k t i j)) (fun u => [kO b, cO b (nI n) (nI k), oQ (cY 2) (b 2) (rr 0) 6, gI (cY 0) (rr 0) 12 fG 6, oQ (cY 3) (b 8) (rr 4) 13, gJ (cY 1) (rr 4) 36 fA 13]) A) (cc := cX2_apartFrom) (maxL := 7) (ret := (some .long)) (by decide) rfl (Nat.le_of_ble_eq_true rfl) ?_
  intro p e s m below meth c A ls hx hb hr hml hts hown hlocks hnm hsz hP hK hVK hD hS hA hl
  have hown : s.vm.findClass RX2 = some m.cls := hown
  have hl : lv_has ls 7 [(0, .ref (b 7)), (1, .int (nI i)), (2, .int (nI j)), (3, .int (nI t))] := hl
  have hP : va_P D vwCl ([kO b, cO b (nI n) (nI k), oQ (cY 2) (b 2) (rr 0) 6, gI (cY 0) (rr 0) 12 fG 6, oQ (cY 3) (b 8) (rr 4) 13, gJ (cY 1) (rr 4) 36 fA 13] : List va_W).flatten s.heap := hP
  have hD : va_D A ([kO b, cO b (nI n) (nI k), oQ (cY 2) (b 2) (rr 0) 6, gI (cY 0) (rr 0) 12 fG 6, oQ (cY 3) (b 8) (rr 4) 13, gJ (cY 1) (rr 4) 36 fA 13] : List va_W).flatten := hD
  refine lv_iload_n hx hb dX2_apartFrom_0 rfl (lv_at hl 1 rfl) ?_
  refine lv_iload_n hx hb dX2_apartFrom_1 rfl (lv_at hl 2 rfl) ?_
  refine n_icmp_ne (tgt := 7) hx hb dX2_apartFrom_2 (by decide) (by omega) (by omega) (fun h2 => ?_) (fun h2 => ?_)
  · -- t
    refine lv_iload_n hx hb dX2_apartFrom_7 rfl (lv_at hl 3 rfl) ?_
    refine n_if_ne (tgt := 13) hx hb dX2_apartFrom_8 (by decide) (by omega) (fun h8 => ?_) (fun h8 => ?_)
    · -- t
      refine lv_lconst (v := lN 0) hx hb dX2_apartFrom_13 (by decide) ?_
      refine lv_lstore (lv' := [(4, .long (lN 0)), (0, .ref (b 7)), (1, .int (nI i)), (2, .int (nI j)), (3, .int (nI t))]) hx hb dX2_apartFrom_14 hl (by decide) rfl (fun ls hl => ?_)
      refine lv_iconst (v := nI 0) hx hb dX2_apartFrom_16 (by decide) ?_
      refine lv_istore (lv' := [(6, .int (nI 0)), (4, .long (lN 0)), (0, .ref (b 7)), (1, .int (nI i)), (2, .int (nI j)), (3, .int (nI t))]) hx hb dX2_apartFrom_17 hl (by decide) rfl (fun ls hl => ?_)
      have L19 : ∀ q : Nat, q ≤ k →  ∀ (H : Heap) (locs : List Loc), va_P D vwCl ([kO b, cO b (nI n) (nI k), oQ (cY 2) (b 2) (rr 0) 6, gI (cY 0) (rr 0) 12 fG 6, oQ (cY 3) (b 8) (rr 4) 13, gJ (cY 1) (rr 4) 36 fA 13] : List va_W).flatten H → va_D A ([kO b, cO b (nI n) (nI k), oQ (cY 2) (b 2) (rr 0) 6, gI (cY 0) (rr 0) 12 fG 6, oQ (cY 3) (b 8) (rr 4) 13, gJ (cY 1) (rr 4) 36 fA 13] : List va_W).flatten → va_S A s.heap H locs → ∀ (ls : Array Slot), lv_has ls 7 [(0, .ref (b 7)), (1, .int (nI i)), (2, .int (nI j)), (3, .int (nI t)), (4, .long (lN (sm (fun s => AB g k (t - 1) (g i s) (g j s)) q))), (6, .int (nI q))] → W p l e ({ frames := 1, cells := 0, slots := 0, locals := 40 }) s m ([.ref (b 7), .int (nI i), .int (nI j), .int (nI t)] : List Value).toArray below meth c H locs 0 0 (MQ below (qL (S := Unit) D cY (fun r u => r = lN (AB g k t i j)) (fun u => [kO b, cO b (nI n) (nI k), oQ (cY 2) (b 2) (rr 0) 6, gI (cY 0) (rr 0) 12 fG 6, oQ (cY 3) (b 8) (rr 4) 13, gJ (cY 1) (rr 4) 36 fA 13]) A) ([.ref (b 7), .int (nI i), .int (nI j), .int (nI t)] : List Value).toArray s 0 0 A) (F0 m 19 ls []) := by
        refine lpW k ?_
        intro q bdq ih19   H locs hP hD hS ls hl
        refine lv_iload hx hb dX2_apartFrom_19 (lv_at hl 5 rfl) ?_
        refine lv_aload_n hx hb dX2_apartFrom_21 rfl (lv_at hl 0 rfl) ?_
        refine b_get (ci := 2) (v := .ref (b 1)) (C := RX2) (T := TX2) (N := 3) hx hb hts (by decide +kernel) hown hK hP 0 rfl rfl 0 (by decide) (hts (.fieldLink RX2 9 "ChanceHall$Crowds" "chain" "LChanceHall$Chain;") (by decide +kernel)) (fun _ h9 => h9) rfl dX2_apartFrom_22 ?_
        refine b_get (ci := 0) (v := .int (nI k)) (C := RX0) (T := TX0) (N := 4) hx hb hts (by decide +kernel) hown hK hP 1 rfl rfl 1 (by decide) (hts (.fieldLink RX2 37 "ChanceHall$Chain" "slots" "I") (by decide +kernel)) (fun _ h9 => h9) rfl dX2_apartFrom_25 ?_
        refine n_icmp_ge (tgt := 78) hx hb dX2_apartFrom_28 (by decide) (by omega) (by omega) (fun h28 => ?_) (fun h28 => ?_)
        · -- t
          refine lv_lload hx hb dX2_apartFrom_78 (lv_at hl 4 rfl) ?_
          exact r_l hx hb hr hlocks hP hD hS () rfl (by
  (have e : q = k := by omega); subst e
  obtain ⟨z, rfl⟩ : ∃ z, t = z + 1 := ⟨t - 1, by omega⟩
  exact congrArg lN (if_neg h2).symm) dX2_apartFrom_80
        · -- f
          refine lv_lload hx hb dX2_apartFrom_31 (lv_at hl 4 rfl) ?_
          refine lv_aload_n hx hb dX2_apartFrom_33 rfl (lv_at hl 0 rfl) ?_
          refine b_get (ci := 2) (v := .ref (b 8)) (C := RX2) (T := TX2) (N := 3) hx hb hts (by decide +kernel) hown hK hP 0 rfl rfl 1 (by decide) (hts (.fieldLink RX2 17 "ChanceHall$Crowds" "apartRows" "[[J") (by decide +kernel)) (fun _ h9 => h9) rfl dX2_apartFrom_34 ?_
          refine lv_iload_n hx hb dX2_apartFrom_37 rfl (lv_at hl 3 rfl) ?_
          refine lv_iconst (v := nI 1) hx hb dX2_apartFrom_38 (by decide) ?_
          refine lv_isub hx hb dX2_apartFrom_39 ?_
          refine eqi (x' := nI (t - 1)) (pk_sub (by omega)) ?_
          refine g_aald hx hb hK hP 4 3 rfl rfl (by omega) (by decide) dX2_apartFrom_40 ?_
          refine lv_aload_n hx hb dX2_apartFrom_41 rfl (lv_at hl 0 rfl) ?_
          refine b_get (ci := 2) (v := .ref (b 1)) (C := RX2) (T := TX2) (N := 3) hx hb hts (by decide +kernel) hown hK hP 0 rfl rfl 0 (by decide) (hts (.fieldLink RX2 9 "ChanceHall$Crowds" "chain" "LChanceHall$Chain;") (by decide +kernel)) (fun _ h9 => h9) rfl dX2_apartFrom_42 ?_
          refine b_get (ci := 0) (v := .ref (b 2)) (C := RX0) (T := TX0) (N := 4) hx hb hts (by decide +kernel) hown hK hP 1 rfl rfl 2 (by decide) (hts (.fieldLink RX2 40 "ChanceHall$Chain" "goesTo" "[[I") (by decide +kernel)) (fun _ h9 => h9) rfl dX2_apartFrom_45 ?_
          refine lv_iload_n hx hb dX2_apartFrom_48 rfl (lv_at hl 1 rfl) ?_
          refine g_aald hx hb hK hP 2 2 rfl rfl (by omega) (by decide) dX2_apartFrom_49 ?_
          refine lv_iload hx hb dX2_apartFrom_50 (lv_at hl 5 rfl) ?_
          refine g_iald hx hb hK hP 3 0 rfl rfl (by omega) (by omega) (by decide) dX2_apartFrom_52 ?_
          refine eqi (x' := nI (g i q)) (hG i q hi (by omega)) ?_
          have hgi := hgn i q hi (by omega)
          refine lv_aload_n hx hb dX2_apartFrom_53 rfl (lv_at hl 0 rfl) ?_
          refine b_get (ci := 2) (v := .ref (b 1)) (C := RX2) (T := TX2) (N := 3) hx hb hts (by decide +kernel) hown hK hP 0 rfl rfl 0 (by decide) (hts (.fieldLink RX2 9 "ChanceHall$Crowds" "chain" "LChanceHall$Chain;") (by decide +kernel)) (fun _ h9 => h9) rfl dX2_apartFrom_54 ?_
          refine b_get (ci := 0) (v := .ref (b 2)) (C := RX0) (T := TX0) (N := 4) hx hb hts (by decide +kernel) hown hK hP 1 rfl rfl 2 (by decide) (hts (.fieldLink RX2 40 "ChanceHall$Chain" "goesTo" "[[I") (by decide +kernel)) (fun _ h9 => h9) rfl dX2_apartFrom_57 ?_
          refine lv_iload_n hx hb dX2_apartFrom_60 rfl (lv_at hl 2 rfl) ?_
          refine g_aald hx hb hK hP 2 2 rfl rfl (by omega) (by decide) dX2_apartFrom_61 ?_
          refine lv_iload hx hb dX2_apartFrom_62 (lv_at hl 5 rfl) ?_
          refine g_iald hx hb hK hP 3 0 rfl rfl (by omega) (by omega) (by decide) dX2_apartFrom_64 ?_
          refine eqi (x' := nI (g j q)) (hG j q hj (by omega)) ?_
          have hgj := hgn j q hj (by omega)
          refine ca_i (CL := []) (va_runSN (As := [.int (nI (g i q)), .int (nI (g j q))]) (rest := [.ref (rr 4 (t - 1)), .long (lN (sm (fun s => AB g k (t - 1) (g i s) (g j s)) q))]) ⟨hx, hb, hml, hown, hts⟩ (c_X8_pairOf l D cY H.size (g i q) (g j q)) ⟨va_cnB 2 hts gX2_apartFrom_X8_pairOf_n29 rfl rfl rfl hVK.2.2 (hts (.initialized RX8) (by decide +kernel)) (by decide +kernel) ⟨Nat.le_of_ble_eq_true rfl, Nat.le_of_ble_eq_true rfl⟩, hts (.static yX8_pairOf) (by decide +kernel), trivial⟩ (b_preS hVK hP hD [] rfl rfl) rfl rfl hl.1 rfl (lv_room (Nat.le_of_ble_eq_true rfl)) dX2_apartFrom_65 ⟨Nat.le_refl _, Nat.le_refl _⟩) hP hD hS hA [] rfl rfl (fun _ => rfl) (fun r65 uu H locs hq hP hD hS => ?_)
          subst hq
          have hP : va_P D vwCl ([kO b, cO b (nI n) (nI k), oQ (cY 2) (b 2) (rr 0) 6, gI (cY 0) (rr 0) 12 fG 6, oQ (cY 3) (b 8) (rr 4) 13, gJ (cY 1) (rr 4) 36 fA 13] : List va_W).flatten H := hP
          have hD : va_D A ([kO b, cO b (nI n) (nI k), oQ (cY 2) (b 2) (rr 0) 6, gI (cY 0) (rr 0) 12 fG 6, oQ (cY 3) (b 8) (rr 4) 13, gJ (cY 1) (rr 4) 36 fA 13] : List va_W).flatten := hD
          refine g_lald hx hb hK hP 5 1 rfl rfl (by omega) (by omega) (by decide) dX2_apartFrom_68 ?_
          refine eql (x' := lN (AB g k (t - 1) (g i q) (g j q))) ((hA2.resolve_left h8) _ _ hgi hgj) ?_
          refine lv_ladd hx hb dX2_apartFrom_69 ?_
          refine eql (x' := lN (sm (fun s => AB g k (t - 1) (g i s) (g j s)) q + (AB g k (t - 1) (g i q) (g j q)))) (lN_add _ _) ?_
          refine lv_lstore (lv' := [(4, .long (lN (sm (fun s => AB g k (t - 1) (g i s) (g j s)) q + (AB g k (t - 1) (g i q) (g j q))))), (0, .ref (b 7)), (1, .int (nI i)), (2, .int (nI j)), (3, .int (nI t)), (6, .int (nI q))]) hx hb dX2_apartFrom_70 hl (by decide) rfl (fun ls hl => ?_)
          refine lv_iinc (v := nI (q + 1)) (lv' := [(6, .int (nI (q + 1))), (4, .long (lN (sm (fun s => AB g k (t - 1) (g i s) (g j s)) q + (AB g k (t - 1) (g i q) (g j q))))), (0, .ref (b 7)), (1, .int (nI i)), (2, .int (nI j)), (3, .int (nI t))]) hx hb dX2_apartFrom_72 hl (k := 5) rfl (nI_1 q) (by decide) rfl (fun ls hl => ?_)
          refine lv_goto (tgt := 19) hx hb dX2_apartFrom_75 (by decide) ?_
          exact ih19 (by omega)   _ _ hP hD hS _ (lv_sub hl [2, 3, 4, 5, 1, 0] rfl)
      exact L19 0 (by omega)   _ _ hP hD hS _ (lv_sub hl [2, 3, 4, 5, 1, 0] rfl)
    · -- f
      refine lv_lconst (v := lN 1) hx hb dX2_apartFrom_11 (by decide) ?_
      exact r_l hx hb hr hlocks hP hD hS () rfl (by rw [h8]; exact congrArg lN (if_neg h2).symm) dX2_apartFrom_12
  · -- f
    refine lv_lconst (v := lN 0) hx hb dX2_apartFrom_5 (by decide) ?_
    exact r_l hx hb hr hlocks hP hD hS () rfl (by rw [h2]; exact congrArg lN (by cases t with | zero => exact (if_pos rfl).symm | succ t => exact (if_pos rfl).symm)) dX2_apartFrom_6

set_option maxHeartbeats 4000000 in
set_option maxRecDepth 100000 in
theorem c_X2_countApart (l : Launch) (D : va_G) (cY : Nat → ClassId) (sz : Nat) (b : Nat → Nat) (rr : Nat → Nat → Nat) (n : Nat) (k : Nat) (fG : Nat → Nat → Int32) (fA : Nat → Nat → Int64) (g : Nat → Nat → Nat) (i : Nat) (j : Nat) (t : Nat) (hn1 : 1 ≤ n) (hn6 : n ≤ 6) (hk1 : 1 ≤ k) (hk12 : k ≤ 12) (hG : ∀ i j, i < n → j < k → fG i j = nI (g i j)) (hgn : ∀ i j, i < n → j < k → g i j < n) (hi : i < n) (hj : j < n) (ht : t ≤ 12) : Met l yX2_countApart wsX2_countApart ({ frames := 2, cells := 0, slots := 0, locals := 80 }) (cP D cY [.ref (b 7), .int (nI i), .int (nI j), .int (nI t)] [kO b, cO b (nI n) (nI k), oQ (cY 2) (b 2) (rr 0) 6, gI (cY 0) (rr 0) 12 fG 6, oQ (cY 3) (b 8) (rr 4) 13, gJ (cY 1) (rr 4) 36 fA 13] sz) (qL (S := (Nat → Nat → Int64)) D cY (fun r u => r = lN (AB g k t i j)) (fun u => [kO b, cO b (nI n) (nI k), oQ (cY 2) (b 2) (rr 0) 6, gI (cY 0) (rr 0) 12 fG 6, oQ (cY 3) (b 8) (rr 4) 13, gJ (cY 1) (rr 4) 36 u 13]) (va_A ([kO b, cO b (nI n) (nI k), oQ (cY 2) (b 2) (rr 0) 6, gI (cY 0) (rr 0) 12 fG 6, oQ (cY 3) (b 8) (rr 4) 13, gJ (cY 1) (rr 4) 36 fA 13] : List va_W).flatten sz)) 0 0 (va_A ([kO b, cO b (nI n) (nI k), oQ (cY 2) (b 2) (rr 0) 6, gI (cY 0) (rr 0) 12 fG 6, oQ (cY 3) (b 8) (rr 4) 13, gJ (cY 1) (rr 4) 36 fA 13] : List va_W).flatten sz) := by
  refine mtB (Qc := fun A => qL (S := (Nat → Nat → Int64)) D cY (fun r u => r = lN (AB g k t i j)) (fun u => [kO b, cO b (nI n) (nI k), oQ (cY 2) (b 2) (rr 0) 6, gI (cY 0) (rr 0) 12 fG 6, oQ (cY 3) (b 8) (rr 4) 13, gJ (cY 1) (rr 4) 36 u 13]) A) (cc := cX2_countApart) (maxL := 7) (ret := (some .long)) (by decide) rfl (Nat.le_of_ble_eq_true rfl) ?_
  intro p e s m below meth c A ls hx hb hr hml hts hown hlocks hnm hsz hP hK hVK hD hS hA hl
  have hown : s.vm.findClass RX2 = some m.cls := hown
  have hl : lv_has ls 7 [(0, .ref (b 7)), (1, .int (nI i)), (2, .int (nI j)), (3, .int (nI t))] := hl
  have hP : va_P D vwCl ([kO b, cO b (nI n) (nI k), oQ (cY 2) (b 2) (rr 0) 6, gI (cY 0) (rr 0) 12 fG 6, oQ (cY 3) (b 8) (rr 4) 13, gJ (cY 1) (rr 4) 36 fA 13] : List va_W).flatten s.heap := hP
  have hD : va_D A ([kO b, cO b (nI n) (nI k), oQ (cY 2) (b 2) (rr 0) 6, gI (cY 0) (rr 0) 12 fG 6, oQ (cY 3) (b 8) (rr 4) 13, gJ (cY 1) (rr 4) 36 fA 13] : List va_W).flatten := hD
  refine lv_iconst (v := nI 0) hx hb dX2_countApart_0 (by decide) ?_
  refine lv_istore (lv' := [(4, .int (nI 0)), (0, .ref (b 7)), (1, .int (nI i)), (2, .int (nI j)), (3, .int (nI t))]) hx hb dX2_countApart_1 hl (by decide) rfl (fun ls hl => ?_)
  have L3 : ∀ u : Nat, u ≤ t + 1 → ∀ (gA : Nat → Nat → Int64), (AT_ g n k u 0 0 gA) → ∀ (H : Heap) (locs : List Loc), va_P D vwCl ([kO b, cO b (nI n) (nI k), oQ (cY 2) (b 2) (rr 0) 6, gI (cY 0) (rr 0) 12 fG 6, oQ (cY 3) (b 8) (rr 4) 13, gJ (cY 1) (rr 4) 36 gA 13] : List va_W).flatten H → va_D A ([kO b, cO b (nI n) (nI k), oQ (cY 2) (b 2) (rr 0) 6, gI (cY 0) (rr 0) 12 fG 6, oQ (cY 3) (b 8) (rr 4) 13, gJ (cY 1) (rr 4) 36 gA 13] : List va_W).flatten → va_S A s.heap H locs → ∀ (ls : Array Slot), lv_has ls 7 [(0, .ref (b 7)), (1, .int (nI i)), (2, .int (nI j)), (3, .int (nI t)), (4, .int (nI u))] → W p l e ({ frames := 2, cells := 0, slots := 0, locals := 80 }) s m ([.ref (b 7), .int (nI i), .int (nI j), .int (nI t)] : List Value).toArray below meth c H locs 0 0 (MQ below (qL (S := (Nat → Nat → Int64)) D cY (fun r u => r = lN (AB g k t i j)) (fun u => [kO b, cO b (nI n) (nI k), oQ (cY 2) (b 2) (rr 0) 6, gI (cY 0) (rr 0) 12 fG 6, oQ (cY 3) (b 8) (rr 4) 13, gJ (cY 1) (rr 4) 36 u 13]) A) ([.ref (b 7), .int (nI i), .int (nI j), .int (nI t)] : List Value).toArray s 0 0 A) (F0 m 3 ls []) := by
    refine lpW (t + 1) ?_
    intro u bdu ih3 gA hI H locs hP hD hS ls hl
    refine lv_iload hx hb dX2_countApart_3 (lv_at hl 4 rfl) ?_
    refine lv_iload_n hx hb dX2_countApart_5 rfl (lv_at hl 3 rfl) ?_
    refine n_icmp_gt (tgt := 82) hx hb dX2_countApart_6 (by decide) (by omega) (by omega) (fun h6 => ?_) (fun h6 => ?_)
    · -- t
      refine lv_aload_n hx hb dX2_countApart_82 rfl (lv_at hl 0 rfl) ?_
      refine b_get (ci := 2) (v := .ref (b 8)) (C := RX2) (T := TX2) (N := 3) hx hb hts (by decide +kernel) hown hK hP 0 rfl rfl 1 (by decide) (hts (.fieldLink RX2 17 "ChanceHall$Crowds" "apartRows" "[[J") (by decide +kernel)) (fun _ h9 => h9) rfl dX2_countApart_83 ?_
      refine lv_iload_n hx hb dX2_countApart_86 rfl (lv_at hl 3 rfl) ?_
      refine g_aald hx hb hK hP 4 3 rfl rfl (by omega) (by decide) dX2_countApart_87 ?_
      refine lv_iload_n hx hb dX2_countApart_88 rfl (lv_at hl 1 rfl) ?_
      refine lv_iload_n hx hb dX2_countApart_89 rfl (lv_at hl 2 rfl) ?_
      refine ca_i (CL := []) (va_runSN (As := [.int (nI i), .int (nI j)]) (rest := [.ref (rr 4 t)]) ⟨hx, hb, hml, hown, hts⟩ (c_X8_pairOf l D cY H.size i j) ⟨va_cnB 2 hts gX2_countApart_X8_pairOf_n29 rfl rfl rfl hVK.2.2 (hts (.initialized RX8) (by decide +kernel)) (by decide +kernel) ⟨Nat.le_of_ble_eq_true rfl, Nat.le_of_ble_eq_true rfl⟩, hts (.static yX8_pairOf) (by decide +kernel), trivial⟩ (b_preS hVK hP hD [] rfl rfl) rfl rfl hl.1 rfl (lv_room (Nat.le_of_ble_eq_true rfl)) dX2_countApart_90 ⟨Nat.le_refl _, Nat.le_refl _⟩) hP hD hS hA [] rfl rfl (fun _ => rfl) (fun r90 uu H locs hq hP hD hS => ?_)
      subst hq
      have hP : va_P D vwCl ([kO b, cO b (nI n) (nI k), oQ (cY 2) (b 2) (rr 0) 6, gI (cY 0) (rr 0) 12 fG 6, oQ (cY 3) (b 8) (rr 4) 13, gJ (cY 1) (rr 4) 36 gA 13] : List va_W).flatten H := hP
      have hD : va_D A ([kO b, cO b (nI n) (nI k), oQ (cY 2) (b 2) (rr 0) 6, gI (cY 0) (rr 0) 12 fG 6, oQ (cY 3) (b 8) (rr 4) 13, gJ (cY 1) (rr 4) 36 gA 13] : List va_W).flatten := hD
      refine g_lald hx hb hK hP 5 1 rfl rfl (by omega) (by omega) (by decide) dX2_countApart_93 ?_
      exact r_l hx hb hr hlocks hP hD hS gA rfl (hI.1 t (by omega) i j hi hj) dX2_countApart_94
    · -- f
      refine lv_iconst (v := nI 0) hx hb dX2_countApart_9 (by decide) ?_
      refine lv_istore (lv' := [(5, .int (nI 0)), (0, .ref (b 7)), (1, .int (nI i)), (2, .int (nI j)), (3, .int (nI t)), (4, .int (nI u))]) hx hb dX2_countApart_10 hl (by decide) rfl (fun ls hl => ?_)
      have L12 : ∀ x : Nat, x ≤ n → ∀ (gA2 : Nat → Nat → Int64), (AT_ g n k u x 0 gA2) → ∀ (H : Heap) (locs : List Loc), va_P D vwCl ([kO b, cO b (nI n) (nI k), oQ (cY 2) (b 2) (rr 0) 6, gI (cY 0) (rr 0) 12 fG 6, oQ (cY 3) (b 8) (rr 4) 13, gJ (cY 1) (rr 4) 36 gA2 13] : List va_W).flatten H → va_D A ([kO b, cO b (nI n) (nI k), oQ (cY 2) (b 2) (rr 0) 6, gI (cY 0) (rr 0) 12 fG 6, oQ (cY 3) (b 8) (rr 4) 13, gJ (cY 1) (rr 4) 36 gA2 13] : List va_W).flatten → va_S A s.heap H locs → ∀ (ls : Array Slot), lv_has ls 7 [(0, .ref (b 7)), (1, .int (nI i)), (2, .int (nI j)), (3, .int (nI t)), (4, .int (nI u)), (5, .int (nI x))] → W p l e ({ frames := 2, cells := 0, slots := 0, locals := 80 }) s m ([.ref (b 7), .int (nI i), .int (nI j), .int (nI t)] : List Value).toArray below meth c H locs 0 0 (MQ below (qL (S := (Nat → Nat → Int64)) D cY (fun r u => r = lN (AB g k t i j)) (fun u => [kO b, cO b (nI n) (nI k), oQ (cY 2) (b 2) (rr 0) 6, gI (cY 0) (rr 0) 12 fG 6, oQ (cY 3) (b 8) (rr 4) 13, gJ (cY 1) (rr 4) 36 u 13]) A) ([.ref (b 7), .int (nI i), .int (nI j), .int (nI t)] : List Value).toArray s 0 0 A) (F0 m 12 ls []) := by
        refine lpW n ?_
        intro x bdx ih12 gA2 hJ H locs hP hD hS ls hl
        refine lv_iload hx hb dX2_countApart_12 (lv_at hl 5 rfl) ?_
        refine lv_aload_n hx hb dX2_countApart_14 rfl (lv_at hl 0 rfl) ?_
        refine b_get (ci := 2) (v := .ref (b 1)) (C := RX2) (T := TX2) (N := 3) hx hb hts (by decide +kernel) hown hK hP 0 rfl rfl 0 (by decide) (hts (.fieldLink RX2 9 "ChanceHall$Crowds" "chain" "LChanceHall$Chain;") (by decide +kernel)) (fun _ h9 => h9) rfl dX2_countApart_15 ?_
        refine b_get (ci := 0) (v := .int (nI n)) (C := RX0) (T := TX0) (N := 4) hx hb hts (by decide +kernel) hown hK hP 1 rfl rfl 0 (by decide) (hts (.fieldLink RX2 23 "ChanceHall$Chain" "states" "I") (by decide +kernel)) (fun _ h9 => h9) rfl dX2_countApart_18 ?_
        refine n_icmp_ge (tgt := 76) hx hb dX2_countApart_21 (by decide) (by omega) (by omega) (fun h21 => ?_) (fun h21 => ?_)
        · -- t
          refine lv_iinc (v := nI (u + 1)) (lv' := [(4, .int (nI (u + 1))), (0, .ref (b 7)), (1, .int (nI i)), (2, .int (nI j)), (3, .int (nI t)), (5, .int (nI x))]) hx hb dX2_countApart_76 hl (k := 4) rfl (nI_1 u) (by decide) rfl (fun ls hl => ?_)
          refine lv_goto (tgt := 3) hx hb dX2_countApart_79 (by decide) ?_
          exact ih3 (by omega) gA2 (AT_i (by (have e : x = n := by omega); rw [← e]; rw [← e] at hJ; exact hJ)) _ _ hP hD hS _ (lv_sub hl [1, 2, 3, 4, 0] rfl)
        · -- f
          refine lv_iconst (v := nI 0) hx hb dX2_countApart_24 (by decide) ?_
          refine lv_istore (lv' := [(6, .int (nI 0)), (0, .ref (b 7)), (1, .int (nI i)), (2, .int (nI j)), (3, .int (nI t)), (4, .int (nI u)), (5, .int (nI x))]) hx hb dX2_countApart_25 hl (by decide) rfl (fun ls hl => ?_)
          have L27 : ∀ y : Nat, y ≤ n → ∀ (gA3 : Nat → Nat → Int64), (AT_ g n k u x y gA3) → ∀ (H : Heap) (locs : List Loc), va_P D vwCl ([kO b, cO b (nI n) (nI k), oQ (cY 2) (b 2) (rr 0) 6, gI (cY 0) (rr 0) 12 fG 6, oQ (cY 3) (b 8) (rr 4) 13, gJ (cY 1) (rr 4) 36 gA3 13] : List va_W).flatten H → va_D A ([kO b, cO b (nI n) (nI k), oQ (cY 2) (b 2) (rr 0) 6, gI (cY 0) (rr 0) 12 fG 6, oQ (cY 3) (b 8) (rr 4) 13, gJ (cY 1) (rr 4) 36 gA3 13] : List va_W).flatten → va_S A s.heap H locs → ∀ (ls : Array Slot), lv_has ls 7 [(0, .ref (b 7)), (1, .int (nI i)), (2, .int (nI j)), (3, .int (nI t)), (4, .int (nI u)), (5, .int (nI x)), (6, .int (nI y))] → W p l e ({ frames := 2, cells := 0, slots := 0, locals := 80 }) s m ([.ref (b 7), .int (nI i), .int (nI j), .int (nI t)] : List Value).toArray below meth c H locs 0 0 (MQ below (qL (S := (Nat → Nat → Int64)) D cY (fun r u => r = lN (AB g k t i j)) (fun u => [kO b, cO b (nI n) (nI k), oQ (cY 2) (b 2) (rr 0) 6, gI (cY 0) (rr 0) 12 fG 6, oQ (cY 3) (b 8) (rr 4) 13, gJ (cY 1) (rr 4) 36 u 13]) A) ([.ref (b 7), .int (nI i), .int (nI j), .int (nI t)] : List Value).toArray s 0 0 A) (F0 m 27 ls []) := by
            refine lpW n ?_
            intro y bdy ih27 gA3 hM H locs hP hD hS ls hl
            refine lv_iload hx hb dX2_countApart_27 (lv_at hl 6 rfl) ?_
            refine lv_aload_n hx hb dX2_countApart_29 rfl (lv_at hl 0 rfl) ?_
            refine b_get (ci := 2) (v := .ref (b 1)) (C := RX2) (T := TX2) (N := 3) hx hb hts (by decide +kernel) hown hK hP 0 rfl rfl 0 (by decide) (hts (.fieldLink RX2 9 "ChanceHall$Crowds" "chain" "LChanceHall$Chain;") (by decide +kernel)) (fun _ h9 => h9) rfl dX2_countApart_30 ?_
            refine b_get (ci := 0) (v := .int (nI n)) (C := RX0) (T := TX0) (N := 4) hx hb hts (by decide +kernel) hown hK hP 1 rfl rfl 0 (by decide) (hts (.fieldLink RX2 23 "ChanceHall$Chain" "states" "I") (by decide +kernel)) (fun _ h9 => h9) rfl dX2_countApart_33 ?_
            refine n_icmp_ge (tgt := 70) hx hb dX2_countApart_36 (by decide) (by omega) (by omega) (fun h36 => ?_) (fun h36 => ?_)
            · -- t
              refine lv_iinc (v := nI (x + 1)) (lv' := [(5, .int (nI (x + 1))), (0, .ref (b 7)), (1, .int (nI i)), (2, .int (nI j)), (3, .int (nI t)), (4, .int (nI u)), (6, .int (nI y))]) hx hb dX2_countApart_70 hl (k := 5) rfl (nI_1 x) (by decide) rfl (fun ls hl => ?_)
              refine lv_goto (tgt := 12) hx hb dX2_countApart_73 (by decide) ?_
              exact ih12 (by omega) gA3 (AT_j (by (have e : y = n := by omega); rw [← e]; rw [← e] at hM; exact hM)) _ _ hP hD hS _ (lv_sub hl [1, 2, 3, 4, 5, 0] rfl)
            · -- f
              refine lv_aload_n hx hb dX2_countApart_39 rfl (lv_at hl 0 rfl) ?_
              refine b_get (ci := 2) (v := .ref (b 8)) (C := RX2) (T := TX2) (N := 3) hx hb hts (by decide +kernel) hown hK hP 0 rfl rfl 1 (by decide) (hts (.fieldLink RX2 17 "ChanceHall$Crowds" "apartRows" "[[J") (by decide +kernel)) (fun _ h9 => h9) rfl dX2_countApart_40 ?_
              refine lv_iload hx hb dX2_countApart_43 (lv_at hl 4 rfl) ?_
              refine g_aald hx hb hK hP 4 3 rfl rfl (by omega) (by decide) dX2_countApart_45 ?_
              refine lv_iload hx hb dX2_countApart_46 (lv_at hl 5 rfl) ?_
              refine lv_iload hx hb dX2_countApart_48 (lv_at hl 6 rfl) ?_
              refine ca_i (CL := []) (va_runSN (As := [.int (nI x), .int (nI y)]) (rest := [.ref (rr 4 u)]) ⟨hx, hb, hml, hown, hts⟩ (c_X8_pairOf l D cY H.size x y) ⟨va_cnB 2 hts gX2_countApart_X8_pairOf_n29 rfl rfl rfl hVK.2.2 (hts (.initialized RX8) (by decide +kernel)) (by decide +kernel) ⟨Nat.le_of_ble_eq_true rfl, Nat.le_of_ble_eq_true rfl⟩, hts (.static yX8_pairOf) (by decide +kernel), trivial⟩ (b_preS hVK hP hD [] rfl rfl) rfl rfl hl.1 rfl (lv_room (Nat.le_of_ble_eq_true rfl)) dX2_countApart_50 ⟨Nat.le_refl _, Nat.le_refl _⟩) hP hD hS hA [] rfl rfl (fun _ => rfl) (fun r50 uu H locs hq hP hD hS => ?_)
              subst hq
              have hP : va_P D vwCl ([kO b, cO b (nI n) (nI k), oQ (cY 2) (b 2) (rr 0) 6, gI (cY 0) (rr 0) 12 fG 6, oQ (cY 3) (b 8) (rr 4) 13, gJ (cY 1) (rr 4) 36 gA3 13] : List va_W).flatten H := hP
              have hD : va_D A ([kO b, cO b (nI n) (nI k), oQ (cY 2) (b 2) (rr 0) 6, gI (cY 0) (rr 0) 12 fG 6, oQ (cY 3) (b 8) (rr 4) 13, gJ (cY 1) (rr 4) 36 gA3 13] : List va_W).flatten := hD
              refine lv_aload_n hx hb dX2_countApart_53 rfl (lv_at hl 0 rfl) ?_
              refine lv_iload hx hb dX2_countApart_54 (lv_at hl 5 rfl) ?_
              refine lv_iload hx hb dX2_countApart_56 (lv_at hl 6 rfl) ?_
              refine lv_iload hx hb dX2_countApart_58 (lv_at hl 4 rfl) ?_
              refine ca_l (CL := [kO b, cO b (nI n) (nI k), oQ (cY 2) (b 2) (rr 0) 6, gI (cY 0) (rr 0) 12 fG 6, oQ (cY 3) (b 8) (rr 4) 13, gJ (cY 1) (rr 4) 36 gA3 13]) (va_runV (As := [.int (nI x), .int (nI y), .int (nI u)]) (rest := [.int (nI (6 * x + y)), .ref (rr 4 u)]) ⟨hx, hb, hml, hown, hts⟩ (c_X2_apartFrom l D cY H.size b rr n k fG gA3 g x y u (by omega) (by omega) (by omega) (by omega) hG hgn (by omega) (by omega) (by omega) (by
  rcases Nat.eq_zero_or_pos u with z | z
  · exact Or.inl z
  · exact Or.inr (fun x2 y2 h1 h2 => hM.1 (u - 1) (by omega) x2 y2 h1 h2))) (cwV 3 hts gX2_countApart_X2_apartFrom rfl rfl rfl (by decide +kernel) ⟨Nat.le_of_ble_eq_true rfl, Nat.le_of_ble_eq_true rfl⟩) (b_preV hVK hP hD [0, 1, 2, 3, 4, 5] rfl rfl 0 rfl rfl) rfl rfl hl.1 rfl (lv_room (Nat.le_of_ble_eq_true rfl)) dX2_countApart_60 ⟨Nat.le_refl _, Nat.le_refl _⟩) hP hD hS hA [0, 1, 2, 3, 4, 5] rfl rfl (fun _ => rfl) (fun r60 uu H locs hq hP hD hS => ?_)
              subst hq
              have hP : va_P D vwCl ([kO b, cO b (nI n) (nI k), oQ (cY 2) (b 2) (rr 0) 6, gI (cY 0) (rr 0) 12 fG 6, oQ (cY 3) (b 8) (rr 4) 13, gJ (cY 1) (rr 4) 36 gA3 13] : List va_W).flatten H := hP
              have hD : va_D A ([kO b, cO b (nI n) (nI k), oQ (cY 2) (b 2) (rr 0) 6, gI (cY 0) (rr 0) 12 fG 6, oQ (cY 3) (b 8) (rr 4) 13, gJ (cY 1) (rr 4) 36 gA3 13] : List va_W).flatten := hD
              refine g_last hx hb hK hP hD hS 5 1 rfl rfl (by omega) (by omega) (by decide) dX2_countApart_63 (fun H locs hP hD hS => ?_)
              have hP : va_P D vwCl ([kO b, cO b (nI n) (nI k), oQ (cY 2) (b 2) (rr 0) 6, gI (cY 0) (rr 0) 12 fG 6, oQ (cY 3) (b 8) (rr 4) 13, gJ (cY 1) (rr 4) 36 (va_up gA3 u (vp_updL (gA3 u) (6 * x + y) (lN (AB g k u x y)))) 13] : List va_W).flatten H := hP
              have hD : va_D A ([kO b, cO b (nI n) (nI k), oQ (cY 2) (b 2) (rr 0) 6, gI (cY 0) (rr 0) 12 fG 6, oQ (cY 3) (b 8) (rr 4) 13, gJ (cY 1) (rr 4) 36 (va_up gA3 u (vp_updL (gA3 u) (6 * x + y) (lN (AB g k u x y)))) 13] : List va_W).flatten := hD
              refine lv_iinc (v := nI (y + 1)) (lv' := [(6, .int (nI (y + 1))), (0, .ref (b 7)), (1, .int (nI i)), (2, .int (nI j)), (3, .int (nI t)), (4, .int (nI u)), (5, .int (nI x))]) hx hb dX2_countApart_64 hl (k := 6) rfl (nI_1 y) (by decide) rfl (fun ls hl => ?_)
              refine lv_goto (tgt := 27) hx hb dX2_countApart_67 (by decide) ?_
              exact ih27 (by omega) (va_up gA3 u (vp_updL (gA3 u) (6 * x + y) (lN (AB g k u x y)))) (AT_s hn6 (by omega) hM) _ _ hP hD hS _ (lv_sub hl [1, 2, 3, 4, 5, 6, 0] rfl)
          exact L27 0 (by omega) gA2 hJ _ _ hP hD hS _ (lv_sub hl [1, 2, 3, 4, 5, 6, 0] rfl)
      exact L12 0 (by omega) gA hI _ _ hP hD hS _ (lv_sub hl [1, 2, 3, 4, 5, 0] rfl)
  exact L3 0 (by omega) fA AT_0 _ _ hP hD hS _ (lv_sub hl [1, 2, 3, 4, 0] rfl)

set_option maxHeartbeats 4000000 in
set_option maxRecDepth 100000 in
theorem c_X2_setBehind (l : Launch) (D : va_G) (cY : Nat → ClassId) (sz : Nat) (b : Nat → Nat) (rr : Nat → Nat → Nat) (n : Nat) (k : Nat) (fG : Nat → Nat → Int32) (g : Nat → Nat → Nat) (X : Nat) (j : Nat) (hn1 : 1 ≤ n) (hn6 : n ≤ 6) (hk1 : 1 ≤ k) (hk12 : k ≤ 12) (hG : ∀ i j, i < n → j < k → fG i j = nI (g i j)) (hgn : ∀ i j, i < n → j < k → g i j < n) (hX : X < 64) (hj : j < k) : Met l yX2_setBehind wsX2_setBehind ({ frames := 0, cells := 0, slots := 0, locals := 0 }) (cP D cY [.ref (b 7), .int (nI X), .int (nI j)] [kO b, cO b (nI n) (nI k), oQ (cY 2) (b 2) (rr 0) 6, gI (cY 0) (rr 0) 12 fG 6] sz) (qI (S := Unit) D cY (fun r u => r = nI (img g j X n)) (fun u => [kO b, cO b (nI n) (nI k), oQ (cY 2) (b 2) (rr 0) 6, gI (cY 0) (rr 0) 12 fG 6]) (va_A ([kO b, cO b (nI n) (nI k), oQ (cY 2) (b 2) (rr 0) 6, gI (cY 0) (rr 0) 12 fG 6] : List va_W).flatten sz)) 0 0 (va_A ([kO b, cO b (nI n) (nI k), oQ (cY 2) (b 2) (rr 0) 6, gI (cY 0) (rr 0) 12 fG 6] : List va_W).flatten sz) := by
  refine mtB (Qc := fun A => qI (S := Unit) D cY (fun r u => r = nI (img g j X n)) (fun u => [kO b, cO b (nI n) (nI k), oQ (cY 2) (b 2) (rr 0) 6, gI (cY 0) (rr 0) 12 fG 6]) A) (cc := cX2_setBehind) (maxL := 5) (ret := (some .int)) (by decide) rfl (Nat.le_of_ble_eq_true rfl) ?_
  intro p e s m below meth c A ls hx hb hr hml hts hown hlocks hnm hsz hP hK hVK hD hS hA hl
  have hown : s.vm.findClass RX2 = some m.cls := hown
  have hl : lv_has ls 5 [(0, .ref (b 7)), (1, .int (nI X)), (2, .int (nI j))] := hl
  have hP : va_P D vwCl ([kO b, cO b (nI n) (nI k), oQ (cY 2) (b 2) (rr 0) 6, gI (cY 0) (rr 0) 12 fG 6] : List va_W).flatten s.heap := hP
  have hD : va_D A ([kO b, cO b (nI n) (nI k), oQ (cY 2) (b 2) (rr 0) 6, gI (cY 0) (rr 0) 12 fG 6] : List va_W).flatten := hD
  refine lv_iconst (v := nI 0) hx hb dX2_setBehind_0 (by decide) ?_
  refine lv_istore_n (lv' := [(3, .int (nI 0)), (0, .ref (b 7)), (1, .int (nI X)), (2, .int (nI j))]) hx hb dX2_setBehind_1 rfl hl (by decide) rfl (fun ls hl => ?_)
  refine lv_iconst (v := nI 0) hx hb dX2_setBehind_2 (by decide) ?_
  refine lv_istore (lv' := [(4, .int (nI 0)), (3, .int (nI 0)), (0, .ref (b 7)), (1, .int (nI X)), (2, .int (nI j))]) hx hb dX2_setBehind_3 hl (by decide) rfl (fun ls hl => ?_)
  have L5 : ∀ q : Nat, q ≤ n →  ∀ (H : Heap) (locs : List Loc), va_P D vwCl ([kO b, cO b (nI n) (nI k), oQ (cY 2) (b 2) (rr 0) 6, gI (cY 0) (rr 0) 12 fG 6] : List va_W).flatten H → va_D A ([kO b, cO b (nI n) (nI k), oQ (cY 2) (b 2) (rr 0) 6, gI (cY 0) (rr 0) 12 fG 6] : List va_W).flatten → va_S A s.heap H locs → ∀ (ls : Array Slot), lv_has ls 5 [(0, .ref (b 7)), (1, .int (nI X)), (2, .int (nI j)), (3, .int (nI (img g j X q))), (4, .int (nI q))] → W p l e ({ frames := 0, cells := 0, slots := 0, locals := 0 }) s m ([.ref (b 7), .int (nI X), .int (nI j)] : List Value).toArray below meth c H locs 0 0 (MQ below (qI (S := Unit) D cY (fun r u => r = nI (img g j X n)) (fun u => [kO b, cO b (nI n) (nI k), oQ (cY 2) (b 2) (rr 0) 6, gI (cY 0) (rr 0) 12 fG 6]) A) ([.ref (b 7), .int (nI X), .int (nI j)] : List Value).toArray s 0 0 A) (F0 m 5 ls []) := by
    refine lpW n ?_
    intro q bdq ih5   H locs hP hD hS ls hl
    refine lv_iload hx hb dX2_setBehind_5 (lv_at hl 4 rfl) ?_
    refine lv_aload_n hx hb dX2_setBehind_7 rfl (lv_at hl 0 rfl) ?_
    refine b_get (ci := 2) (v := .ref (b 1)) (C := RX2) (T := TX2) (N := 3) hx hb hts (by decide +kernel) hown hK hP 0 rfl rfl 0 (by decide) (hts (.fieldLink RX2 9 "ChanceHall$Crowds" "chain" "LChanceHall$Chain;") (by decide +kernel)) (fun _ h9 => h9) rfl dX2_setBehind_8 ?_
    refine b_get (ci := 0) (v := .int (nI n)) (C := RX0) (T := TX0) (N := 4) hx hb hts (by decide +kernel) hown hK hP 1 rfl rfl 0 (by decide) (hts (.fieldLink RX2 23 "ChanceHall$Chain" "states" "I") (by decide +kernel)) (fun _ h9 => h9) rfl dX2_setBehind_11 ?_
    refine n_icmp_ge (tgt := 49) hx hb dX2_setBehind_14 (by decide) (by omega) (by omega) (fun h14 => ?_) (fun h14 => ?_)
    · -- t
      refine lv_iload_n hx hb dX2_setBehind_49 rfl (lv_at hl 3 rfl) ?_
      exact r_i hx hb hr hlocks hP hD hS () rfl (by (have e : q = n := by omega); subst e; rfl) dX2_setBehind_50
    · -- f
      refine lv_iload_n hx hb dX2_setBehind_17 rfl (lv_at hl 1 rfl) ?_
      refine lv_iconst (v := nI 1) hx hb dX2_setBehind_18 (by decide) ?_
      refine lv_iload hx hb dX2_setBehind_19 (lv_at hl 4 rfl) ?_
      refine lv_ishl hx hb dX2_setBehind_21 ?_
      refine eqi (x' := nI (2 ^ q)) (nI_shl1 (by omega)) ?_
      refine lv_iand hx hb dX2_setBehind_22 ?_
      refine eqi (x' := nI (X &&& (2 ^ q))) (nI_and _ _) ?_
      have han : X &&& 2 ^ q ≤ X := Nat.and_le_left
      refine n_if_eq (tgt := 43) hx hb dX2_setBehind_23 (by decide) (by omega) (fun h23 => ?_) (fun h23 => ?_)
      · -- t
        have hif : img g j X q = img g j X (q + 1) := img_f ((and_b0 q (by omega) X hX).mp h23)
        refine lv_iinc (v := nI (q + 1)) (lv' := [(4, .int (nI (q + 1))), (0, .ref (b 7)), (1, .int (nI X)), (2, .int (nI j)), (3, .int (nI (img g j X q)))]) hx hb dX2_setBehind_43 hl (k := 4) rfl (nI_1 q) (by decide) rfl (fun ls hl => ?_)
        refine lv_goto (tgt := 5) hx hb dX2_setBehind_46 (by decide) ?_
        exact ih5 (by omega)   _ _ hP hD hS _ (lv_sub hl [1, 2, 3, 4, 0] (by first | rfl | (rw [← hif]; rfl)))
      · -- f
        refine lv_iload_n hx hb dX2_setBehind_26 rfl (lv_at hl 3 rfl) ?_
        refine lv_iconst (v := nI 1) hx hb dX2_setBehind_27 (by decide) ?_
        refine lv_aload_n hx hb dX2_setBehind_28 rfl (lv_at hl 0 rfl) ?_
        refine b_get (ci := 2) (v := .ref (b 1)) (C := RX2) (T := TX2) (N := 3) hx hb hts (by decide +kernel) hown hK hP 0 rfl rfl 0 (by decide) (hts (.fieldLink RX2 9 "ChanceHall$Crowds" "chain" "LChanceHall$Chain;") (by decide +kernel)) (fun _ h9 => h9) rfl dX2_setBehind_29 ?_
        refine b_get (ci := 0) (v := .ref (b 2)) (C := RX0) (T := TX0) (N := 4) hx hb hts (by decide +kernel) hown hK hP 1 rfl rfl 2 (by decide) (hts (.fieldLink RX2 40 "ChanceHall$Chain" "goesTo" "[[I") (by decide +kernel)) (fun _ h9 => h9) rfl dX2_setBehind_32 ?_
        refine lv_iload hx hb dX2_setBehind_35 (lv_at hl 4 rfl) ?_
        refine g_aald hx hb hK hP 2 2 rfl rfl (by omega) (by decide) dX2_setBehind_37 ?_
        refine lv_iload_n hx hb dX2_setBehind_38 rfl (lv_at hl 2 rfl) ?_
        refine g_iald hx hb hK hP 3 0 rfl rfl (by omega) (by omega) (by decide) dX2_setBehind_39 ?_
        refine eqi (x' := nI (g q j)) (hG q j (by omega) hj) ?_
        have hgi := hgn q j (by omega) hj
        refine lv_ishl hx hb dX2_setBehind_40 ?_
        refine eqi (x' := nI (2 ^ (g q j))) (nI_shl1 (by omega)) ?_
        refine lv_ior hx hb dX2_setBehind_41 ?_
        refine eqi (x' := nI ((img g j X q) ||| (2 ^ (g q j)))) (nI_or _ _) ?_
        refine eqi (x' := nI (img g j X (q + 1))) (congrArg nI (img_t ((and_bt q (by omega) X hX).mp h23))) ?_
        refine lv_istore_n (lv' := [(3, .int (nI (img g j X (q + 1)))), (0, .ref (b 7)), (1, .int (nI X)), (2, .int (nI j)), (4, .int (nI q))]) hx hb dX2_setBehind_42 rfl hl (by decide) rfl (fun ls hl => ?_)
        refine lv_iinc (v := nI (q + 1)) (lv' := [(4, .int (nI (q + 1))), (3, .int (nI (img g j X (q + 1)))), (0, .ref (b 7)), (1, .int (nI X)), (2, .int (nI j))]) hx hb dX2_setBehind_43 hl (k := 4) rfl (nI_1 q) (by decide) rfl (fun ls hl => ?_)
        refine lv_goto (tgt := 5) hx hb dX2_setBehind_46 (by decide) ?_
        exact ih5 (by omega)   _ _ hP hD hS _ (lv_sub hl [2, 3, 4, 1, 0] (by first | rfl | (rw [← hif]; rfl)))
  exact L5 0 (by omega)   _ _ hP hD hS _ (lv_sub hl [2, 3, 4, 1, 0] rfl)

set_option maxHeartbeats 4000000 in
set_option maxRecDepth 100000 in
theorem c_X2_moveCrowds (l : Launch) (D : va_G) (cY : Nat → ClassId) (sz : Nat) (b : Nat → Nat) (rr : Nat → Nat → Nat) (n : Nat) (k : Nat) (fG : Nat → Nat → Int32) (g : Nat → Nat → Nat) (X : Nat) (v0 : Int64) (x2 : Nat) (f2 : Nat → Int64) (hn1 : 1 ≤ n) (hn6 : n ≤ 6) (hk1 : 1 ≤ k) (hk12 : k ≤ 12) (hG : ∀ i j, i < n → j < k → fG i j = nI (g i j)) (hgn : ∀ i j, i < n → j < k → g i j < n) (hX : X < 64) : Met l yX2_moveCrowds wsX2_moveCrowds ({ frames := 1, cells := 0, slots := 0, locals := 40 }) (cP D cY [.ref (b 7), .int (nI X), .long v0, .ref x2] [kO b, cO b (nI n) (nI k), oQ (cY 2) (b 2) (rr 0) 6, gI (cY 0) (rr 0) 12 fG 6, [(x2, .inl (cY 1, 64, .inr (.inl f2)))]] sz) (qV (S := (Nat → Int64)) D cY (fun u => MV g n X k v0 f2 u) (fun u => [kO b, cO b (nI n) (nI k), oQ (cY 2) (b 2) (rr 0) 6, gI (cY 0) (rr 0) 12 fG 6, [(x2, .inl (cY 1, 64, .inr (.inl u)))]]) (va_A ([kO b, cO b (nI n) (nI k), oQ (cY 2) (b 2) (rr 0) 6, gI (cY 0) (rr 0) 12 fG 6, [(x2, .inl (cY 1, 64, .inr (.inl f2)))]] : List va_W).flatten sz)) 0 0 (va_A ([kO b, cO b (nI n) (nI k), oQ (cY 2) (b 2) (rr 0) 6, gI (cY 0) (rr 0) 12 fG 6, [(x2, .inl (cY 1, 64, .inr (.inl f2)))]] : List va_W).flatten sz) := by
  refine mtB (Qc := fun A => qV (S := (Nat → Int64)) D cY (fun u => MV g n X k v0 f2 u) (fun u => [kO b, cO b (nI n) (nI k), oQ (cY 2) (b 2) (rr 0) 6, gI (cY 0) (rr 0) 12 fG 6, [(x2, .inl (cY 1, 64, .inr (.inl u)))]]) A) (cc := cX2_moveCrowds) (maxL := 6) (ret := none) (by decide) rfl (Nat.le_of_ble_eq_true rfl) ?_
  intro p e s m below meth c A ls hx hb hr hml hts hown hlocks hnm hsz hP hK hVK hD hS hA hl
  have hown : s.vm.findClass RX2 = some m.cls := hown
  have hl : lv_has ls 6 [(0, .ref (b 7)), (1, .int (nI X)), (2, .long v0), (4, .ref x2)] := hl
  have hP : va_P D vwCl ([kO b, cO b (nI n) (nI k), oQ (cY 2) (b 2) (rr 0) 6, gI (cY 0) (rr 0) 12 fG 6, [(x2, .inl (cY 1, 64, .inr (.inl f2)))]] : List va_W).flatten s.heap := hP
  have hD : va_D A ([kO b, cO b (nI n) (nI k), oQ (cY 2) (b 2) (rr 0) 6, gI (cY 0) (rr 0) 12 fG 6, [(x2, .inl (cY 1, 64, .inr (.inl f2)))]] : List va_W).flatten := hD
  refine lv_lload_n hx hb dX2_moveCrowds_0 rfl (lv_at hl 2 rfl) ?_
  refine lv_lconst (v := lN 0) hx hb dX2_moveCrowds_1 (by decide) ?_
  refine W.lcmp hx hb dX2_moveCrowds_2 ?_
  refine l_if_ne (tgt := 7) hx hb dX2_moveCrowds_3 (by decide) (fun h3 => ?_) (fun h3 => ?_)
  · -- t
    refine lv_iconst (v := nI 0) hx hb dX2_moveCrowds_7 (by decide) ?_
    refine lv_istore (lv' := [(5, .int (nI 0)), (0, .ref (b 7)), (1, .int (nI X)), (2, .long v0), (4, .ref x2)]) hx hb dX2_moveCrowds_8 hl (by decide) rfl (fun ls hl => ?_)
    have L10 : ∀ q : Nat, q ≤ k → ∀ (fX : Nat → Int64), (MV g n X q v0 f2 fX) → ∀ (H : Heap) (locs : List Loc), va_P D vwCl ([kO b, cO b (nI n) (nI k), oQ (cY 2) (b 2) (rr 0) 6, gI (cY 0) (rr 0) 12 fG 6, [(x2, .inl (cY 1, 64, .inr (.inl fX)))]] : List va_W).flatten H → va_D A ([kO b, cO b (nI n) (nI k), oQ (cY 2) (b 2) (rr 0) 6, gI (cY 0) (rr 0) 12 fG 6, [(x2, .inl (cY 1, 64, .inr (.inl fX)))]] : List va_W).flatten → va_S A s.heap H locs → ∀ (ls : Array Slot), lv_has ls 6 [(0, .ref (b 7)), (1, .int (nI X)), (2, .long v0), (4, .ref x2), (5, .int (nI q))] → W p l e ({ frames := 1, cells := 0, slots := 0, locals := 40 }) s m ([.ref (b 7), .int (nI X), .long v0, .ref x2] : List Value).toArray below meth c H locs 0 0 (MQ below (qV (S := (Nat → Int64)) D cY (fun u => MV g n X k v0 f2 u) (fun u => [kO b, cO b (nI n) (nI k), oQ (cY 2) (b 2) (rr 0) 6, gI (cY 0) (rr 0) 12 fG 6, [(x2, .inl (cY 1, 64, .inr (.inl u)))]]) A) ([.ref (b 7), .int (nI X), .long v0, .ref x2] : List Value).toArray s 0 0 A) (F0 m 10 ls []) := by
      refine lpW k ?_
      intro q bdq ih10 fX hI H locs hP hD hS ls hl
      refine lv_iload hx hb dX2_moveCrowds_10 (lv_at hl 4 rfl) ?_
      refine lv_aload_n hx hb dX2_moveCrowds_12 rfl (lv_at hl 0 rfl) ?_
      refine b_get (ci := 2) (v := .ref (b 1)) (C := RX2) (T := TX2) (N := 3) hx hb hts (by decide +kernel) hown hK hP 0 rfl rfl 0 (by decide) (hts (.fieldLink RX2 9 "ChanceHall$Crowds" "chain" "LChanceHall$Chain;") (by decide +kernel)) (fun _ h9 => h9) rfl dX2_moveCrowds_13 ?_
      refine b_get (ci := 0) (v := .int (nI k)) (C := RX0) (T := TX0) (N := 4) hx hb hts (by decide +kernel) hown hK hP 1 rfl rfl 1 (by decide) (hts (.fieldLink RX2 37 "ChanceHall$Chain" "slots" "I") (by decide +kernel)) (fun _ h9 => h9) rfl dX2_moveCrowds_16 ?_
      refine n_icmp_ge (tgt := 42) hx hb dX2_moveCrowds_19 (by decide) (by omega) (by omega) (fun h19 => ?_) (fun h19 => ?_)
      · -- t
        exact r_v hx hb hr hlocks hP hD hS fX rfl (by (have e : q = k := by omega); rw [e] at hI; exact hI) dX2_moveCrowds_42
      · -- f
        refine lv_aload hx hb dX2_moveCrowds_22 (lv_at hl 3 rfl) ?_
        refine lv_aload_n hx hb dX2_moveCrowds_24 rfl (lv_at hl 0 rfl) ?_
        refine lv_iload_n hx hb dX2_moveCrowds_25 rfl (lv_at hl 1 rfl) ?_
        refine lv_iload hx hb dX2_moveCrowds_26 (lv_at hl 4 rfl) ?_
        refine ca_i (CL := [kO b, cO b (nI n) (nI k), oQ (cY 2) (b 2) (rr 0) 6, gI (cY 0) (rr 0) 12 fG 6]) (va_runV (As := [.int (nI X), .int (nI q)]) (rest := [.ref x2]) ⟨hx, hb, hml, hown, hts⟩ (c_X2_setBehind l D cY H.size b rr n k fG g X q (by omega) (by omega) (by omega) (by omega) hG hgn (by omega) (by omega)) (cwV 2 hts gX2_moveCrowds_X2_setBehind rfl rfl rfl (by decide +kernel) ⟨Nat.le_of_ble_eq_true rfl, Nat.le_of_ble_eq_true rfl⟩) (b_preV hVK hP hD [0, 1, 2, 3] rfl rfl 0 rfl rfl) rfl rfl hl.1 rfl (lv_room (Nat.le_of_ble_eq_true rfl)) dX2_moveCrowds_28 ⟨Nat.le_refl _, Nat.le_refl _⟩) hP hD hS hA [0, 1, 2, 3] rfl rfl (fun _ => rfl) (fun r28 uu H locs hq hP hD hS => ?_)
        subst hq
        have hP : va_P D vwCl ([kO b, cO b (nI n) (nI k), oQ (cY 2) (b 2) (rr 0) 6, gI (cY 0) (rr 0) 12 fG 6, [(x2, .inl (cY 1, 64, .inr (.inl fX)))]] : List va_W).flatten H := hP
        have hD : va_D A ([kO b, cO b (nI n) (nI k), oQ (cY 2) (b 2) (rr 0) 6, gI (cY 0) (rr 0) 12 fG 6, [(x2, .inl (cY 1, 64, .inr (.inl fX)))]] : List va_W).flatten := hD
        have hig : ig g n X q < 64 := ig_lt hgn hn6 (by omega)
        have hig2 : img g q X n < 64 := hig
        refine lv_dup2_11 hx hb dX2_moveCrowds_31 rfl rfl ?_
        refine b_lald hx hb hK hP 4 1 rfl rfl (by omega) (by decide) dX2_moveCrowds_32 ?_
        refine lv_lload_n hx hb dX2_moveCrowds_33 rfl (lv_at hl 2 rfl) ?_
        refine lv_ladd hx hb dX2_moveCrowds_34 ?_
        refine b_last hx hb hK hP hD hS 4 1 rfl rfl (by omega) (by decide) dX2_moveCrowds_35 (fun H locs hP hD hS => ?_)
        have hP : va_P D vwCl ([kO b, cO b (nI n) (nI k), oQ (cY 2) (b 2) (rr 0) 6, gI (cY 0) (rr 0) 12 fG 6, [(x2, .inl (cY 1, 64, .inr (.inl (vp_updL fX (img g q X n) ((fX (img g q X n)) + v0)))))]] : List va_W).flatten H := hP
        have hD : va_D A ([kO b, cO b (nI n) (nI k), oQ (cY 2) (b 2) (rr 0) 6, gI (cY 0) (rr 0) 12 fG 6, [(x2, .inl (cY 1, 64, .inr (.inl (vp_updL fX (img g q X n) ((fX (img g q X n)) + v0)))))]] : List va_W).flatten := hD
        refine lv_iinc (v := nI (q + 1)) (lv' := [(5, .int (nI (q + 1))), (0, .ref (b 7)), (1, .int (nI X)), (2, .long v0), (4, .ref x2)]) hx hb dX2_moveCrowds_36 hl (k := 4) rfl (nI_1 q) (by decide) rfl (fun ls hl => ?_)
        refine lv_goto (tgt := 10) hx hb dX2_moveCrowds_39 (by decide) ?_
        exact ih10 (by omega) (vp_updL fX (img g q X n) ((fX (img g q X n)) + v0)) (MV_s hI hig) _ _ hP hD hS _ (lv_sub hl [1, 2, 3, 4, 0] rfl)
    exact L10 0 (by omega) f2 MV_0 _ _ hP hD hS _ (lv_sub hl [1, 2, 3, 4, 0] rfl)
  · -- f
    exact r_v hx hb hr hlocks hP hD hS f2 rfl (MV_z h3) dX2_moveCrowds_6

set_option maxHeartbeats 4000000 in
set_option maxRecDepth 100000 in
theorem c_X2_countTogether (l : Launch) (D : va_G) (cY : Nat → ClassId) (sz : Nat) (b : Nat → Nat) (rr : Nat → Nat → Nat) (n : Nat) (k : Nat) (fG : Nat → Nat → Int32) (fS : Nat → Nat → Int64) (g : Nat → Nat → Nat) (t : Nat) (w : Nat) (hn1 : 1 ≤ n) (hn6 : n ≤ 6) (hk1 : 1 ≤ k) (hk12 : k ≤ 12) (hG : ∀ i j, i < n → j < k → fG i j = nI (g i j)) (hgn : ∀ i j, i < n → j < k → g i j < n) (ht : t ≤ 12) (hw : w < n) : Met l yX2_countTogether wsX2_countTogether ({ frames := 2, cells := 0, slots := 0, locals := 80 }) (cP D cY [.ref (b 7), .int (nI t), .int (nI w)] [kO b, cO b (nI n) (nI k), oQ (cY 2) (b 2) (rr 0) 6, gI (cY 0) (rr 0) 12 fG 6, oQ (cY 3) (b 9) (rr 5) 13, gJ (cY 1) (rr 5) 64 fS 13] sz) (qL (S := (Nat → Nat → Int64)) D cY (fun r u => r = lN (PL (ig g n) 64 k (2 ^ n - 1) t (2 ^ w))) (fun u => [kO b, cO b (nI n) (nI k), oQ (cY 2) (b 2) (rr 0) 6, gI (cY 0) (rr 0) 12 fG 6, oQ (cY 3) (b 9) (rr 5) 13, gJ (cY 1) (rr 5) 64 u 13]) (va_A ([kO b, cO b (nI n) (nI k), oQ (cY 2) (b 2) (rr 0) 6, gI (cY 0) (rr 0) 12 fG 6, oQ (cY 3) (b 9) (rr 5) 13, gJ (cY 1) (rr 5) 64 fS 13] : List va_W).flatten sz)) 0 0 (va_A ([kO b, cO b (nI n) (nI k), oQ (cY 2) (b 2) (rr 0) 6, gI (cY 0) (rr 0) 12 fG 6, oQ (cY 3) (b 9) (rr 5) 13, gJ (cY 1) (rr 5) 64 fS 13] : List va_W).flatten sz) := by
  refine mtB (Qc := fun A => qL (S := (Nat → Nat → Int64)) D cY (fun r u => r = lN (PL (ig g n) 64 k (2 ^ n - 1) t (2 ^ w))) (fun u => [kO b, cO b (nI n) (nI k), oQ (cY 2) (b 2) (rr 0) 6, gI (cY 0) (rr 0) 12 fG 6, oQ (cY 3) (b 9) (rr 5) 13, gJ (cY 1) (rr 5) 64 u 13]) A) (cc := cX2_countTogether) (maxL := 6) (ret := (some .long)) (by decide) rfl (Nat.le_of_ble_eq_true rfl) ?_
  intro p e s m below meth c A ls hx hb hr hml hts hown hlocks hnm hsz hP hK hVK hD hS hA hl
  have hown : s.vm.findClass RX2 = some m.cls := hown
  have hl : lv_has ls 6 [(0, .ref (b 7)), (1, .int (nI t)), (2, .int (nI w))] := hl
  have hP : va_P D vwCl ([kO b, cO b (nI n) (nI k), oQ (cY 2) (b 2) (rr 0) 6, gI (cY 0) (rr 0) 12 fG 6, oQ (cY 3) (b 9) (rr 5) 13, gJ (cY 1) (rr 5) 64 fS 13] : List va_W).flatten s.heap := hP
  have hD : va_D A ([kO b, cO b (nI n) (nI k), oQ (cY 2) (b 2) (rr 0) 6, gI (cY 0) (rr 0) 12 fG 6, oQ (cY 3) (b 9) (rr 5) 13, gJ (cY 1) (rr 5) 64 fS 13] : List va_W).flatten := hD
  have h2n : 2 ^ n ≤ 64 := Nat.le_trans (Nat.pow_le_pow_right (by decide) hn6) (by decide)
  have h2m : 1 ≤ 2 ^ n := Nat.one_le_two_pow
  have h2b : 2 ^ w < 64 := pow64 hw hn6
  refine lv_iconst (v := nI 1) hx hb dX2_countTogether_0 (by decide) ?_
  refine lv_aload_n hx hb dX2_countTogether_1 rfl (lv_at hl 0 rfl) ?_
  refine b_get (ci := 2) (v := .ref (b 1)) (C := RX2) (T := TX2) (N := 3) hx hb hts (by decide +kernel) hown hK hP 0 rfl rfl 0 (by decide) (hts (.fieldLink RX2 9 "ChanceHall$Crowds" "chain" "LChanceHall$Chain;") (by decide +kernel)) (fun _ h9 => h9) rfl dX2_countTogether_2 ?_
  refine b_get (ci := 0) (v := .int (nI n)) (C := RX0) (T := TX0) (N := 4) hx hb hts (by decide +kernel) hown hK hP 1 rfl rfl 0 (by decide) (hts (.fieldLink RX2 23 "ChanceHall$Chain" "states" "I") (by decide +kernel)) (fun _ h9 => h9) rfl dX2_countTogether_5 ?_
  refine lv_ishl hx hb dX2_countTogether_8 ?_
  refine eqi (x' := nI (2 ^ n)) (nI_shl1 (by omega)) ?_
  refine lv_iconst (v := nI 1) hx hb dX2_countTogether_9 (by decide) ?_
  refine lv_isub hx hb dX2_countTogether_10 ?_
  refine eqi (x' := nI ((2 ^ n) - 1)) (pk_sub (by omega)) ?_
  refine lv_istore_n (lv' := [(3, .int (nI ((2 ^ n) - 1))), (0, .ref (b 7)), (1, .int (nI t)), (2, .int (nI w))]) hx hb dX2_countTogether_11 rfl hl (by decide) rfl (fun ls hl => ?_)
  refine lv_aload_n hx hb dX2_countTogether_12 rfl (lv_at hl 1 rfl) ?_
  refine b_get (ci := 2) (v := .ref (b 9)) (C := RX2) (T := TX2) (N := 3) hx hb hts (by decide +kernel) hown hK hP 0 rfl rfl 2 (by decide) (hts (.fieldLink RX2 20 "ChanceHall$Crowds" "setRows" "[[J") (by decide +kernel)) (fun _ h9 => h9) rfl dX2_countTogether_13 ?_
  refine lv_iconst (v := nI 0) hx hb dX2_countTogether_16 (by decide) ?_
  refine g_aald hx hb hK hP 4 3 rfl rfl (by omega) (by decide) dX2_countTogether_17 ?_
  refine lv_lconst (v := lN 0) hx hb dX2_countTogether_18 (by decide) ?_
  obtain ⟨X_1, hP, hD, hbk2s, hbk2⟩ := g_outJ hP hD (b := 5) rfl (j := 0) (by omega)
  have hP : va_P D vwCl ([kO b, cO b (nI n) (nI k), oQ (cY 2) (b 2) (rr 0) 6, gI (cY 0) (rr 0) 12 fG 6, oQ (cY 3) (b 9) (rr 5) 13, X_1, [(rr 5 0, .inl (cY 1, 64, .inr (.inl (fS 0))))]] : List va_W).flatten s.heap := hP
  have hD : va_D A ([kO b, cO b (nI n) (nI k), oQ (cY 2) (b 2) (rr 0) 6, gI (cY 0) (rr 0) 12 fG 6, oQ (cY 3) (b 9) (rr 5) 13, X_1, [(rr 5 0, .inl (cY 1, 64, .inr (.inl (fS 0))))]] : List va_W).flatten := hD
  refine ca_v (CL := [[(rr 5 0, .inl (cY 1, 64, .inr (.inl (fS 0))))]]) (va_runS (As := [.ref (rr 5 0), .long (lN 0)]) (rest := []) ⟨hx, hb, hml, hown, hts⟩ (c_J7_fill_d0a16 l D cY s.heap.size (rr 5 0) 64 (fS 0) (lN 0) (by omega)) (va_cwS 2 hts gX2_countTogether_J7_fill_d0a16 rfl rfl rfl (by decide +kernel) ⟨Nat.le_of_ble_eq_true rfl, Nat.le_of_ble_eq_true rfl⟩) (b_preS hVK hP hD [6] rfl rfl) rfl rfl hl.1 rfl (lv_room (Nat.le_of_ble_eq_true rfl)) dX2_countTogether_19 ⟨Nat.le_refl _, Nat.le_refl _⟩) hP hD hS hA [6] rfl rfl (fun _ => rfl) (fun uu H locs hq hP hD hS => ?_)
  obtain ⟨f1_3, rfl⟩ : ∃ z, z = uu := ⟨_, rfl⟩
  try dsimp only at hq
  have q19 := hq
  have hP : va_P D vwCl ([kO b, cO b (nI n) (nI k), oQ (cY 2) (b 2) (rr 0) 6, gI (cY 0) (rr 0) 12 fG 6, oQ (cY 3) (b 9) (rr 5) 13, X_1, [(rr 5 0, .inl (cY 1, 64, .inr (.inl f1_3)))]] : List va_W).flatten H := hP
  have hD : va_D A ([kO b, cO b (nI n) (nI k), oQ (cY 2) (b 2) (rr 0) 6, gI (cY 0) (rr 0) 12 fG 6, oQ (cY 3) (b 9) (rr 5) 13, X_1, [(rr 5 0, .inl (cY 1, 64, .inr (.inl f1_3)))]] : List va_W).flatten := hD
  obtain ⟨hP, hD⟩ := hbk2 _ _ hP hD
  have hP : va_P D vwCl ([kO b, cO b (nI n) (nI k), oQ (cY 2) (b 2) (rr 0) 6, gI (cY 0) (rr 0) 12 fG 6, oQ (cY 3) (b 9) (rr 5) 13, gJ (cY 1) (rr 5) 64 (va_up fS 0 f1_3) 13] : List va_W).flatten H := hP
  have hD : va_D A ([kO b, cO b (nI n) (nI k), oQ (cY 2) (b 2) (rr 0) 6, gI (cY 0) (rr 0) 12 fG 6, oQ (cY 3) (b 9) (rr 5) 13, gJ (cY 1) (rr 5) 64 (va_up fS 0 f1_3) 13] : List va_W).flatten := hD
  refine lv_aload_n hx hb dX2_countTogether_22 rfl (lv_at hl 1 rfl) ?_
  refine b_get (ci := 2) (v := .ref (b 9)) (C := RX2) (T := TX2) (N := 3) hx hb hts (by decide +kernel) hown hK hP 0 rfl rfl 2 (by decide) (hts (.fieldLink RX2 20 "ChanceHall$Crowds" "setRows" "[[J") (by decide +kernel)) (fun _ h9 => h9) rfl dX2_countTogether_23 ?_
  refine lv_iconst (v := nI 0) hx hb dX2_countTogether_26 (by decide) ?_
  refine g_aald hx hb hK hP 4 3 rfl rfl (by omega) (by decide) dX2_countTogether_27 ?_
  refine lv_iload_n hx hb dX2_countTogether_28 rfl (lv_at hl 0 rfl) ?_
  refine lv_lconst (v := lN 1) hx hb dX2_countTogether_29 (by decide) ?_
  refine g_last hx hb hK hP hD hS 5 1 rfl rfl (by omega) (by omega) (by decide) dX2_countTogether_30 (fun H locs hP hD hS => ?_)
  have hP : va_P D vwCl ([kO b, cO b (nI n) (nI k), oQ (cY 2) (b 2) (rr 0) 6, gI (cY 0) (rr 0) 12 fG 6, oQ (cY 3) (b 9) (rr 5) 13, gJ (cY 1) (rr 5) 64 (va_up (va_up fS 0 f1_3) 0 (vp_updL ((va_up fS 0 f1_3) 0) ((2 ^ n) - 1) (lN 1))) 13] : List va_W).flatten H := hP
  have hD : va_D A ([kO b, cO b (nI n) (nI k), oQ (cY 2) (b 2) (rr 0) 6, gI (cY 0) (rr 0) 12 fG 6, oQ (cY 3) (b 9) (rr 5) 13, gJ (cY 1) (rr 5) 64 (va_up (va_up fS 0 f1_3) 0 (vp_updL ((va_up fS 0 f1_3) 0) ((2 ^ n) - 1) (lN 1))) 13] : List va_W).flatten := hD
  refine lv_iconst (v := nI 1) hx hb dX2_countTogether_31 (by decide) ?_
  refine lv_istore (lv' := [(4, .int (nI 1)), (3, .int (nI ((2 ^ n) - 1))), (0, .ref (b 7)), (1, .int (nI t)), (2, .int (nI w))]) hx hb dX2_countTogether_32 hl (by decide) rfl (fun ls hl => ?_)
  have L34 : ∀ u : Nat, u ≤ t → ∀ (gS : Nat → Nat → Int64), (∀ Y, Y < 64 → gS u Y = lN (PL (ig g n) 64 k (2 ^ n - 1) u Y)) → ∀ (H : Heap) (locs : List Loc), va_P D vwCl ([kO b, cO b (nI n) (nI k), oQ (cY 2) (b 2) (rr 0) 6, gI (cY 0) (rr 0) 12 fG 6, oQ (cY 3) (b 9) (rr 5) 13, gJ (cY 1) (rr 5) 64 gS 13] : List va_W).flatten H → va_D A ([kO b, cO b (nI n) (nI k), oQ (cY 2) (b 2) (rr 0) 6, gI (cY 0) (rr 0) 12 fG 6, oQ (cY 3) (b 9) (rr 5) 13, gJ (cY 1) (rr 5) 64 gS 13] : List va_W).flatten → va_S A s.heap H locs → ∀ (ls : Array Slot), lv_has ls 6 [(0, .ref (b 7)), (1, .int (nI t)), (2, .int (nI w)), (3, .int (nI ((2 ^ n) - 1))), (4, .int (nI (u + 1)))] → W p l e ({ frames := 2, cells := 0, slots := 0, locals := 80 }) s m ([.ref (b 7), .int (nI t), .int (nI w)] : List Value).toArray below meth c H locs 0 0 (MQ below (qL (S := (Nat → Nat → Int64)) D cY (fun r u => r = lN (PL (ig g n) 64 k (2 ^ n - 1) t (2 ^ w))) (fun u => [kO b, cO b (nI n) (nI k), oQ (cY 2) (b 2) (rr 0) 6, gI (cY 0) (rr 0) 12 fG 6, oQ (cY 3) (b 9) (rr 5) 13, gJ (cY 1) (rr 5) 64 u 13]) A) ([.ref (b 7), .int (nI t), .int (nI w)] : List Value).toArray s 0 0 A) (F0 m 34 ls []) := by
    refine lpW t ?_
    intro u bdu ih34 gS hI H locs hP hD hS ls hl
    refine lv_iload hx hb dX2_countTogether_34 (lv_at hl 4 rfl) ?_
    refine lv_iload_n hx hb dX2_countTogether_36 rfl (lv_at hl 1 rfl) ?_
    refine n_icmp_gt (tgt := 97) hx hb dX2_countTogether_37 (by decide) (by omega) (by omega) (fun h37 => ?_) (fun h37 => ?_)
    · -- t
      refine lv_aload_n hx hb dX2_countTogether_97 rfl (lv_at hl 0 rfl) ?_
      refine b_get (ci := 2) (v := .ref (b 9)) (C := RX2) (T := TX2) (N := 3) hx hb hts (by decide +kernel) hown hK hP 0 rfl rfl 2 (by decide) (hts (.fieldLink RX2 20 "ChanceHall$Crowds" "setRows" "[[J") (by decide +kernel)) (fun _ h9 => h9) rfl dX2_countTogether_98 ?_
      refine lv_iload_n hx hb dX2_countTogether_101 rfl (lv_at hl 1 rfl) ?_
      refine g_aald hx hb hK hP 4 3 rfl rfl (by omega) (by decide) dX2_countTogether_102 ?_
      refine lv_iconst (v := nI 1) hx hb dX2_countTogether_103 (by decide) ?_
      refine lv_iload_n hx hb dX2_countTogether_104 rfl (lv_at hl 2 rfl) ?_
      refine lv_ishl hx hb dX2_countTogether_105 ?_
      refine eqi (x' := nI (2 ^ w)) (nI_shl1 (by omega)) ?_
      refine g_lald hx hb hK hP 5 1 rfl rfl (by omega) (by omega) (by decide) dX2_countTogether_106 ?_
      exact r_l hx hb hr hlocks hP hD hS gS rfl (by (have e : u = t := by omega); rw [e] at hI; exact hI _ h2b) dX2_countTogether_107
    · -- f
      refine lv_aload_n hx hb dX2_countTogether_40 rfl (lv_at hl 0 rfl) ?_
      refine b_get (ci := 2) (v := .ref (b 9)) (C := RX2) (T := TX2) (N := 3) hx hb hts (by decide +kernel) hown hK hP 0 rfl rfl 2 (by decide) (hts (.fieldLink RX2 20 "ChanceHall$Crowds" "setRows" "[[J") (by decide +kernel)) (fun _ h9 => h9) rfl dX2_countTogether_41 ?_
      refine lv_iload hx hb dX2_countTogether_44 (lv_at hl 4 rfl) ?_
      refine g_aald hx hb hK hP 4 3 rfl rfl (by omega) (by decide) dX2_countTogether_46 ?_
      refine lv_lconst (v := lN 0) hx hb dX2_countTogether_47 (by decide) ?_
      obtain ⟨X_4, hP, hD, hbk5s, hbk5⟩ := g_outJ hP hD (b := 5) rfl (j := u + 1) (by omega)
      have hP : va_P D vwCl ([kO b, cO b (nI n) (nI k), oQ (cY 2) (b 2) (rr 0) 6, gI (cY 0) (rr 0) 12 fG 6, oQ (cY 3) (b 9) (rr 5) 13, X_4, [(rr 5 (u + 1), .inl (cY 1, 64, .inr (.inl (gS (u + 1)))))]] : List va_W).flatten H := hP
      have hD : va_D A ([kO b, cO b (nI n) (nI k), oQ (cY 2) (b 2) (rr 0) 6, gI (cY 0) (rr 0) 12 fG 6, oQ (cY 3) (b 9) (rr 5) 13, X_4, [(rr 5 (u + 1), .inl (cY 1, 64, .inr (.inl (gS (u + 1)))))]] : List va_W).flatten := hD
      refine ca_v (CL := [[(rr 5 (u + 1), .inl (cY 1, 64, .inr (.inl (gS (u + 1)))))]]) (va_runS (As := [.ref (rr 5 (u + 1)), .long (lN 0)]) (rest := []) ⟨hx, hb, hml, hown, hts⟩ (c_J7_fill_d0a16 l D cY H.size (rr 5 (u + 1)) 64 (gS (u + 1)) (lN 0) (by omega)) (va_cwS 2 hts gX2_countTogether_J7_fill_d0a16 rfl rfl rfl (by decide +kernel) ⟨Nat.le_of_ble_eq_true rfl, Nat.le_of_ble_eq_true rfl⟩) (b_preS hVK hP hD [6] rfl rfl) rfl rfl hl.1 rfl (lv_room (Nat.le_of_ble_eq_true rfl)) dX2_countTogether_48 ⟨Nat.le_refl _, Nat.le_refl _⟩) hP hD hS hA [6] rfl rfl (fun _ => rfl) (fun uu H locs hq hP hD hS => ?_)
      obtain ⟨f1_6, rfl⟩ : ∃ z, z = uu := ⟨_, rfl⟩
      try dsimp only at hq
      have q48 := hq
      have hP : va_P D vwCl ([kO b, cO b (nI n) (nI k), oQ (cY 2) (b 2) (rr 0) 6, gI (cY 0) (rr 0) 12 fG 6, oQ (cY 3) (b 9) (rr 5) 13, X_4, [(rr 5 (u + 1), .inl (cY 1, 64, .inr (.inl f1_6)))]] : List va_W).flatten H := hP
      have hD : va_D A ([kO b, cO b (nI n) (nI k), oQ (cY 2) (b 2) (rr 0) 6, gI (cY 0) (rr 0) 12 fG 6, oQ (cY 3) (b 9) (rr 5) 13, X_4, [(rr 5 (u + 1), .inl (cY 1, 64, .inr (.inl f1_6)))]] : List va_W).flatten := hD
      obtain ⟨hP, hD⟩ := hbk5 _ _ hP hD
      have hP : va_P D vwCl ([kO b, cO b (nI n) (nI k), oQ (cY 2) (b 2) (rr 0) 6, gI (cY 0) (rr 0) 12 fG 6, oQ (cY 3) (b 9) (rr 5) 13, gJ (cY 1) (rr 5) 64 (va_up gS (u + 1) f1_6) 13] : List va_W).flatten H := hP
      have hD : va_D A ([kO b, cO b (nI n) (nI k), oQ (cY 2) (b 2) (rr 0) 6, gI (cY 0) (rr 0) 12 fG 6, oQ (cY 3) (b 9) (rr 5) 13, gJ (cY 1) (rr 5) 64 (va_up gS (u + 1) f1_6) 13] : List va_W).flatten := hD
      refine lv_iconst (v := nI 1) hx hb dX2_countTogether_51 (by decide) ?_
      refine lv_istore (lv' := [(5, .int (nI 1)), (0, .ref (b 7)), (1, .int (nI t)), (2, .int (nI w)), (3, .int (nI ((2 ^ n) - 1))), (4, .int (nI (u + 1)))]) hx hb dX2_countTogether_52 hl (by decide) rfl (fun ls hl => ?_)
      have L54 : ∀ X : Nat, X ≤ 2 ^ n → ∀ (gS2 : Nat → Nat → Int64), (RI (PL (ig g n) 64 k (2 ^ n - 1) u) (ig g n) k 64 X 0 (gS2 (u + 1)) ∧ ∀ Y, Y < 64 → gS2 u Y = lN (PL (ig g n) 64 k (2 ^ n - 1) u Y)) → ∀ (H : Heap) (locs : List Loc), va_P D vwCl ([kO b, cO b (nI n) (nI k), oQ (cY 2) (b 2) (rr 0) 6, gI (cY 0) (rr 0) 12 fG 6, oQ (cY 3) (b 9) (rr 5) 13, gJ (cY 1) (rr 5) 64 gS2 13] : List va_W).flatten H → va_D A ([kO b, cO b (nI n) (nI k), oQ (cY 2) (b 2) (rr 0) 6, gI (cY 0) (rr 0) 12 fG 6, oQ (cY 3) (b 9) (rr 5) 13, gJ (cY 1) (rr 5) 64 gS2 13] : List va_W).flatten → va_S A s.heap H locs → ∀ (ls : Array Slot), lv_has ls 6 [(0, .ref (b 7)), (1, .int (nI t)), (2, .int (nI w)), (3, .int (nI ((2 ^ n) - 1))), (4, .int (nI (u + 1))), (5, .int (nI X))] → W p l e ({ frames := 2, cells := 0, slots := 0, locals := 80 }) s m ([.ref (b 7), .int (nI t), .int (nI w)] : List Value).toArray below meth c H locs 0 0 (MQ below (qL (S := (Nat → Nat → Int64)) D cY (fun r u => r = lN (PL (ig g n) 64 k (2 ^ n - 1) t (2 ^ w))) (fun u => [kO b, cO b (nI n) (nI k), oQ (cY 2) (b 2) (rr 0) 6, gI (cY 0) (rr 0) 12 fG 6, oQ (cY 3) (b 9) (rr 5) 13, gJ (cY 1) (rr 5) 64 u 13]) A) ([.ref (b 7), .int (nI t), .int (nI w)] : List Value).toArray s 0 0 A) (F0 m 54 ls []) := by
        refine lpW (2 ^ n) ?_
        intro X bdX ih54 gS2 hJ H locs hP hD hS ls hl
        refine lv_iload hx hb dX2_countTogether_54 (lv_at hl 5 rfl) ?_
        refine lv_iload_n hx hb dX2_countTogether_56 rfl (lv_at hl 3 rfl) ?_
        refine n_icmp_gt (tgt := 91) hx hb dX2_countTogether_57 (by decide) (by omega) (by omega) (fun h57 => ?_) (fun h57 => ?_)
        · -- t
          refine lv_iinc (v := nI (u + 1 + 1)) (lv' := [(4, .int (nI (u + 1 + 1))), (0, .ref (b 7)), (1, .int (nI t)), (2, .int (nI w)), (3, .int (nI ((2 ^ n) - 1))), (5, .int (nI X))]) hx hb dX2_countTogether_91 hl (k := 4) rfl (nI_1 (u + 1)) (by decide) rfl (fun ls hl => ?_)
          refine lv_goto (tgt := 34) hx hb dX2_countTogether_94 (by decide) ?_
          exact ih34 (by omega) gS2 (TS_e hgn hn1 hn6 h2n (by (have e : X = 2 ^ n := by omega); rw [← e]; rw [e]; rw [e] at hJ; exact hJ.1)) _ _ hP hD hS _ (lv_sub hl [1, 2, 3, 4, 0] rfl)
        · -- f
          refine lv_aload_n hx hb dX2_countTogether_60 rfl (lv_at hl 0 rfl) ?_
          refine lv_iload hx hb dX2_countTogether_61 (lv_at hl 5 rfl) ?_
          refine lv_aload_n hx hb dX2_countTogether_63 rfl (lv_at hl 0 rfl) ?_
          refine b_get (ci := 2) (v := .ref (b 9)) (C := RX2) (T := TX2) (N := 3) hx hb hts (by decide +kernel) hown hK hP 0 rfl rfl 2 (by decide) (hts (.fieldLink RX2 20 "ChanceHall$Crowds" "setRows" "[[J") (by decide +kernel)) (fun _ h9 => h9) rfl dX2_countTogether_64 ?_
          refine lv_iload hx hb dX2_countTogether_67 (lv_at hl 4 rfl) ?_
          refine lv_iconst (v := nI 1) hx hb dX2_countTogether_69 (by decide) ?_
          refine lv_isub hx hb dX2_countTogether_70 ?_
          refine eqi (x' := nI ((u + 1) - 1)) (pk_sub (by omega)) ?_
          refine eqi (x' := nI u) (rfl) ?_
          refine g_aald hx hb hK hP 4 3 rfl rfl (by omega) (by decide) dX2_countTogether_71 ?_
          refine lv_iload hx hb dX2_countTogether_72 (lv_at hl 5 rfl) ?_
          refine g_lald hx hb hK hP 5 1 rfl rfl (by omega) (by omega) (by decide) dX2_countTogether_74 ?_
          refine eql (x' := lN (PL (ig g n) 64 k (2 ^ n - 1) u X)) (hJ.2 X (by omega)) ?_
          refine lv_aload_n hx hb dX2_countTogether_75 rfl (lv_at hl 0 rfl) ?_
          refine b_get (ci := 2) (v := .ref (b 9)) (C := RX2) (T := TX2) (N := 3) hx hb hts (by decide +kernel) hown hK hP 0 rfl rfl 2 (by decide) (hts (.fieldLink RX2 20 "ChanceHall$Crowds" "setRows" "[[J") (by decide +kernel)) (fun _ h9 => h9) rfl dX2_countTogether_76 ?_
          refine lv_iload hx hb dX2_countTogether_79 (lv_at hl 4 rfl) ?_
          refine g_aald hx hb hK hP 4 3 rfl rfl (by omega) (by decide) dX2_countTogether_81 ?_
          obtain ⟨X_7, hP, hD, hbk8s, hbk8⟩ := g_outJ hP hD (b := 5) rfl (j := u + 1) (by omega)
          have hP : va_P D vwCl ([kO b, cO b (nI n) (nI k), oQ (cY 2) (b 2) (rr 0) 6, gI (cY 0) (rr 0) 12 fG 6, oQ (cY 3) (b 9) (rr 5) 13, X_7, [(rr 5 (u + 1), .inl (cY 1, 64, .inr (.inl (gS2 (u + 1)))))]] : List va_W).flatten H := hP
          have hD : va_D A ([kO b, cO b (nI n) (nI k), oQ (cY 2) (b 2) (rr 0) 6, gI (cY 0) (rr 0) 12 fG 6, oQ (cY 3) (b 9) (rr 5) 13, X_7, [(rr 5 (u + 1), .inl (cY 1, 64, .inr (.inl (gS2 (u + 1)))))]] : List va_W).flatten := hD
          refine ca_v (CL := [kO b, cO b (nI n) (nI k), oQ (cY 2) (b 2) (rr 0) 6, gI (cY 0) (rr 0) 12 fG 6, [(rr 5 (u + 1), .inl (cY 1, 64, .inr (.inl (gS2 (u + 1)))))]]) (va_runV (As := [.int (nI X), .long (lN (PL (ig g n) 64 k (2 ^ n - 1) u X)), .ref (rr 5 (u + 1))]) (rest := []) ⟨hx, hb, hml, hown, hts⟩ (c_X2_moveCrowds l D cY H.size b rr n k fG g X (lN (PL (ig g n) 64 k (2 ^ n - 1) u X)) (rr 5 (u + 1)) (gS2 (u + 1)) (by omega) (by omega) (by omega) (by omega) hG hgn (by omega)) (cwV 3 hts gX2_countTogether_X2_moveCrowds rfl rfl rfl (by decide +kernel) ⟨Nat.le_of_ble_eq_true rfl, Nat.le_of_ble_eq_true rfl⟩) (b_preV hVK hP hD [0, 1, 2, 3, 6] rfl rfl 0 rfl rfl) rfl rfl hl.1 rfl (lv_room (Nat.le_of_ble_eq_true rfl)) dX2_countTogether_82 ⟨Nat.le_refl _, Nat.le_refl _⟩) hP hD hS hA [0, 1, 2, 3, 6] rfl rfl (fun _ => rfl) (fun uu H locs hq hP hD hS => ?_)
          obtain ⟨fx2_9, rfl⟩ : ∃ z, z = uu := ⟨_, rfl⟩
          try dsimp only at hq
          have q82 := hq
          have hP : va_P D vwCl ([kO b, cO b (nI n) (nI k), oQ (cY 2) (b 2) (rr 0) 6, gI (cY 0) (rr 0) 12 fG 6, oQ (cY 3) (b 9) (rr 5) 13, X_7, [(rr 5 (u + 1), .inl (cY 1, 64, .inr (.inl fx2_9)))]] : List va_W).flatten H := hP
          have hD : va_D A ([kO b, cO b (nI n) (nI k), oQ (cY 2) (b 2) (rr 0) 6, gI (cY 0) (rr 0) 12 fG 6, oQ (cY 3) (b 9) (rr 5) 13, X_7, [(rr 5 (u + 1), .inl (cY 1, 64, .inr (.inl fx2_9)))]] : List va_W).flatten := hD
          obtain ⟨hP, hD⟩ := hbk8 _ _ hP hD
          have hP : va_P D vwCl ([kO b, cO b (nI n) (nI k), oQ (cY 2) (b 2) (rr 0) 6, gI (cY 0) (rr 0) 12 fG 6, oQ (cY 3) (b 9) (rr 5) 13, gJ (cY 1) (rr 5) 64 (va_up gS2 (u + 1) fx2_9) 13] : List va_W).flatten H := hP
          have hD : va_D A ([kO b, cO b (nI n) (nI k), oQ (cY 2) (b 2) (rr 0) 6, gI (cY 0) (rr 0) 12 fG 6, oQ (cY 3) (b 9) (rr 5) 13, gJ (cY 1) (rr 5) 64 (va_up gS2 (u + 1) fx2_9) 13] : List va_W).flatten := hD
          refine lv_iinc (v := nI (X + 1)) (lv' := [(5, .int (nI (X + 1))), (0, .ref (b 7)), (1, .int (nI t)), (2, .int (nI w)), (3, .int (nI ((2 ^ n) - 1))), (4, .int (nI (u + 1)))]) hx hb dX2_countTogether_85 hl (k := 5) rfl (nI_1 X) (by decide) rfl (fun ls hl => ?_)
          refine lv_goto (tgt := 54) hx hb dX2_countTogether_88 (by decide) ?_
          exact ih54 (by omega) (va_up gS2 (u + 1) fx2_9) (⟨by rw [va_up_self]; exact RI_mv hJ.1 q82 rfl, fun Y hY => by rw [va_up_ne _ _ (by omega)]; exact hJ.2 Y hY⟩) _ _ hP hD hS _ (lv_sub hl [1, 2, 3, 4, 5, 0] rfl)
      exact L54 1 (by omega) (va_up gS (u + 1) f1_6) (⟨by rw [va_up_self]; exact TS_1 hgn hn1 hn6 q48, fun Y hY => by rw [va_up_ne _ _ (by omega)]; exact hI Y hY⟩) _ _ hP hD hS _ (lv_sub hl [1, 2, 3, 4, 5, 0] rfl)
  exact L34 0 (by omega) (va_up (va_up fS 0 f1_3) 0 (vp_updL ((va_up fS 0 f1_3) 0) ((2 ^ n) - 1) (lN 1))) (fun Y hY => by
  rw [va_up_self, va_up_self]
  show _ = lN (if Y = 2 ^ n - 1 then 1 else 0)
  by_cases z : Y = 2 ^ n - 1
  · rw [if_pos z, ← z, pk_uLs]
  · rw [if_neg z, pk_uLn z]; exact q19 Y hY) _ _ hP hD hS _ (lv_sub hl [2, 3, 4, 1, 0] rfl)

