set_option maxHeartbeats 4000000 in
set_option maxRecDepth 100000 in
theorem c_X9_distanceOf (l : Launch) (D : va_G) (cY : Nat → ClassId) (sz : Nat) (a : Nat → Nat) (n : Nat) (k : Nat) (th : Int32) (fto : Nat → Int32) (fnow : Nat → Int64) (fthn : Nat → Int64) (foth : Nat → Int64) (g : Nat → Nat → Nat) (f : Nat) (b : Nat) (t : Nat) (hn1 : 1 ≤ n) (hn6 : n ≤ 6) (hk1 : 1 ≤ k) (hk12 : k ≤ 12) (hG : ∀ i j, i < n → j < k → fto (12 * i + j) = nI (g i j)) (hgn : ∀ i j, i < n → j < k → g i j < n) (hf : f < n) (hb6 : b < n) (ht : t ≤ 12) : Met l yX9_distanceOf wsX9_distanceOf ({ frames := 2, cells := 0, slots := 0, locals := 80 }) (cP D cY [.ref (a 0), .int (nI f), .int (nI b), .int (nI t)] [mO a (nI n) (nI k) th, [(a 1, .inl (cY 0, 72, .inl fto))], [(a 4, .inl (cY 1, 64, .inr (.inl fnow)))], [(a 5, .inl (cY 1, 64, .inr (.inl fthn)))], [(a 6, .inl (cY 1, 6, .inr (.inl foth)))]] sz) (qL (S := (Nat → Int64) × (Nat → Int64) × (Nat → Int64)) D cY (fun r u => r = lN (dst (PL g n k f t) (PL g n k b t) n)) (fun u => [mO a (nI n) (nI k) th, [(a 1, .inl (cY 0, 72, .inl fto))], [(a 4, .inl (cY 1, 64, .inr (.inl u.1)))], [(a 5, .inl (cY 1, 64, .inr (.inl u.2.1)))], [(a 6, .inl (cY 1, 6, .inr (.inl u.2.2)))]]) (va_A ([mO a (nI n) (nI k) th, [(a 1, .inl (cY 0, 72, .inl fto))], [(a 4, .inl (cY 1, 64, .inr (.inl fnow)))], [(a 5, .inl (cY 1, 64, .inr (.inl fthn)))], [(a 6, .inl (cY 1, 6, .inr (.inl foth)))]] : List va_W).flatten sz)) 0 0 (va_A ([mO a (nI n) (nI k) th, [(a 1, .inl (cY 0, 72, .inl fto))], [(a 4, .inl (cY 1, 64, .inr (.inl fnow)))], [(a 5, .inl (cY 1, 64, .inr (.inl fthn)))], [(a 6, .inl (cY 1, 6, .inr (.inl foth)))]] : List va_W).flatten sz) := by
  refine mtB (Qc := fun A => qL (S := (Nat → Int64) × (Nat → Int64) × (Nat → Int64)) D cY (fun r u => r = lN (dst (PL g n k f t) (PL g n k b t) n)) (fun u => [mO a (nI n) (nI k) th, [(a 1, .inl (cY 0, 72, .inl fto))], [(a 4, .inl (cY 1, 64, .inr (.inl u.1)))], [(a 5, .inl (cY 1, 64, .inr (.inl u.2.1)))], [(a 6, .inl (cY 1, 6, .inr (.inl u.2.2)))]]) A) (cc := cX9_distanceOf) (maxL := 7) (ret := (some .long)) (by decide) rfl (Nat.le_of_ble_eq_true rfl) ?_
  intro p e s m below meth c A ls hx hb hr hml hts hown hlocks hnm hsz hP hK hVK hD hS hA hl
  have hown : s.vm.findClass RX9 = some m.cls := hown
  have hl : lv_has ls 7 [(0, .ref (a 0)), (1, .int (nI f)), (2, .int (nI b)), (3, .int (nI t))] := hl
  have hP : va_P D vwCl ([mO a (nI n) (nI k) th, [(a 1, .inl (cY 0, 72, .inl fto))], [(a 4, .inl (cY 1, 64, .inr (.inl fnow)))], [(a 5, .inl (cY 1, 64, .inr (.inl fthn)))], [(a 6, .inl (cY 1, 6, .inr (.inl foth)))]] : List va_W).flatten s.heap := hP
  have hD : va_D A ([mO a (nI n) (nI k) th, [(a 1, .inl (cY 0, 72, .inl fto))], [(a 4, .inl (cY 1, 64, .inr (.inl fnow)))], [(a 5, .inl (cY 1, 64, .inr (.inl fthn)))], [(a 6, .inl (cY 1, 6, .inr (.inl foth)))]] : List va_W).flatten := hD
  have hpw := pow_b (k := k) (t := t) hk12 hk1 ht
  refine lv_aload_n hx hb dX9_distanceOf_0 rfl (lv_at hl 0 rfl) ?_
  refine lv_iload_n hx hb dX9_distanceOf_1 rfl (lv_at hl 2 rfl) ?_
  refine lv_iload_n hx hb dX9_distanceOf_2 rfl (lv_at hl 3 rfl) ?_
  refine ca_v (CL := [mO a (nI n) (nI k) th, [(a 1, .inl (cY 0, 72, .inl fto))], [(a 4, .inl (cY 1, 64, .inr (.inl fnow)))], [(a 5, .inl (cY 1, 64, .inr (.inl fthn)))]]) (va_runV (As := [.int (nI b), .int (nI t)]) (rest := []) ⟨hx, hb, hml, hown, hts⟩ (c_X9_spreads l D cY s.heap.size a n k th fto fnow fthn g b t (by omega) (by omega) (by omega) (by omega) hG hgn (by omega) (by omega)) (cwV 2 hts gX9_distanceOf_X9_spreads rfl rfl rfl (by decide +kernel) ⟨Nat.le_of_ble_eq_true rfl, Nat.le_of_ble_eq_true rfl⟩) (b_preV hVK hP hD [0, 1, 2, 3] rfl rfl 0 rfl rfl) rfl rfl hl.1 rfl (lv_room (Nat.le_of_ble_eq_true rfl)) dX9_distanceOf_3 ⟨Nat.le_refl _, Nat.le_refl _⟩) hP hD hS hA [0, 1, 2, 3] rfl rfl (fun _ => rfl) (fun uu H locs hq hP hD hS => ?_)
  obtain ⟨fnow1_1, fthn1_2⟩ := uu
  try dsimp only at hq
  have q3 := hq
  have hP : va_P D vwCl ([mO a (nI n) (nI k) th, [(a 1, .inl (cY 0, 72, .inl fto))], [(a 4, .inl (cY 1, 64, .inr (.inl fnow1_1)))], [(a 5, .inl (cY 1, 64, .inr (.inl fthn1_2)))], [(a 6, .inl (cY 1, 6, .inr (.inl foth)))]] : List va_W).flatten H := hP
  have hD : va_D A ([mO a (nI n) (nI k) th, [(a 1, .inl (cY 0, 72, .inl fto))], [(a 4, .inl (cY 1, 64, .inr (.inl fnow1_1)))], [(a 5, .inl (cY 1, 64, .inr (.inl fthn1_2)))], [(a 6, .inl (cY 1, 6, .inr (.inl foth)))]] : List va_W).flatten := hD
  refine lv_iconst (v := nI 0) hx hb dX9_distanceOf_6 (by decide) ?_
  refine lv_istore (lv' := [(4, .int (nI 0)), (0, .ref (a 0)), (1, .int (nI f)), (2, .int (nI b)), (3, .int (nI t))]) hx hb dX9_distanceOf_7 hl (by decide) rfl (fun ls hl => ?_)
  have L9 : ∀ q : Nat, q ≤ n → ∀ (fO : Nat → Int64), (CI fO fnow1_1 q) → ∀ (H : Heap) (locs : List Loc), va_P D vwCl ([mO a (nI n) (nI k) th, [(a 1, .inl (cY 0, 72, .inl fto))], [(a 4, .inl (cY 1, 64, .inr (.inl fnow1_1)))], [(a 5, .inl (cY 1, 64, .inr (.inl fthn1_2)))], [(a 6, .inl (cY 1, 6, .inr (.inl fO)))]] : List va_W).flatten H → va_D A ([mO a (nI n) (nI k) th, [(a 1, .inl (cY 0, 72, .inl fto))], [(a 4, .inl (cY 1, 64, .inr (.inl fnow1_1)))], [(a 5, .inl (cY 1, 64, .inr (.inl fthn1_2)))], [(a 6, .inl (cY 1, 6, .inr (.inl fO)))]] : List va_W).flatten → va_S A s.heap H locs → ∀ (ls : Array Slot), lv_has ls 7 [(0, .ref (a 0)), (1, .int (nI f)), (2, .int (nI b)), (3, .int (nI t)), (4, .int (nI q))] → W p l e ({ frames := 2, cells := 0, slots := 0, locals := 80 }) s m ([.ref (a 0), .int (nI f), .int (nI b), .int (nI t)] : List Value).toArray below meth c H locs 0 0 (MQ below (qL (S := (Nat → Int64) × (Nat → Int64) × (Nat → Int64)) D cY (fun r u => r = lN (dst (PL g n k f t) (PL g n k b t) n)) (fun u => [mO a (nI n) (nI k) th, [(a 1, .inl (cY 0, 72, .inl fto))], [(a 4, .inl (cY 1, 64, .inr (.inl u.1)))], [(a 5, .inl (cY 1, 64, .inr (.inl u.2.1)))], [(a 6, .inl (cY 1, 6, .inr (.inl u.2.2)))]]) A) ([.ref (a 0), .int (nI f), .int (nI b), .int (nI t)] : List Value).toArray s 0 0 A) (F0 m 9 ls []) := by
    refine lpW n ?_
    intro q bq ih9 fO hC H locs hP hD hS ls hl
    refine lv_iload hx hb dX9_distanceOf_9 (lv_at hl 4 rfl) ?_
    refine lv_aload_n hx hb dX9_distanceOf_11 rfl (lv_at hl 0 rfl) ?_
    refine b_get (ci := 9) (v := .int (nI n)) (C := RX9) (T := TX9) (N := 13) hx hb hts (by decide +kernel) hown hK hP 0 rfl rfl 0 (by decide) (hts (.fieldLink RX9 7 "ChanceHallModel" "states" "I") (by decide +kernel)) (fun _ h9 => h9) rfl dX9_distanceOf_12 ?_
    refine n_icmp_ge (tgt := 38) hx hb dX9_distanceOf_15 (by decide) (by omega) (by omega) (fun h15 => ?_) (fun h15 => ?_)
    · -- t
      have hC2 : ∀ j, j < n → fO j = lN (PL g n k b t j) := fun j hj => by rw [hC j (by omega)]; exact q3 j hj
      refine lv_aload_n hx hb dX9_distanceOf_38 rfl (lv_at hl 0 rfl) ?_
      refine lv_iload_n hx hb dX9_distanceOf_39 rfl (lv_at hl 1 rfl) ?_
      refine lv_iload_n hx hb dX9_distanceOf_40 rfl (lv_at hl 3 rfl) ?_
      refine ca_v (CL := [mO a (nI n) (nI k) th, [(a 1, .inl (cY 0, 72, .inl fto))], [(a 4, .inl (cY 1, 64, .inr (.inl fnow1_1)))], [(a 5, .inl (cY 1, 64, .inr (.inl fthn1_2)))]]) (va_runV (As := [.int (nI f), .int (nI t)]) (rest := []) ⟨hx, hb, hml, hown, hts⟩ (c_X9_spreads l D cY H.size a n k th fto fnow1_1 fthn1_2 g f t (by omega) (by omega) (by omega) (by omega) hG hgn (by omega) (by omega)) (cwV 2 hts gX9_distanceOf_X9_spreads rfl rfl rfl (by decide +kernel) ⟨Nat.le_of_ble_eq_true rfl, Nat.le_of_ble_eq_true rfl⟩) (b_preV hVK hP hD [0, 1, 2, 3] rfl rfl 0 rfl rfl) rfl rfl hl.1 rfl (lv_room (Nat.le_of_ble_eq_true rfl)) dX9_distanceOf_41 ⟨Nat.le_refl _, Nat.le_refl _⟩) hP hD hS hA [0, 1, 2, 3] rfl rfl (fun _ => rfl) (fun uu H locs hq hP hD hS => ?_)
      obtain ⟨fnow1_3, fthn1_4⟩ := uu
      try dsimp only at hq
      have q41 := hq
      have hP : va_P D vwCl ([mO a (nI n) (nI k) th, [(a 1, .inl (cY 0, 72, .inl fto))], [(a 4, .inl (cY 1, 64, .inr (.inl fnow1_3)))], [(a 5, .inl (cY 1, 64, .inr (.inl fthn1_4)))], [(a 6, .inl (cY 1, 6, .inr (.inl fO)))]] : List va_W).flatten H := hP
      have hD : va_D A ([mO a (nI n) (nI k) th, [(a 1, .inl (cY 0, 72, .inl fto))], [(a 4, .inl (cY 1, 64, .inr (.inl fnow1_3)))], [(a 5, .inl (cY 1, 64, .inr (.inl fthn1_4)))], [(a 6, .inl (cY 1, 6, .inr (.inl fO)))]] : List va_W).flatten := hD
      refine lv_lconst (v := lN 0) hx hb dX9_distanceOf_44 (by decide) ?_
      refine lv_lstore (lv' := [(4, .long (lN 0)), (0, .ref (a 0)), (1, .int (nI f)), (2, .int (nI b)), (3, .int (nI t))]) hx hb dX9_distanceOf_45 hl (by decide) rfl (fun ls hl => ?_)
      refine lv_iconst (v := nI 0) hx hb dX9_distanceOf_47 (by decide) ?_
      refine lv_istore (lv' := [(6, .int (nI 0)), (4, .long (lN 0)), (0, .ref (a 0)), (1, .int (nI f)), (2, .int (nI b)), (3, .int (nI t))]) hx hb dX9_distanceOf_48 hl (by decide) rfl (fun ls hl => ?_)
      have L50 : ∀ q : Nat, q ≤ n →  ∀ (H : Heap) (locs : List Loc), va_P D vwCl ([mO a (nI n) (nI k) th, [(a 1, .inl (cY 0, 72, .inl fto))], [(a 4, .inl (cY 1, 64, .inr (.inl fnow1_3)))], [(a 5, .inl (cY 1, 64, .inr (.inl fthn1_4)))], [(a 6, .inl (cY 1, 6, .inr (.inl fO)))]] : List va_W).flatten H → va_D A ([mO a (nI n) (nI k) th, [(a 1, .inl (cY 0, 72, .inl fto))], [(a 4, .inl (cY 1, 64, .inr (.inl fnow1_3)))], [(a 5, .inl (cY 1, 64, .inr (.inl fthn1_4)))], [(a 6, .inl (cY 1, 6, .inr (.inl fO)))]] : List va_W).flatten → va_S A s.heap H locs → ∀ (ls : Array Slot), lv_has ls 7 [(0, .ref (a 0)), (1, .int (nI f)), (2, .int (nI b)), (3, .int (nI t)), (4, .long (lN (dst (PL g n k f t) (PL g n k b t) q))), (6, .int (nI q))] → W p l e ({ frames := 2, cells := 0, slots := 0, locals := 80 }) s m ([.ref (a 0), .int (nI f), .int (nI b), .int (nI t)] : List Value).toArray below meth c H locs 0 0 (MQ below (qL (S := (Nat → Int64) × (Nat → Int64) × (Nat → Int64)) D cY (fun r u => r = lN (dst (PL g n k f t) (PL g n k b t) n)) (fun u => [mO a (nI n) (nI k) th, [(a 1, .inl (cY 0, 72, .inl fto))], [(a 4, .inl (cY 1, 64, .inr (.inl u.1)))], [(a 5, .inl (cY 1, 64, .inr (.inl u.2.1)))], [(a 6, .inl (cY 1, 6, .inr (.inl u.2.2)))]]) A) ([.ref (a 0), .int (nI f), .int (nI b), .int (nI t)] : List Value).toArray s 0 0 A) (F0 m 50 ls []) := by
        refine lpW n ?_
        intro q bq ih50   H locs hP hD hS ls hl
        refine lv_iload hx hb dX9_distanceOf_50 (lv_at hl 5 rfl) ?_
        refine lv_aload_n hx hb dX9_distanceOf_52 rfl (lv_at hl 0 rfl) ?_
        refine b_get (ci := 9) (v := .int (nI n)) (C := RX9) (T := TX9) (N := 13) hx hb hts (by decide +kernel) hown hK hP 0 rfl rfl 0 (by decide) (hts (.fieldLink RX9 7 "ChanceHallModel" "states" "I") (by decide +kernel)) (fun _ h9 => h9) rfl dX9_distanceOf_53 ?_
        refine n_icmp_ge (tgt := 107) hx hb dX9_distanceOf_56 (by decide) (by omega) (by omega) (fun h56 => ?_) (fun h56 => ?_)
        · -- t
          refine lv_lload hx hb dX9_distanceOf_107 (lv_at hl 4 rfl) ?_
          exact r_l hx hb hr hlocks hP hD hS (fnow1_3, fthn1_4, fO) rfl (by (have e : q = n := by omega); subst e; rfl) dX9_distanceOf_109
        · -- f
          have hf1 := PL_le (t := t) hgn hf h56
          have hf2 := PL_le (t := t) hgn hb6 h56
          refine lv_lload hx hb dX9_distanceOf_59 (lv_at hl 4 rfl) ?_
          refine lv_aload_n hx hb dX9_distanceOf_61 rfl (lv_at hl 0 rfl) ?_
          refine b_get (ci := 9) (v := .ref (a 4)) (C := RX9) (T := TX9) (N := 13) hx hb hts (by decide +kernel) hown hK hP 0 rfl rfl 5 (by decide) (hts (.fieldLink RX9 26 "ChanceHallModel" "now" "[J") (by decide +kernel)) (fun _ h9 => h9) rfl dX9_distanceOf_62 ?_
          refine lv_iload hx hb dX9_distanceOf_65 (lv_at hl 5 rfl) ?_
          refine b_lald hx hb hK hP 2 1 rfl rfl (by omega) (by decide) dX9_distanceOf_67 ?_
          refine eql (x' := lN (PL g n k f t q)) (q41 q (by omega)) ?_
          refine lv_aload_n hx hb dX9_distanceOf_68 rfl (lv_at hl 0 rfl) ?_
          refine b_get (ci := 9) (v := .ref (a 6)) (C := RX9) (T := TX9) (N := 13) hx hb hts (by decide +kernel) hown hK hP 0 rfl rfl 7 (by decide) (hts (.fieldLink RX9 33 "ChanceHallModel" "others" "[J") (by decide +kernel)) (fun _ h9 => h9) rfl dX9_distanceOf_69 ?_
          refine lv_iload hx hb dX9_distanceOf_72 (lv_at hl 5 rfl) ?_
          refine b_lald hx hb hK hP 4 1 rfl rfl (by omega) (by decide) dX9_distanceOf_74 ?_
          refine eql (x' := lN (PL g n k b t q)) (hC2 q (by omega)) ?_
          refine W.lcmp hx hb dX9_distanceOf_75 ?_
          refine l_if_le (tgt := 97) hx hb dX9_distanceOf_76 (by decide) (fun h76 => ?_) (fun h76 => ?_)
          · -- t
            have h76 := lle (by omega) (by omega) h76
            refine lv_lconst (v := lN 0) hx hb dX9_distanceOf_97 (by decide) ?_
            refine lv_ladd hx hb dX9_distanceOf_98 ?_
            refine eql (x' := lN (dst (PL g n k f t) (PL g n k b t) q)) (lN_add _ _) ?_
            refine eql (x' := lN (dst (PL g n k f t) (PL g n k b t) (q + 1))) (by first | exact congrArg lN (dst_s (a := PL g n k f t) (b := PL g n k b t) (q := q) (c := 0) (by omega)) | exact congrArg lN (dst_s (a := PL g n k f t) (b := PL g n k b t) (q := q) (by omega))) ?_
            refine lv_lstore (lv' := [(4, .long (lN (dst (PL g n k f t) (PL g n k b t) (q + 1)))), (0, .ref (a 0)), (1, .int (nI f)), (2, .int (nI b)), (3, .int (nI t)), (6, .int (nI q))]) hx hb dX9_distanceOf_99 hl (by decide) rfl (fun ls hl => ?_)
            refine lv_iinc (v := nI (q + 1)) (lv' := [(6, .int (nI (q + 1))), (4, .long (lN (dst (PL g n k f t) (PL g n k b t) (q + 1)))), (0, .ref (a 0)), (1, .int (nI f)), (2, .int (nI b)), (3, .int (nI t))]) hx hb dX9_distanceOf_101 hl (k := 5) rfl (nI_1 q) (by decide) rfl (fun ls hl => ?_)
            refine lv_goto (tgt := 50) hx hb dX9_distanceOf_104 (by decide) ?_
            exact ih50 (by omega)   _ _ hP hD hS _ (lv_sub hl [2, 3, 4, 5, 1, 0] rfl)
          · -- f
            have h76 := lnle (by omega) (by omega) h76
            refine lv_aload_n hx hb dX9_distanceOf_79 rfl (lv_at hl 0 rfl) ?_
            refine b_get (ci := 9) (v := .ref (a 4)) (C := RX9) (T := TX9) (N := 13) hx hb hts (by decide +kernel) hown hK hP 0 rfl rfl 5 (by decide) (hts (.fieldLink RX9 26 "ChanceHallModel" "now" "[J") (by decide +kernel)) (fun _ h9 => h9) rfl dX9_distanceOf_80 ?_
            refine lv_iload hx hb dX9_distanceOf_83 (lv_at hl 5 rfl) ?_
            refine b_lald hx hb hK hP 2 1 rfl rfl (by omega) (by decide) dX9_distanceOf_85 ?_
            refine eql (x' := lN (PL g n k f t q)) (q41 q (by omega)) ?_
            refine lv_aload_n hx hb dX9_distanceOf_86 rfl (lv_at hl 0 rfl) ?_
            refine b_get (ci := 9) (v := .ref (a 6)) (C := RX9) (T := TX9) (N := 13) hx hb hts (by decide +kernel) hown hK hP 0 rfl rfl 7 (by decide) (hts (.fieldLink RX9 33 "ChanceHallModel" "others" "[J") (by decide +kernel)) (fun _ h9 => h9) rfl dX9_distanceOf_87 ?_
            refine lv_iload hx hb dX9_distanceOf_90 (lv_at hl 5 rfl) ?_
            refine b_lald hx hb hK hP 4 1 rfl rfl (by omega) (by decide) dX9_distanceOf_92 ?_
            refine eql (x' := lN (PL g n k b t q)) (hC2 q (by omega)) ?_
            refine lv_lsub hx hb dX9_distanceOf_93 ?_
            refine eql (x' := lN (PL g n k f t q - PL g n k b t q)) (lN_sub (by omega)) ?_
            refine lv_goto (tgt := 98) hx hb dX9_distanceOf_94 (by decide) ?_
            refine lv_ladd hx hb dX9_distanceOf_98 ?_
            refine eql (x' := lN (dst (PL g n k f t) (PL g n k b t) q + (PL g n k f t q - PL g n k b t q))) (lN_add _ _) ?_
            refine eql (x' := lN (dst (PL g n k f t) (PL g n k b t) (q + 1))) (by first | exact congrArg lN (dst_s (a := PL g n k f t) (b := PL g n k b t) (q := q) (c := 0) (by omega)) | exact congrArg lN (dst_s (a := PL g n k f t) (b := PL g n k b t) (q := q) (by omega))) ?_
            refine lv_lstore (lv' := [(4, .long (lN (dst (PL g n k f t) (PL g n k b t) (q + 1)))), (0, .ref (a 0)), (1, .int (nI f)), (2, .int (nI b)), (3, .int (nI t)), (6, .int (nI q))]) hx hb dX9_distanceOf_99 hl (by decide) rfl (fun ls hl => ?_)
            refine lv_iinc (v := nI (q + 1)) (lv' := [(6, .int (nI (q + 1))), (4, .long (lN (dst (PL g n k f t) (PL g n k b t) (q + 1)))), (0, .ref (a 0)), (1, .int (nI f)), (2, .int (nI b)), (3, .int (nI t))]) hx hb dX9_distanceOf_101 hl (k := 5) rfl (nI_1 q) (by decide) rfl (fun ls hl => ?_)
            refine lv_goto (tgt := 50) hx hb dX9_distanceOf_104 (by decide) ?_
            exact ih50 (by omega)   _ _ hP hD hS _ (lv_sub hl [2, 3, 4, 5, 1, 0] rfl)
      exact L50 0 (by omega)   _ _ hP hD hS _ (lv_sub hl [2, 3, 4, 5, 1, 0] rfl)
    · -- f
      refine lv_aload_n hx hb dX9_distanceOf_18 rfl (lv_at hl 0 rfl) ?_
      refine b_get (ci := 9) (v := .ref (a 6)) (C := RX9) (T := TX9) (N := 13) hx hb hts (by decide +kernel) hown hK hP 0 rfl rfl 7 (by decide) (hts (.fieldLink RX9 33 "ChanceHallModel" "others" "[J") (by decide +kernel)) (fun _ h9 => h9) rfl dX9_distanceOf_19 ?_
      refine lv_iload hx hb dX9_distanceOf_22 (lv_at hl 4 rfl) ?_
      refine lv_aload_n hx hb dX9_distanceOf_24 rfl (lv_at hl 0 rfl) ?_
      refine b_get (ci := 9) (v := .ref (a 4)) (C := RX9) (T := TX9) (N := 13) hx hb hts (by decide +kernel) hown hK hP 0 rfl rfl 5 (by decide) (hts (.fieldLink RX9 26 "ChanceHallModel" "now" "[J") (by decide +kernel)) (fun _ h9 => h9) rfl dX9_distanceOf_25 ?_
      refine lv_iload hx hb dX9_distanceOf_28 (lv_at hl 4 rfl) ?_
      refine b_lald hx hb hK hP 2 1 rfl rfl (by omega) (by decide) dX9_distanceOf_30 ?_
      refine b_last hx hb hK hP hD hS 4 1 rfl rfl (by omega) (by decide) dX9_distanceOf_31 (fun H locs hP hD hS => ?_)
      have hP : va_P D vwCl ([mO a (nI n) (nI k) th, [(a 1, .inl (cY 0, 72, .inl fto))], [(a 4, .inl (cY 1, 64, .inr (.inl fnow1_1)))], [(a 5, .inl (cY 1, 64, .inr (.inl fthn1_2)))], [(a 6, .inl (cY 1, 6, .inr (.inl (vp_updL fO q (fnow1_1 q)))))]] : List va_W).flatten H := hP
      have hD : va_D A ([mO a (nI n) (nI k) th, [(a 1, .inl (cY 0, 72, .inl fto))], [(a 4, .inl (cY 1, 64, .inr (.inl fnow1_1)))], [(a 5, .inl (cY 1, 64, .inr (.inl fthn1_2)))], [(a 6, .inl (cY 1, 6, .inr (.inl (vp_updL fO q (fnow1_1 q)))))]] : List va_W).flatten := hD
      refine lv_iinc (v := nI (q + 1)) (lv' := [(4, .int (nI (q + 1))), (0, .ref (a 0)), (1, .int (nI f)), (2, .int (nI b)), (3, .int (nI t))]) hx hb dX9_distanceOf_32 hl (k := 4) rfl (nI_1 q) (by decide) rfl (fun ls hl => ?_)
      refine lv_goto (tgt := 9) hx hb dX9_distanceOf_35 (by decide) ?_
      exact ih9 (by omega) (vp_updL fO q (fnow1_1 q)) (CI_s hC) _ _ hP hD hS _ (lv_sub hl [1, 2, 3, 4, 0] rfl)
  exact L9 0 (by omega) foth CI_0 _ _ hP hD hS _ (lv_sub hl [1, 2, 3, 4, 0] rfl)

set_option maxHeartbeats 4000000 in
set_option maxRecDepth 100000 in
theorem c_X9_isMixed (l : Launch) (D : va_G) (cY : Nat → ClassId) (sz : Nat) (a : Nat → Nat) (n : Nat) (k : Nat) (th : Int32) (fto : Nat → Int32) (fnow : Nat → Int64) (fthn : Nat → Int64) (foth : Nat → Int64) (g : Nat → Nat → Nat) (th2 : Nat) (t : Nat) (hn1 : 1 ≤ n) (hn6 : n ≤ 6) (hk1 : 1 ≤ k) (hk12 : k ≤ 12) (hG : ∀ i j, i < n → j < k → fto (12 * i + j) = nI (g i j)) (hgn : ∀ i j, i < n → j < k → g i j < n) (hth : th2 ≤ 1000) (ht : t ≤ 12) : Met l yX9_isMixed wsX9_isMixed ({ frames := 3, cells := 0, slots := 0, locals := 120 }) (cP D cY [.ref (a 0), .int (nI th2), .int (nI t)] [mO a (nI n) (nI k) th, [(a 1, .inl (cY 0, 72, .inl fto))], [(a 4, .inl (cY 1, 64, .inr (.inl fnow)))], [(a 5, .inl (cY 1, 64, .inr (.inl fthn)))], [(a 6, .inl (cY 1, 6, .inr (.inl foth)))]] sz) (qI (S := (Nat → Int64) × (Nat → Int64) × (Nat → Int64)) D cY (fun r u => r = bI (mixB g n k th2 t)) (fun u => [mO a (nI n) (nI k) th, [(a 1, .inl (cY 0, 72, .inl fto))], [(a 4, .inl (cY 1, 64, .inr (.inl u.1)))], [(a 5, .inl (cY 1, 64, .inr (.inl u.2.1)))], [(a 6, .inl (cY 1, 6, .inr (.inl u.2.2)))]]) (va_A ([mO a (nI n) (nI k) th, [(a 1, .inl (cY 0, 72, .inl fto))], [(a 4, .inl (cY 1, 64, .inr (.inl fnow)))], [(a 5, .inl (cY 1, 64, .inr (.inl fthn)))], [(a 6, .inl (cY 1, 6, .inr (.inl foth)))]] : List va_W).flatten sz)) 0 0 (va_A ([mO a (nI n) (nI k) th, [(a 1, .inl (cY 0, 72, .inl fto))], [(a 4, .inl (cY 1, 64, .inr (.inl fnow)))], [(a 5, .inl (cY 1, 64, .inr (.inl fthn)))], [(a 6, .inl (cY 1, 6, .inr (.inl foth)))]] : List va_W).flatten sz) := by
  refine mtB (Qc := fun A => qI (S := (Nat → Int64) × (Nat → Int64) × (Nat → Int64)) D cY (fun r u => r = bI (mixB g n k th2 t)) (fun u => [mO a (nI n) (nI k) th, [(a 1, .inl (cY 0, 72, .inl fto))], [(a 4, .inl (cY 1, 64, .inr (.inl u.1)))], [(a 5, .inl (cY 1, 64, .inr (.inl u.2.1)))], [(a 6, .inl (cY 1, 6, .inr (.inl u.2.2)))]]) A) (cc := cX9_isMixed) (maxL := 6) (ret := (some .boolean)) (by decide) rfl (Nat.le_of_ble_eq_true rfl) ?_
  intro p e s m below meth c A ls hx hb hr hml hts hown hlocks hnm hsz hP hK hVK hD hS hA hl
  have hown : s.vm.findClass RX9 = some m.cls := hown
  have hl : lv_has ls 6 [(0, .ref (a 0)), (1, .int (nI th2)), (2, .int (nI t))] := hl
  have hP : va_P D vwCl ([mO a (nI n) (nI k) th, [(a 1, .inl (cY 0, 72, .inl fto))], [(a 4, .inl (cY 1, 64, .inr (.inl fnow)))], [(a 5, .inl (cY 1, 64, .inr (.inl fthn)))], [(a 6, .inl (cY 1, 6, .inr (.inl foth)))]] : List va_W).flatten s.heap := hP
  have hD : va_D A ([mO a (nI n) (nI k) th, [(a 1, .inl (cY 0, 72, .inl fto))], [(a 4, .inl (cY 1, 64, .inr (.inl fnow)))], [(a 5, .inl (cY 1, 64, .inr (.inl fthn)))], [(a 6, .inl (cY 1, 6, .inr (.inl foth)))]] : List va_W).flatten := hD
  have hpw := pow_b (k := k) (t := t) hk12 hk1 ht
  have hpw2 : th2 * k ^ t ≤ 1000 * 8916100448256 := Nat.mul_le_mul hth hpw
  refine lv_iconst (v := nI 1) hx hb dX9_isMixed_0 (by decide) ?_
  refine lv_istore_n (lv' := [(3, .int (nI 1)), (0, .ref (a 0)), (1, .int (nI th2)), (2, .int (nI t))]) hx hb dX9_isMixed_1 rfl hl (by decide) rfl (fun ls hl => ?_)
  refine lv_iconst (v := nI 0) hx hb dX9_isMixed_2 (by decide) ?_
  refine lv_istore (lv' := [(4, .int (nI 0)), (3, .int (nI 1)), (0, .ref (a 0)), (1, .int (nI th2)), (2, .int (nI t))]) hx hb dX9_isMixed_3 hl (by decide) rfl (fun ls hl => ?_)
  have L5 : ∀ one : Nat, one ≤ n → ∀ (fN : Nat → Int64) (fT : Nat → Int64) (fO : Nat → Int64), ∀ (H : Heap) (locs : List Loc), va_P D vwCl ([mO a (nI n) (nI k) th, [(a 1, .inl (cY 0, 72, .inl fto))], [(a 4, .inl (cY 1, 64, .inr (.inl fN)))], [(a 5, .inl (cY 1, 64, .inr (.inl fT)))], [(a 6, .inl (cY 1, 6, .inr (.inl fO)))]] : List va_W).flatten H → va_D A ([mO a (nI n) (nI k) th, [(a 1, .inl (cY 0, 72, .inl fto))], [(a 4, .inl (cY 1, 64, .inr (.inl fN)))], [(a 5, .inl (cY 1, 64, .inr (.inl fT)))], [(a 6, .inl (cY 1, 6, .inr (.inl fO)))]] : List va_W).flatten → va_S A s.heap H locs → ∀ (ls : Array Slot), lv_has ls 6 [(0, .ref (a 0)), (1, .int (nI th2)), (2, .int (nI t)), (3, .int (bI (allB (fun one => allB (fun other => mixC g n k th2 t one other) one) one))), (4, .int (nI one))] → W p l e ({ frames := 3, cells := 0, slots := 0, locals := 120 }) s m ([.ref (a 0), .int (nI th2), .int (nI t)] : List Value).toArray below meth c H locs 0 0 (MQ below (qI (S := (Nat → Int64) × (Nat → Int64) × (Nat → Int64)) D cY (fun r u => r = bI (mixB g n k th2 t)) (fun u => [mO a (nI n) (nI k) th, [(a 1, .inl (cY 0, 72, .inl fto))], [(a 4, .inl (cY 1, 64, .inr (.inl u.1)))], [(a 5, .inl (cY 1, 64, .inr (.inl u.2.1)))], [(a 6, .inl (cY 1, 6, .inr (.inl u.2.2)))]]) A) ([.ref (a 0), .int (nI th2), .int (nI t)] : List Value).toArray s 0 0 A) (F0 m 5 ls []) := by
    refine lpW n ?_
    intro one bone ih5 fN fT fO  H locs hP hD hS ls hl
    refine lv_iload hx hb dX9_isMixed_5 (lv_at hl 4 rfl) ?_
    refine lv_aload_n hx hb dX9_isMixed_7 rfl (lv_at hl 0 rfl) ?_
    refine b_get (ci := 9) (v := .int (nI n)) (C := RX9) (T := TX9) (N := 13) hx hb hts (by decide +kernel) hown hK hP 0 rfl rfl 0 (by decide) (hts (.fieldLink RX9 7 "ChanceHallModel" "states" "I") (by decide +kernel)) (fun _ h9 => h9) rfl dX9_isMixed_8 ?_
    refine n_icmp_ge (tgt := 71) hx hb dX9_isMixed_11 (by decide) (by omega) (by omega) (fun h11 => ?_) (fun h11 => ?_)
    · -- t
      have e5 : one = n := by omega
      refine lv_iload_n hx hb dX9_isMixed_71 rfl (lv_at hl 3 rfl) ?_
      exact r_z hx hb hr hlocks hP hD hS (fN, fT, fO) rfl (by rw [e5]; rfl) dX9_isMixed_72
    · -- f
      refine lv_iconst (v := nI 0) hx hb dX9_isMixed_14 (by decide) ?_
      refine lv_istore (lv' := [(5, .int (nI 0)), (0, .ref (a 0)), (1, .int (nI th2)), (2, .int (nI t)), (3, .int (bI (allB (fun one => allB (fun other => mixC g n k th2 t one other) one) one))), (4, .int (nI one))]) hx hb dX9_isMixed_15 hl (by decide) rfl (fun ls hl => ?_)
      have L17 : ∀ other : Nat, other ≤ one → ∀ (gN : Nat → Int64) (gT : Nat → Int64) (gO : Nat → Int64), ∀ (H : Heap) (locs : List Loc), va_P D vwCl ([mO a (nI n) (nI k) th, [(a 1, .inl (cY 0, 72, .inl fto))], [(a 4, .inl (cY 1, 64, .inr (.inl gN)))], [(a 5, .inl (cY 1, 64, .inr (.inl gT)))], [(a 6, .inl (cY 1, 6, .inr (.inl gO)))]] : List va_W).flatten H → va_D A ([mO a (nI n) (nI k) th, [(a 1, .inl (cY 0, 72, .inl fto))], [(a 4, .inl (cY 1, 64, .inr (.inl gN)))], [(a 5, .inl (cY 1, 64, .inr (.inl gT)))], [(a 6, .inl (cY 1, 6, .inr (.inl gO)))]] : List va_W).flatten → va_S A s.heap H locs → ∀ (ls : Array Slot), lv_has ls 6 [(0, .ref (a 0)), (1, .int (nI th2)), (2, .int (nI t)), (3, .int (bI (allB (mixC g n k th2 t one) other && allB (fun one => allB (fun other => mixC g n k th2 t one other) one) one))), (4, .int (nI one)), (5, .int (nI other))] → W p l e ({ frames := 3, cells := 0, slots := 0, locals := 120 }) s m ([.ref (a 0), .int (nI th2), .int (nI t)] : List Value).toArray below meth c H locs 0 0 (MQ below (qI (S := (Nat → Int64) × (Nat → Int64) × (Nat → Int64)) D cY (fun r u => r = bI (mixB g n k th2 t)) (fun u => [mO a (nI n) (nI k) th, [(a 1, .inl (cY 0, 72, .inl fto))], [(a 4, .inl (cY 1, 64, .inr (.inl u.1)))], [(a 5, .inl (cY 1, 64, .inr (.inl u.2.1)))], [(a 6, .inl (cY 1, 6, .inr (.inl u.2.2)))]]) A) ([.ref (a 0), .int (nI th2), .int (nI t)] : List Value).toArray s 0 0 A) (F0 m 17 ls []) := by
        refine lpW one ?_
        intro other bother ih17 gN gT gO  H locs hP hD hS ls hl
        refine lv_iload hx hb dX9_isMixed_17 (lv_at hl 5 rfl) ?_
        refine lv_iload hx hb dX9_isMixed_19 (lv_at hl 4 rfl) ?_
        refine n_icmp_ge (tgt := 65) hx hb dX9_isMixed_21 (by decide) (by omega) (by omega) (fun h21 => ?_) (fun h21 => ?_)
        · -- t
          have e17 : other = one := by omega
          refine lv_iinc (v := nI (one + 1)) (lv' := [(4, .int (nI (one + 1))), (0, .ref (a 0)), (1, .int (nI th2)), (2, .int (nI t)), (3, .int (bI (allB (mixC g n k th2 t one) other && allB (fun one => allB (fun other => mixC g n k th2 t one other) one) one))), (5, .int (nI other))]) hx hb dX9_isMixed_65 hl (k := 4) rfl (nI_1 one) (by decide) rfl (fun ls hl => ?_)
          refine lv_goto (tgt := 5) hx hb dX9_isMixed_68 (by decide) ?_
          exact ih5 (by omega) gN gT gO  _ _ hP hD hS _ (lv_sub hl [1, 2, 3, 4, 0] (by rw [e17]; rfl))
        · -- f
          refine lv_iload_n hx hb dX9_isMixed_24 rfl (lv_at hl 3 rfl) ?_
          refine b_if_eq (tgt := 57) hx hb dX9_isMixed_25 (by decide) (fun h25 => ?_) (fun h25 => ?_)
          · -- t
            refine lv_iconst (v := nI 0) hx hb dX9_isMixed_57 (by decide) ?_
            refine eqi (x' := bI (allB (mixC g n k th2 t one) (other + 1) && allB (fun one => allB (fun other => mixC g n k th2 t one other) one) one)) (by first | exact mx_f (Or.inl h25) | exact mx_f (Or.inr hC)) ?_
            refine lv_istore_n (lv' := [(3, .int (bI (allB (mixC g n k th2 t one) (other + 1) && allB (fun one => allB (fun other => mixC g n k th2 t one other) one) one))), (0, .ref (a 0)), (1, .int (nI th2)), (2, .int (nI t)), (4, .int (nI one)), (5, .int (nI other))]) hx hb dX9_isMixed_58 rfl hl (by decide) rfl (fun ls hl => ?_)
            refine lv_iinc (v := nI (other + 1)) (lv' := [(5, .int (nI (other + 1))), (3, .int (bI (allB (mixC g n k th2 t one) (other + 1) && allB (fun one => allB (fun other => mixC g n k th2 t one other) one) one))), (0, .ref (a 0)), (1, .int (nI th2)), (2, .int (nI t)), (4, .int (nI one))]) hx hb dX9_isMixed_59 hl (k := 5) rfl (nI_1 other) (by decide) rfl (fun ls hl => ?_)
            refine lv_goto (tgt := 17) hx hb dX9_isMixed_62 (by decide) ?_
            exact ih17 (by omega) gN gT gO  _ _ hP hD hS _ (lv_sub hl [2, 3, 4, 1, 5, 0] rfl)
          · -- f
            refine lv_ldc2 (v := 1000) hx hb hown (hts (.constantLong RX9 103 1000) (by decide +kernel)) dX9_isMixed_28 ?_
            refine eql (x' := lN 1000) (by decide) ?_
            refine lv_aload_n hx hb dX9_isMixed_31 rfl (lv_at hl 0 rfl) ?_
            refine lv_iload hx hb dX9_isMixed_32 (lv_at hl 4 rfl) ?_
            refine lv_iload hx hb dX9_isMixed_34 (lv_at hl 5 rfl) ?_
            refine lv_iload_n hx hb dX9_isMixed_36 rfl (lv_at hl 2 rfl) ?_
            refine ca_l (CL := [mO a (nI n) (nI k) th, [(a 1, .inl (cY 0, 72, .inl fto))], [(a 4, .inl (cY 1, 64, .inr (.inl gN)))], [(a 5, .inl (cY 1, 64, .inr (.inl gT)))], [(a 6, .inl (cY 1, 6, .inr (.inl gO)))]]) (va_runV (As := [.int (nI one), .int (nI other), .int (nI t)]) (rest := [.long (lN 1000)]) ⟨hx, hb, hml, hown, hts⟩ (c_X9_distanceOf l D cY H.size a n k th fto gN gT gO g one other t (by omega) (by omega) (by omega) (by omega) hG hgn (by omega) (by omega) (by omega)) (cwV 3 hts gX9_isMixed_X9_distanceOf rfl rfl rfl (by decide +kernel) ⟨Nat.le_of_ble_eq_true rfl, Nat.le_of_ble_eq_true rfl⟩) (b_preV hVK hP hD [0, 1, 2, 3, 4] rfl rfl 0 rfl rfl) rfl rfl hl.1 rfl (lv_room (Nat.le_of_ble_eq_true rfl)) dX9_isMixed_37 ⟨Nat.le_refl _, Nat.le_refl _⟩) hP hD hS hA [0, 1, 2, 3, 4] rfl rfl (fun _ => rfl) (fun r37 uu H locs hq hP hD hS => ?_)
            obtain ⟨fnow1_1, fthn1_2, foth1_3⟩ := uu
            try dsimp only at hq
            subst hq
            have hP : va_P D vwCl ([mO a (nI n) (nI k) th, [(a 1, .inl (cY 0, 72, .inl fto))], [(a 4, .inl (cY 1, 64, .inr (.inl fnow1_1)))], [(a 5, .inl (cY 1, 64, .inr (.inl fthn1_2)))], [(a 6, .inl (cY 1, 6, .inr (.inl foth1_3)))]] : List va_W).flatten H := hP
            have hD : va_D A ([mO a (nI n) (nI k) th, [(a 1, .inl (cY 0, 72, .inl fto))], [(a 4, .inl (cY 1, 64, .inr (.inl fnow1_1)))], [(a 5, .inl (cY 1, 64, .inr (.inl fthn1_2)))], [(a 6, .inl (cY 1, 6, .inr (.inl foth1_3)))]] : List va_W).flatten := hD
            have hds : dst (PL g n k one t) (PL g n k other t) n ≤ k ^ t := Nat.le_trans dst_le (Nat.le_of_eq (PL_sum hgn (by omega) t))
            refine lv_lmul hx hb dX9_isMixed_40 ?_
            refine eql (x' := lN (1000 * (dst (PL g n k one t) (PL g n k other t) n))) (lN_mul _ _) ?_
            refine lv_iload_n hx hb dX9_isMixed_41 rfl (lv_at hl 1 rfl) ?_
            refine lv_i2l (v := lN th2) hx hb dX9_isMixed_42 (nI_l (by omega)) ?_
            refine lv_aload_n hx hb dX9_isMixed_43 rfl (lv_at hl 0 rfl) ?_
            refine lv_iload_n hx hb dX9_isMixed_44 rfl (lv_at hl 2 rfl) ?_
            refine ca_l (CL := [mO a (nI n) (nI k) th]) (va_runV (As := [.int (nI t)]) (rest := [.long (lN th2), .long (lN (1000 * (dst (PL g n k one t) (PL g n k other t) n)))]) ⟨hx, hb, hml, hown, hts⟩ (c_X9_power l D cY H.size a n k th t (by omega) (by omega) (by omega) (by omega) (by omega)) (cwV 1 hts gX9_isMixed_X9_power rfl rfl rfl (by decide +kernel) ⟨Nat.le_of_ble_eq_true rfl, Nat.le_of_ble_eq_true rfl⟩) (b_preV hVK hP hD [0] rfl rfl 0 rfl rfl) rfl rfl hl.1 rfl (lv_room (Nat.le_of_ble_eq_true rfl)) dX9_isMixed_45 ⟨Nat.le_refl _, Nat.le_refl _⟩) hP hD hS hA [0] rfl rfl (fun _ => rfl) (fun r45 uu H locs hq hP hD hS => ?_)
            subst hq
            have hP : va_P D vwCl ([mO a (nI n) (nI k) th, [(a 1, .inl (cY 0, 72, .inl fto))], [(a 4, .inl (cY 1, 64, .inr (.inl fnow1_1)))], [(a 5, .inl (cY 1, 64, .inr (.inl fthn1_2)))], [(a 6, .inl (cY 1, 6, .inr (.inl foth1_3)))]] : List va_W).flatten H := hP
            have hD : va_D A ([mO a (nI n) (nI k) th, [(a 1, .inl (cY 0, 72, .inl fto))], [(a 4, .inl (cY 1, 64, .inr (.inl fnow1_1)))], [(a 5, .inl (cY 1, 64, .inr (.inl fthn1_2)))], [(a 6, .inl (cY 1, 6, .inr (.inl foth1_3)))]] : List va_W).flatten := hD
            refine lv_lmul hx hb dX9_isMixed_48 ?_
            refine eql (x' := lN (th2 * (k ^ t))) (lN_mul _ _) ?_
            refine W.lcmp hx hb dX9_isMixed_49 ?_
            refine l_if_gt (tgt := 57) hx hb dX9_isMixed_50 (by decide) (fun h50 => ?_) (fun h50 => ?_)
            · -- t
              have h50 := llt (by omega) (by omega) h50
              have hC : mixC g n k th2 t one other = false := decide_eq_false (by omega)
              refine lv_iconst (v := nI 0) hx hb dX9_isMixed_57 (by decide) ?_
              refine eqi (x' := bI (allB (mixC g n k th2 t one) (other + 1) && allB (fun one => allB (fun other => mixC g n k th2 t one other) one) one)) (by first | exact mx_f (Or.inl h25) | exact mx_f (Or.inr hC)) ?_
              refine lv_istore_n (lv' := [(3, .int (bI (allB (mixC g n k th2 t one) (other + 1) && allB (fun one => allB (fun other => mixC g n k th2 t one other) one) one))), (0, .ref (a 0)), (1, .int (nI th2)), (2, .int (nI t)), (4, .int (nI one)), (5, .int (nI other))]) hx hb dX9_isMixed_58 rfl hl (by decide) rfl (fun ls hl => ?_)
              refine lv_iinc (v := nI (other + 1)) (lv' := [(5, .int (nI (other + 1))), (3, .int (bI (allB (mixC g n k th2 t one) (other + 1) && allB (fun one => allB (fun other => mixC g n k th2 t one other) one) one))), (0, .ref (a 0)), (1, .int (nI th2)), (2, .int (nI t)), (4, .int (nI one))]) hx hb dX9_isMixed_59 hl (k := 5) rfl (nI_1 other) (by decide) rfl (fun ls hl => ?_)
              refine lv_goto (tgt := 17) hx hb dX9_isMixed_62 (by decide) ?_
              exact ih17 (by omega) fnow1_1 fthn1_2 foth1_3  _ _ hP hD hS _ (lv_sub hl [2, 3, 4, 1, 5, 0] rfl)
            · -- f
              have h50 := lnlt (by omega) (by omega) h50
              have hC : mixC g n k th2 t one other = true := decide_eq_true (by omega)
              refine lv_iconst (v := nI 1) hx hb dX9_isMixed_53 (by decide) ?_
              refine lv_goto (tgt := 58) hx hb dX9_isMixed_54 (by decide) ?_
              refine eqi (x' := bI (allB (mixC g n k th2 t one) (other + 1) && allB (fun one => allB (fun other => mixC g n k th2 t one other) one) one)) (mx_t h25 hC) ?_
              refine lv_istore_n (lv' := [(3, .int (bI (allB (mixC g n k th2 t one) (other + 1) && allB (fun one => allB (fun other => mixC g n k th2 t one other) one) one))), (0, .ref (a 0)), (1, .int (nI th2)), (2, .int (nI t)), (4, .int (nI one)), (5, .int (nI other))]) hx hb dX9_isMixed_58 rfl hl (by decide) rfl (fun ls hl => ?_)
              refine lv_iinc (v := nI (other + 1)) (lv' := [(5, .int (nI (other + 1))), (3, .int (bI (allB (mixC g n k th2 t one) (other + 1) && allB (fun one => allB (fun other => mixC g n k th2 t one other) one) one))), (0, .ref (a 0)), (1, .int (nI th2)), (2, .int (nI t)), (4, .int (nI one))]) hx hb dX9_isMixed_59 hl (k := 5) rfl (nI_1 other) (by decide) rfl (fun ls hl => ?_)
              refine lv_goto (tgt := 17) hx hb dX9_isMixed_62 (by decide) ?_
              exact ih17 (by omega) fnow1_1 fthn1_2 foth1_3  _ _ hP hD hS _ (lv_sub hl [2, 3, 4, 1, 5, 0] rfl)
      exact L17 0 (by omega) fN fT fO  _ _ hP hD hS _ (lv_sub hl [1, 2, 3, 4, 5, 0] rfl)
  exact L5 0 (by omega) fnow fthn foth  _ _ hP hD hS _ (lv_sub hl [2, 3, 4, 1, 0] rfl)

set_option maxHeartbeats 4000000 in
set_option maxRecDepth 100000 in
theorem c_X9_image (l : Launch) (D : va_G) (cY : Nat → ClassId) (sz : Nat) (a : Nat → Nat) (n : Nat) (k : Nat) (th : Int32) (fto : Nat → Int32) (g : Nat → Nat → Nat) (X : Nat) (j : Nat) (hn1 : 1 ≤ n) (hn6 : n ≤ 6) (hk1 : 1 ≤ k) (hk12 : k ≤ 12) (hG : ∀ i j, i < n → j < k → fto (12 * i + j) = nI (g i j)) (hgn : ∀ i j, i < n → j < k → g i j < n) (hX : X < 64) (hj : j < k) : Met l yX9_image wsX9_image ({ frames := 1, cells := 0, slots := 0, locals := 40 }) (cP D cY [.ref (a 0), .int (nI X), .int (nI j)] [mO a (nI n) (nI k) th, [(a 1, .inl (cY 0, 72, .inl fto))]] sz) (qI (S := Unit) D cY (fun r u => r = nI (img g j X n)) (fun u => [mO a (nI n) (nI k) th, [(a 1, .inl (cY 0, 72, .inl fto))]]) (va_A ([mO a (nI n) (nI k) th, [(a 1, .inl (cY 0, 72, .inl fto))]] : List va_W).flatten sz)) 0 0 (va_A ([mO a (nI n) (nI k) th, [(a 1, .inl (cY 0, 72, .inl fto))]] : List va_W).flatten sz) := by
  refine mtB (Qc := fun A => qI (S := Unit) D cY (fun r u => r = nI (img g j X n)) (fun u => [mO a (nI n) (nI k) th, [(a 1, .inl (cY 0, 72, .inl fto))]]) A) (cc := cX9_image) (maxL := 5) (ret := (some .int)) (by decide) rfl (Nat.le_of_ble_eq_true rfl) ?_
  intro p e s m below meth c A ls hx hb hr hml hts hown hlocks hnm hsz hP hK hVK hD hS hA hl
  have hown : s.vm.findClass RX9 = some m.cls := hown
  have hl : lv_has ls 5 [(0, .ref (a 0)), (1, .int (nI X)), (2, .int (nI j))] := hl
  have hP : va_P D vwCl ([mO a (nI n) (nI k) th, [(a 1, .inl (cY 0, 72, .inl fto))]] : List va_W).flatten s.heap := hP
  have hD : va_D A ([mO a (nI n) (nI k) th, [(a 1, .inl (cY 0, 72, .inl fto))]] : List va_W).flatten := hD
  refine lv_iconst (v := nI 0) hx hb dX9_image_0 (by decide) ?_
  refine lv_istore_n (lv' := [(3, .int (nI 0)), (0, .ref (a 0)), (1, .int (nI X)), (2, .int (nI j))]) hx hb dX9_image_1 rfl hl (by decide) rfl (fun ls hl => ?_)
  refine lv_iconst (v := nI 0) hx hb dX9_image_2 (by decide) ?_
  refine lv_istore (lv' := [(4, .int (nI 0)), (3, .int (nI 0)), (0, .ref (a 0)), (1, .int (nI X)), (2, .int (nI j))]) hx hb dX9_image_3 hl (by decide) rfl (fun ls hl => ?_)
  have L5 : ∀ q : Nat, q ≤ n →  ∀ (H : Heap) (locs : List Loc), va_P D vwCl ([mO a (nI n) (nI k) th, [(a 1, .inl (cY 0, 72, .inl fto))]] : List va_W).flatten H → va_D A ([mO a (nI n) (nI k) th, [(a 1, .inl (cY 0, 72, .inl fto))]] : List va_W).flatten → va_S A s.heap H locs → ∀ (ls : Array Slot), lv_has ls 5 [(0, .ref (a 0)), (1, .int (nI X)), (2, .int (nI j)), (3, .int (nI (img g j X q))), (4, .int (nI q))] → W p l e ({ frames := 1, cells := 0, slots := 0, locals := 40 }) s m ([.ref (a 0), .int (nI X), .int (nI j)] : List Value).toArray below meth c H locs 0 0 (MQ below (qI (S := Unit) D cY (fun r u => r = nI (img g j X n)) (fun u => [mO a (nI n) (nI k) th, [(a 1, .inl (cY 0, 72, .inl fto))]]) A) ([.ref (a 0), .int (nI X), .int (nI j)] : List Value).toArray s 0 0 A) (F0 m 5 ls []) := by
    refine lpW n ?_
    intro q bq ih5   H locs hP hD hS ls hl
    refine lv_iload hx hb dX9_image_5 (lv_at hl 4 rfl) ?_
    refine lv_aload_n hx hb dX9_image_7 rfl (lv_at hl 0 rfl) ?_
    refine b_get (ci := 9) (v := .int (nI n)) (C := RX9) (T := TX9) (N := 13) hx hb hts (by decide +kernel) hown hK hP 0 rfl rfl 0 (by decide) (hts (.fieldLink RX9 7 "ChanceHallModel" "states" "I") (by decide +kernel)) (fun _ h9 => h9) rfl dX9_image_8 ?_
    refine n_icmp_ge (tgt := 46) hx hb dX9_image_11 (by decide) (by omega) (by omega) (fun h11 => ?_) (fun h11 => ?_)
    · -- t
      refine lv_iload_n hx hb dX9_image_46 rfl (lv_at hl 3 rfl) ?_
      exact r_i hx hb hr hlocks hP hD hS () rfl (by (have e : q = n := by omega); subst e; rfl) dX9_image_47
    · -- f
      refine lv_iload_n hx hb dX9_image_14 rfl (lv_at hl 3 rfl) ?_
      refine lv_iload_n hx hb dX9_image_15 rfl (lv_at hl 1 rfl) ?_
      refine lv_iload hx hb dX9_image_16 (lv_at hl 4 rfl) ?_
      refine lv_ishr hx hb dX9_image_18 ?_
      refine eqi (x' := nI (X / 2 ^ q)) (nI_shr (by omega) (by omega)) ?_
      have hxd : X / 2 ^ q ≤ X := Nat.div_le_self _ _
      refine lv_iconst (v := nI 1) hx hb dX9_image_19 (by decide) ?_
      refine lv_iand hx hb dX9_image_20 ?_
      refine eqi (x' := nI ((X / 2 ^ q) &&& 1)) (nI_and _ _) ?_
      refine eqi (x' := nI (X / 2 ^ q % 2)) (congrArg nI (Nat.and_one_is_mod _)) ?_
      refine lv_iconst (v := nI 1) hx hb dX9_image_21 (by decide) ?_
      refine n_icmp_ne (tgt := 37) hx hb dX9_image_22 (by decide) (by omega) (by omega) (fun h22 => ?_) (fun h22 => ?_)
      · -- t
        refine lv_iconst (v := nI 0) hx hb dX9_image_37 (by decide) ?_
        refine lv_ior hx hb dX9_image_38 ?_
        refine eqi (x' := nI ((img g j X q) ||| 0)) (nI_or _ _) ?_
        refine eqi (x' := nI (img g j X (q + 1))) (congrArg nI (by simp [img, h22])) ?_
        refine lv_istore_n (lv' := [(3, .int (nI (img g j X (q + 1)))), (0, .ref (a 0)), (1, .int (nI X)), (2, .int (nI j)), (4, .int (nI q))]) hx hb dX9_image_39 rfl hl (by decide) rfl (fun ls hl => ?_)
        refine lv_iinc (v := nI (q + 1)) (lv' := [(4, .int (nI (q + 1))), (3, .int (nI (img g j X (q + 1)))), (0, .ref (a 0)), (1, .int (nI X)), (2, .int (nI j))]) hx hb dX9_image_40 hl (k := 4) rfl (nI_1 q) (by decide) rfl (fun ls hl => ?_)
        refine lv_goto (tgt := 5) hx hb dX9_image_43 (by decide) ?_
        exact ih5 (by omega)   _ _ hP hD hS _ (lv_sub hl [2, 3, 4, 1, 0] rfl)
      · -- f
        refine lv_iconst (v := nI 1) hx hb dX9_image_25 (by decide) ?_
        refine lv_aload_n hx hb dX9_image_26 rfl (lv_at hl 0 rfl) ?_
        refine lv_iload hx hb dX9_image_27 (lv_at hl 4 rfl) ?_
        refine lv_iload_n hx hb dX9_image_29 rfl (lv_at hl 2 rfl) ?_
        refine ca_i (CL := [mO a (nI n) (nI k) th, [(a 1, .inl (cY 0, 72, .inl fto))]]) (va_runV (As := [.int (nI q), .int (nI j)]) (rest := [.int (nI 1), .int (nI (img g j X q))]) ⟨hx, hb, hml, hown, hts⟩ (c_X9_goes l D cY H.size a n k th fto g q j (by omega) (by omega) (by omega) (by omega) hG (by omega) (by omega)) (cwV 2 hts gX9_image_X9_goes rfl rfl rfl (by decide +kernel) ⟨Nat.le_of_ble_eq_true rfl, Nat.le_of_ble_eq_true rfl⟩) (b_preV hVK hP hD [0, 1] rfl rfl 0 rfl rfl) rfl rfl hl.1 rfl (lv_room (Nat.le_of_ble_eq_true rfl)) dX9_image_30 ⟨Nat.le_refl _, Nat.le_refl _⟩) hP hD hS hA [0, 1] rfl rfl (fun _ => rfl) (fun r30 uu H locs hq hP hD hS => ?_)
        subst hq
        have hP : va_P D vwCl ([mO a (nI n) (nI k) th, [(a 1, .inl (cY 0, 72, .inl fto))]] : List va_W).flatten H := hP
        have hD : va_D A ([mO a (nI n) (nI k) th, [(a 1, .inl (cY 0, 72, .inl fto))]] : List va_W).flatten := hD
        have hgi := hgn q j (by omega) hj
        refine lv_ishl hx hb dX9_image_33 ?_
        refine eqi (x' := nI (2 ^ (g q j))) (nI_shl1 (by omega)) ?_
        refine lv_goto (tgt := 38) hx hb dX9_image_34 (by decide) ?_
        refine lv_ior hx hb dX9_image_38 ?_
        refine eqi (x' := nI ((img g j X q) ||| (2 ^ (g q j)))) (nI_or _ _) ?_
        refine eqi (x' := nI (img g j X (q + 1))) (congrArg nI (by simp [img, h22])) ?_
        refine lv_istore_n (lv' := [(3, .int (nI (img g j X (q + 1)))), (0, .ref (a 0)), (1, .int (nI X)), (2, .int (nI j)), (4, .int (nI q))]) hx hb dX9_image_39 rfl hl (by decide) rfl (fun ls hl => ?_)
        refine lv_iinc (v := nI (q + 1)) (lv' := [(4, .int (nI (q + 1))), (3, .int (nI (img g j X (q + 1)))), (0, .ref (a 0)), (1, .int (nI X)), (2, .int (nI j))]) hx hb dX9_image_40 hl (k := 4) rfl (nI_1 q) (by decide) rfl (fun ls hl => ?_)
        refine lv_goto (tgt := 5) hx hb dX9_image_43 (by decide) ?_
        exact ih5 (by omega)   _ _ hP hD hS _ (lv_sub hl [2, 3, 4, 1, 0] rfl)
  exact L5 0 (by omega)   _ _ hP hD hS _ (lv_sub hl [2, 3, 4, 1, 0] rfl)

set_option maxHeartbeats 4000000 in
set_option maxRecDepth 100000 in
theorem c_X9_togetherBy (l : Launch) (D : va_G) (cY : Nat → ClassId) (sz : Nat) (a : Nat → Nat) (n : Nat) (k : Nat) (th : Int32) (fto : Nat → Int32) (fnow : Nat → Int64) (fthn : Nat → Int64) (g : Nat → Nat → Nat) (t : Nat) (b : Nat) (hn1 : 1 ≤ n) (hn6 : n ≤ 6) (hk1 : 1 ≤ k) (hk12 : k ≤ 12) (hG : ∀ i j, i < n → j < k → fto (12 * i + j) = nI (g i j)) (hgn : ∀ i j, i < n → j < k → g i j < n) (ht : t ≤ 12) (hb6 : b < n) : Met l yX9_togetherBy wsX9_togetherBy ({ frames := 2, cells := 0, slots := 0, locals := 80 }) (cP D cY [.ref (a 0), .int (nI t), .int (nI b)] [mO a (nI n) (nI k) th, [(a 1, .inl (cY 0, 72, .inl fto))], [(a 4, .inl (cY 1, 64, .inr (.inl fnow)))], [(a 5, .inl (cY 1, 64, .inr (.inl fthn)))]] sz) (qL (S := (Nat → Int64) × (Nat → Int64)) D cY (fun r u => r = lN (PL (ig g n) 64 k (2 ^ n - 1) t (2 ^ b))) (fun u => [mO a (nI n) (nI k) th, [(a 1, .inl (cY 0, 72, .inl fto))], [(a 4, .inl (cY 1, 64, .inr (.inl u.1)))], [(a 5, .inl (cY 1, 64, .inr (.inl u.2)))]]) (va_A ([mO a (nI n) (nI k) th, [(a 1, .inl (cY 0, 72, .inl fto))], [(a 4, .inl (cY 1, 64, .inr (.inl fnow)))], [(a 5, .inl (cY 1, 64, .inr (.inl fthn)))]] : List va_W).flatten sz)) 0 0 (va_A ([mO a (nI n) (nI k) th, [(a 1, .inl (cY 0, 72, .inl fto))], [(a 4, .inl (cY 1, 64, .inr (.inl fnow)))], [(a 5, .inl (cY 1, 64, .inr (.inl fthn)))]] : List va_W).flatten sz) := by
  refine mtB (Qc := fun A => qL (S := (Nat → Int64) × (Nat → Int64)) D cY (fun r u => r = lN (PL (ig g n) 64 k (2 ^ n - 1) t (2 ^ b))) (fun u => [mO a (nI n) (nI k) th, [(a 1, .inl (cY 0, 72, .inl fto))], [(a 4, .inl (cY 1, 64, .inr (.inl u.1)))], [(a 5, .inl (cY 1, 64, .inr (.inl u.2)))]]) A) (cc := cX9_togetherBy) (maxL := 6) (ret := (some .long)) (by decide) rfl (Nat.le_of_ble_eq_true rfl) ?_
  intro p e s m below meth c A ls hx hb hr hml hts hown hlocks hnm hsz hP hK hVK hD hS hA hl
  have hown : s.vm.findClass RX9 = some m.cls := hown
  have hl : lv_has ls 6 [(0, .ref (a 0)), (1, .int (nI t)), (2, .int (nI b))] := hl
  have hP : va_P D vwCl ([mO a (nI n) (nI k) th, [(a 1, .inl (cY 0, 72, .inl fto))], [(a 4, .inl (cY 1, 64, .inr (.inl fnow)))], [(a 5, .inl (cY 1, 64, .inr (.inl fthn)))]] : List va_W).flatten s.heap := hP
  have hD : va_D A ([mO a (nI n) (nI k) th, [(a 1, .inl (cY 0, 72, .inl fto))], [(a 4, .inl (cY 1, 64, .inr (.inl fnow)))], [(a 5, .inl (cY 1, 64, .inr (.inl fthn)))]] : List va_W).flatten := hD
  have h2n : 2 ^ n ≤ 64 := Nat.le_trans (Nat.pow_le_pow_right (by decide) hn6) (by decide)
  have h2m : 1 ≤ 2 ^ n := Nat.one_le_two_pow
  have h2b : 2 ^ b < 64 := pow64 hb6 hn6
  refine lv_aload_n hx hb dX9_togetherBy_0 rfl (lv_at hl 0 rfl) ?_
  refine lv_iconst (v := nI 1) hx hb dX9_togetherBy_1 (by decide) ?_
  refine lv_aload_n hx hb dX9_togetherBy_2 rfl (lv_at hl 0 rfl) ?_
  refine b_get (ci := 9) (v := .int (nI n)) (C := RX9) (T := TX9) (N := 13) hx hb hts (by decide +kernel) hown hK hP 0 rfl rfl 0 (by decide) (hts (.fieldLink RX9 7 "ChanceHallModel" "states" "I") (by decide +kernel)) (fun _ h9 => h9) rfl dX9_togetherBy_3 ?_
  refine lv_ishl hx hb dX9_togetherBy_6 ?_
  refine eqi (x' := nI (2 ^ n)) (nI_shl1 (by omega)) ?_
  refine lv_iconst (v := nI 1) hx hb dX9_togetherBy_7 (by decide) ?_
  refine lv_isub hx hb dX9_togetherBy_8 ?_
  refine eqi (x' := nI ((2 ^ n) - 1)) (pk_sub (by omega)) ?_
  refine ca_v (CL := [mO a (nI n) (nI k) th, [(a 4, .inl (cY 1, 64, .inr (.inl fnow)))]]) (va_runV (As := [.int (nI ((2 ^ n) - 1))]) (rest := []) ⟨hx, hb, hml, hown, hts⟩ (c_X9_begins l D cY s.heap.size a n k th fnow (nI ((2 ^ n) - 1))) (cwV 1 hts gX9_togetherBy_X9_begins rfl rfl rfl (by decide +kernel) ⟨Nat.le_of_ble_eq_true rfl, Nat.le_of_ble_eq_true rfl⟩) (b_preV hVK hP hD [0, 2] rfl rfl 0 rfl rfl) rfl rfl hl.1 rfl (lv_room (Nat.le_of_ble_eq_true rfl)) dX9_togetherBy_9 ⟨Nat.le_refl _, Nat.le_refl _⟩) hP hD hS hA [0, 2] rfl rfl (fun _ => rfl) (fun uu H locs hq hP hD hS => ?_)
  obtain ⟨fnow1_1, rfl⟩ : ∃ z, z = uu := ⟨_, rfl⟩
  try dsimp only at hq
  have q9 := hq
  have hP : va_P D vwCl ([mO a (nI n) (nI k) th, [(a 1, .inl (cY 0, 72, .inl fto))], [(a 4, .inl (cY 1, 64, .inr (.inl fnow1_1)))], [(a 5, .inl (cY 1, 64, .inr (.inl fthn)))]] : List va_W).flatten H := hP
  have hD : va_D A ([mO a (nI n) (nI k) th, [(a 1, .inl (cY 0, 72, .inl fto))], [(a 4, .inl (cY 1, 64, .inr (.inl fnow1_1)))], [(a 5, .inl (cY 1, 64, .inr (.inl fthn)))]] : List va_W).flatten := hD
  refine lv_iconst (v := nI 0) hx hb dX9_togetherBy_12 (by decide) ?_
  refine lv_istore_n (lv' := [(3, .int (nI 0)), (0, .ref (a 0)), (1, .int (nI t)), (2, .int (nI b))]) hx hb dX9_togetherBy_13 rfl hl (by decide) rfl (fun ls hl => ?_)
  have L14 : ∀ u : Nat, u ≤ t → ∀ (fN : Nat → Int64) (fT : Nat → Int64), (∀ X, X < 64 → fN X = lN (PL (ig g n) 64 k (2 ^ n - 1) u X)) → ∀ (H : Heap) (locs : List Loc), va_P D vwCl ([mO a (nI n) (nI k) th, [(a 1, .inl (cY 0, 72, .inl fto))], [(a 4, .inl (cY 1, 64, .inr (.inl fN)))], [(a 5, .inl (cY 1, 64, .inr (.inl fT)))]] : List va_W).flatten H → va_D A ([mO a (nI n) (nI k) th, [(a 1, .inl (cY 0, 72, .inl fto))], [(a 4, .inl (cY 1, 64, .inr (.inl fN)))], [(a 5, .inl (cY 1, 64, .inr (.inl fT)))]] : List va_W).flatten → va_S A s.heap H locs → ∀ (ls : Array Slot), lv_has ls 6 [(0, .ref (a 0)), (1, .int (nI t)), (2, .int (nI b)), (3, .int (nI u))] → W p l e ({ frames := 2, cells := 0, slots := 0, locals := 80 }) s m ([.ref (a 0), .int (nI t), .int (nI b)] : List Value).toArray below meth c H locs 0 0 (MQ below (qL (S := (Nat → Int64) × (Nat → Int64)) D cY (fun r u => r = lN (PL (ig g n) 64 k (2 ^ n - 1) t (2 ^ b))) (fun u => [mO a (nI n) (nI k) th, [(a 1, .inl (cY 0, 72, .inl fto))], [(a 4, .inl (cY 1, 64, .inr (.inl u.1)))], [(a 5, .inl (cY 1, 64, .inr (.inl u.2)))]]) A) ([.ref (a 0), .int (nI t), .int (nI b)] : List Value).toArray s 0 0 A) (F0 m 14 ls []) := by
    refine lpW t ?_
    intro u bu ih14 fN fT hI H locs hP hD hS ls hl
    refine lv_iload_n hx hb dX9_togetherBy_14 rfl (lv_at hl 3 rfl) ?_
    refine lv_iload_n hx hb dX9_togetherBy_15 rfl (lv_at hl 1 rfl) ?_
    refine n_icmp_ge (tgt := 98) hx hb dX9_togetherBy_16 (by decide) (by omega) (by omega) (fun h16 => ?_) (fun h16 => ?_)
    · -- t
      refine lv_aload_n hx hb dX9_togetherBy_98 rfl (lv_at hl 0 rfl) ?_
      refine b_get (ci := 9) (v := .ref (a 4)) (C := RX9) (T := TX9) (N := 13) hx hb hts (by decide +kernel) hown hK hP 0 rfl rfl 5 (by decide) (hts (.fieldLink RX9 26 "ChanceHallModel" "now" "[J") (by decide +kernel)) (fun _ h9 => h9) rfl dX9_togetherBy_99 ?_
      refine lv_iconst (v := nI 1) hx hb dX9_togetherBy_102 (by decide) ?_
      refine lv_iload_n hx hb dX9_togetherBy_103 rfl (lv_at hl 2 rfl) ?_
      refine lv_ishl hx hb dX9_togetherBy_104 ?_
      refine eqi (x' := nI (2 ^ b)) (nI_shl1 (by omega)) ?_
      refine b_lald hx hb hK hP 2 1 rfl rfl (by omega) (by decide) dX9_togetherBy_105 ?_
      exact r_l hx hb hr hlocks hP hD hS (fN, fT) rfl (by (have e : u = t := by omega); subst e; exact hI _ h2b) dX9_togetherBy_106
    · -- f
      have hpw := pow_b (k := k) (t := u) hk12 hk1 (by omega)
      refine lv_aload_n hx hb dX9_togetherBy_19 rfl (lv_at hl 0 rfl) ?_
      refine ca_v (CL := [mO a (nI n) (nI k) th, [(a 4, .inl (cY 1, 64, .inr (.inl fN)))], [(a 5, .inl (cY 1, 64, .inr (.inl fT)))]]) (va_runV (As := []) (rest := []) ⟨hx, hb, hml, hown, hts⟩ (c_X9_keeps l D cY H.size a n k th fN fT) (cwV 0 hts gX9_togetherBy_X9_keeps rfl rfl rfl (by decide +kernel) ⟨Nat.le_of_ble_eq_true rfl, Nat.le_of_ble_eq_true rfl⟩) (b_preV hVK hP hD [0, 2, 3] rfl rfl 0 rfl rfl) rfl rfl hl.1 rfl (lv_room (Nat.le_of_ble_eq_true rfl)) dX9_togetherBy_20 ⟨Nat.le_refl _, Nat.le_refl _⟩) hP hD hS hA [0, 2, 3] rfl rfl (fun _ => rfl) (fun uu H locs hq hP hD hS => ?_)
      obtain ⟨fnow1_2, fthn1_3⟩ := uu
      try dsimp only at hq
      have q20 := hq
      have hP : va_P D vwCl ([mO a (nI n) (nI k) th, [(a 1, .inl (cY 0, 72, .inl fto))], [(a 4, .inl (cY 1, 64, .inr (.inl fnow1_2)))], [(a 5, .inl (cY 1, 64, .inr (.inl fthn1_3)))]] : List va_W).flatten H := hP
      have hD : va_D A ([mO a (nI n) (nI k) th, [(a 1, .inl (cY 0, 72, .inl fto))], [(a 4, .inl (cY 1, 64, .inr (.inl fnow1_2)))], [(a 5, .inl (cY 1, 64, .inr (.inl fthn1_3)))]] : List va_W).flatten := hD
      refine lv_iconst (v := nI 0) hx hb dX9_togetherBy_23 (by decide) ?_
      refine lv_istore (lv' := [(4, .int (nI 0)), (0, .ref (a 0)), (1, .int (nI t)), (2, .int (nI b)), (3, .int (nI u))]) hx hb dX9_togetherBy_24 hl (by decide) rfl (fun ls hl => ?_)
      have L26 : ∀ Y : Nat, Y ≤ 64 → ∀ (fM : Nat → Int64), (RI (PL (ig g n) 64 k (2 ^ n - 1) u) (ig g n) k 64 Y 0 fM) → ∀ (H : Heap) (locs : List Loc), va_P D vwCl ([mO a (nI n) (nI k) th, [(a 1, .inl (cY 0, 72, .inl fto))], [(a 4, .inl (cY 1, 64, .inr (.inl fM)))], [(a 5, .inl (cY 1, 64, .inr (.inl fthn1_3)))]] : List va_W).flatten H → va_D A ([mO a (nI n) (nI k) th, [(a 1, .inl (cY 0, 72, .inl fto))], [(a 4, .inl (cY 1, 64, .inr (.inl fM)))], [(a 5, .inl (cY 1, 64, .inr (.inl fthn1_3)))]] : List va_W).flatten → va_S A s.heap H locs → ∀ (ls : Array Slot), lv_has ls 6 [(0, .ref (a 0)), (1, .int (nI t)), (2, .int (nI b)), (3, .int (nI u)), (4, .int (nI Y))] → W p l e ({ frames := 2, cells := 0, slots := 0, locals := 80 }) s m ([.ref (a 0), .int (nI t), .int (nI b)] : List Value).toArray below meth c H locs 0 0 (MQ below (qL (S := (Nat → Int64) × (Nat → Int64)) D cY (fun r u => r = lN (PL (ig g n) 64 k (2 ^ n - 1) t (2 ^ b))) (fun u => [mO a (nI n) (nI k) th, [(a 1, .inl (cY 0, 72, .inl fto))], [(a 4, .inl (cY 1, 64, .inr (.inl u.1)))], [(a 5, .inl (cY 1, 64, .inr (.inl u.2)))]]) A) ([.ref (a 0), .int (nI t), .int (nI b)] : List Value).toArray s 0 0 A) (F0 m 26 ls []) := by
        refine lpW 64 ?_
        intro Y bY ih26 fM hJ H locs hP hD hS ls hl
        refine lv_iload hx hb dX9_togetherBy_26 (lv_at hl 4 rfl) ?_
        refine lv_bipush (v := nI 64) hx hb dX9_togetherBy_28 (by decide) ?_
        refine n_icmp_ge (tgt := 92) hx hb dX9_togetherBy_30 (by decide) (by omega) (by omega) (fun h30 => ?_) (fun h30 => ?_)
        · -- t
          refine lv_iinc (v := nI (u + 1)) (lv' := [(3, .int (nI (u + 1))), (0, .ref (a 0)), (1, .int (nI t)), (2, .int (nI b)), (4, .int (nI Y))]) hx hb dX9_togetherBy_92 hl (k := 3) rfl (nI_1 u) (by decide) rfl (fun ls hl => ?_)
          refine lv_goto (tgt := 14) hx hb dX9_togetherBy_95 (by decide) ?_
          exact ih14 (by omega) fM fthn1_3 (RI_e (by (have e : Y = 64 := by omega); subst e; exact hJ)) _ _ hP hD hS _ (lv_sub hl [1, 2, 3, 0] rfl)
        · -- f
          refine lv_iconst (v := nI 0) hx hb dX9_togetherBy_33 (by decide) ?_
          refine lv_istore (lv' := [(5, .int (nI 0)), (0, .ref (a 0)), (1, .int (nI t)), (2, .int (nI b)), (3, .int (nI u)), (4, .int (nI Y))]) hx hb dX9_togetherBy_34 hl (by decide) rfl (fun ls hl => ?_)
          have L36 : ∀ w : Nat, w ≤ k → ∀ (fW : Nat → Int64), (RI (PL (ig g n) 64 k (2 ^ n - 1) u) (ig g n) k 64 Y w fW) → ∀ (H : Heap) (locs : List Loc), va_P D vwCl ([mO a (nI n) (nI k) th, [(a 1, .inl (cY 0, 72, .inl fto))], [(a 4, .inl (cY 1, 64, .inr (.inl fW)))], [(a 5, .inl (cY 1, 64, .inr (.inl fthn1_3)))]] : List va_W).flatten H → va_D A ([mO a (nI n) (nI k) th, [(a 1, .inl (cY 0, 72, .inl fto))], [(a 4, .inl (cY 1, 64, .inr (.inl fW)))], [(a 5, .inl (cY 1, 64, .inr (.inl fthn1_3)))]] : List va_W).flatten → va_S A s.heap H locs → ∀ (ls : Array Slot), lv_has ls 6 [(0, .ref (a 0)), (1, .int (nI t)), (2, .int (nI b)), (3, .int (nI u)), (4, .int (nI Y)), (5, .int (nI w))] → W p l e ({ frames := 2, cells := 0, slots := 0, locals := 80 }) s m ([.ref (a 0), .int (nI t), .int (nI b)] : List Value).toArray below meth c H locs 0 0 (MQ below (qL (S := (Nat → Int64) × (Nat → Int64)) D cY (fun r u => r = lN (PL (ig g n) 64 k (2 ^ n - 1) t (2 ^ b))) (fun u => [mO a (nI n) (nI k) th, [(a 1, .inl (cY 0, 72, .inl fto))], [(a 4, .inl (cY 1, 64, .inr (.inl u.1)))], [(a 5, .inl (cY 1, 64, .inr (.inl u.2)))]]) A) ([.ref (a 0), .int (nI t), .int (nI b)] : List Value).toArray s 0 0 A) (F0 m 36 ls []) := by
            refine lpW k ?_
            intro w bw ih36 fW hM H locs hP hD hS ls hl
            refine lv_iload hx hb dX9_togetherBy_36 (lv_at hl 5 rfl) ?_
            refine lv_aload_n hx hb dX9_togetherBy_38 rfl (lv_at hl 0 rfl) ?_
            refine b_get (ci := 9) (v := .int (nI k)) (C := RX9) (T := TX9) (N := 13) hx hb hts (by decide +kernel) hown hK hP 0 rfl rfl 1 (by decide) (hts (.fieldLink RX9 13 "ChanceHallModel" "slots" "I") (by decide +kernel)) (fun _ h9 => h9) rfl dX9_togetherBy_39 ?_
            refine n_icmp_ge (tgt := 86) hx hb dX9_togetherBy_42 (by decide) (by omega) (by omega) (fun h42 => ?_) (fun h42 => ?_)
            · -- t
              refine lv_iinc (v := nI (Y + 1)) (lv' := [(4, .int (nI (Y + 1))), (0, .ref (a 0)), (1, .int (nI t)), (2, .int (nI b)), (3, .int (nI u)), (5, .int (nI w))]) hx hb dX9_togetherBy_86 hl (k := 4) rfl (nI_1 Y) (by decide) rfl (fun ls hl => ?_)
              refine lv_goto (tgt := 26) hx hb dX9_togetherBy_89 (by decide) ?_
              exact ih26 (by omega) fW (by first | exact RI_k hM (Or.inl (by omega)) | exact RI_k hM (Or.inr hv0)) _ _ hP hD hS _ (lv_sub hl [1, 2, 3, 4, 0] rfl)
            · -- f
              refine lv_aload_n hx hb dX9_togetherBy_45 rfl (lv_at hl 0 rfl) ?_
              refine b_get (ci := 9) (v := .ref (a 5)) (C := RX9) (T := TX9) (N := 13) hx hb hts (by decide +kernel) hown hK hP 0 rfl rfl 6 (by decide) (hts (.fieldLink RX9 30 "ChanceHallModel" "then" "[J") (by decide +kernel)) (fun _ h9 => h9) rfl dX9_togetherBy_46 ?_
              refine lv_iload hx hb dX9_togetherBy_49 (lv_at hl 4 rfl) ?_
              refine b_lald hx hb hK hP 3 1 rfl rfl (by omega) (by decide) dX9_togetherBy_51 ?_
              refine eql (x' := lN (PL (ig g n) 64 k (2 ^ n - 1) u Y)) (by rw [(q20 Y (by omega)).2]; exact hI Y (by omega)) ?_
              have hvb := PL_le' (g := ig g n) (n := 64) (k := k) (f := 2 ^ n - 1) (t := u) (b := Y) (by omega)
              refine lv_lconst (v := lN 0) hx hb dX9_togetherBy_52 (by decide) ?_
              refine W.lcmp hx hb dX9_togetherBy_53 ?_
              refine l_if_le (tgt := 86) hx hb dX9_togetherBy_54 (by decide) (fun h54 => ?_) (fun h54 => ?_)
              · -- t
                have hv0 := lzer (by omega) h54
                refine lv_iinc (v := nI (Y + 1)) (lv' := [(4, .int (nI (Y + 1))), (0, .ref (a 0)), (1, .int (nI t)), (2, .int (nI b)), (3, .int (nI u)), (5, .int (nI w))]) hx hb dX9_togetherBy_86 hl (k := 4) rfl (nI_1 Y) (by decide) rfl (fun ls hl => ?_)
                refine lv_goto (tgt := 26) hx hb dX9_togetherBy_89 (by decide) ?_
                exact ih26 (by omega) fW (by first | exact RI_k hM (Or.inl (by omega)) | exact RI_k hM (Or.inr hv0)) _ _ hP hD hS _ (lv_sub hl [1, 2, 3, 4, 0] rfl)
              · -- f
                refine lv_aload_n hx hb dX9_togetherBy_57 rfl (lv_at hl 0 rfl) ?_
                refine b_get (ci := 9) (v := .ref (a 4)) (C := RX9) (T := TX9) (N := 13) hx hb hts (by decide +kernel) hown hK hP 0 rfl rfl 5 (by decide) (hts (.fieldLink RX9 26 "ChanceHallModel" "now" "[J") (by decide +kernel)) (fun _ h9 => h9) rfl dX9_togetherBy_58 ?_
                refine lv_aload_n hx hb dX9_togetherBy_61 rfl (lv_at hl 0 rfl) ?_
                refine lv_iload hx hb dX9_togetherBy_62 (lv_at hl 4 rfl) ?_
                refine lv_iload hx hb dX9_togetherBy_64 (lv_at hl 5 rfl) ?_
                refine ca_i (CL := [mO a (nI n) (nI k) th, [(a 1, .inl (cY 0, 72, .inl fto))]]) (va_runV (As := [.int (nI Y), .int (nI w)]) (rest := [.ref (a 4)]) ⟨hx, hb, hml, hown, hts⟩ (c_X9_image l D cY H.size a n k th fto g Y w (by omega) (by omega) (by omega) (by omega) hG hgn (by omega) (by omega)) (cwV 2 hts gX9_togetherBy_X9_image rfl rfl rfl (by decide +kernel) ⟨Nat.le_of_ble_eq_true rfl, Nat.le_of_ble_eq_true rfl⟩) (b_preV hVK hP hD [0, 1] rfl rfl 0 rfl rfl) rfl rfl hl.1 rfl (lv_room (Nat.le_of_ble_eq_true rfl)) dX9_togetherBy_66 ⟨Nat.le_refl _, Nat.le_refl _⟩) hP hD hS hA [0, 1] rfl rfl (fun _ => rfl) (fun r66 uu H locs hq hP hD hS => ?_)
                subst hq
                have hP : va_P D vwCl ([mO a (nI n) (nI k) th, [(a 1, .inl (cY 0, 72, .inl fto))], [(a 4, .inl (cY 1, 64, .inr (.inl fW)))], [(a 5, .inl (cY 1, 64, .inr (.inl fthn1_3)))]] : List va_W).flatten H := hP
                have hD : va_D A ([mO a (nI n) (nI k) th, [(a 1, .inl (cY 0, 72, .inl fto))], [(a 4, .inl (cY 1, 64, .inr (.inl fW)))], [(a 5, .inl (cY 1, 64, .inr (.inl fthn1_3)))]] : List va_W).flatten := hD
                have hig : ig g n Y w < 64 := ig_lt hgn hn6 (by omega)
                have hig2 : img g w Y n < 64 := hig
                refine lv_dup2_11 hx hb dX9_togetherBy_69 rfl rfl ?_
                refine b_lald hx hb hK hP 2 1 rfl rfl (by omega) (by decide) dX9_togetherBy_70 ?_
                refine lv_aload_n hx hb dX9_togetherBy_71 rfl (lv_at hl 0 rfl) ?_
                refine b_get (ci := 9) (v := .ref (a 5)) (C := RX9) (T := TX9) (N := 13) hx hb hts (by decide +kernel) hown hK hP 0 rfl rfl 6 (by decide) (hts (.fieldLink RX9 30 "ChanceHallModel" "then" "[J") (by decide +kernel)) (fun _ h9 => h9) rfl dX9_togetherBy_72 ?_
                refine lv_iload hx hb dX9_togetherBy_75 (lv_at hl 4 rfl) ?_
                refine b_lald hx hb hK hP 3 1 rfl rfl (by omega) (by decide) dX9_togetherBy_77 ?_
                refine lv_ladd hx hb dX9_togetherBy_78 ?_
                refine b_last hx hb hK hP hD hS 2 1 rfl rfl (by omega) (by decide) dX9_togetherBy_79 (fun H locs hP hD hS => ?_)
                have hP : va_P D vwCl ([mO a (nI n) (nI k) th, [(a 1, .inl (cY 0, 72, .inl fto))], [(a 4, .inl (cY 1, 64, .inr (.inl (vp_updL fW (img g w Y n) ((fW (img g w Y n)) + (fthn1_3 Y))))))], [(a 5, .inl (cY 1, 64, .inr (.inl fthn1_3)))]] : List va_W).flatten H := hP
                have hD : va_D A ([mO a (nI n) (nI k) th, [(a 1, .inl (cY 0, 72, .inl fto))], [(a 4, .inl (cY 1, 64, .inr (.inl (vp_updL fW (img g w Y n) ((fW (img g w Y n)) + (fthn1_3 Y))))))], [(a 5, .inl (cY 1, 64, .inr (.inl fthn1_3)))]] : List va_W).flatten := hD
                refine lv_iinc (v := nI (w + 1)) (lv' := [(5, .int (nI (w + 1))), (0, .ref (a 0)), (1, .int (nI t)), (2, .int (nI b)), (3, .int (nI u)), (4, .int (nI Y))]) hx hb dX9_togetherBy_80 hl (k := 5) rfl (nI_1 w) (by decide) rfl (fun ls hl => ?_)
                refine lv_goto (tgt := 36) hx hb dX9_togetherBy_83 (by decide) ?_
                exact ih36 (by omega) (vp_updL fW (img g w Y n) ((fW (img g w Y n)) + (fthn1_3 Y))) (RI_s hM (by rw [(q20 Y (by omega)).2]; exact hI Y (by omega)) hig) _ _ hP hD hS _ (lv_sub hl [1, 2, 3, 4, 5, 0] rfl)
          exact L36 0 (by omega) fM hJ _ _ hP hD hS _ (lv_sub hl [1, 2, 3, 4, 5, 0] rfl)
      exact L26 0 (by omega) fnow1_2 (RI_0 (fun b hb => (q20 b (by omega)).1)) _ _ hP hD hS _ (lv_sub hl [1, 2, 3, 4, 0] rfl)
  exact L14 0 (by omega) fnow1_1 fthn (ig_0 (by omega) (by omega) q9) _ _ hP hD hS _ (lv_sub hl [1, 2, 3, 0] rfl)

set_option maxHeartbeats 4000000 in
set_option maxRecDepth 100000 in
theorem c_X9_ahead (l : Launch) (D : va_G) (cY : Nat → ClassId) (sz : Nat) (a : Nat → Nat) (n : Nat) (k : Nat) (th : Int32) (fto : Nat → Int32) (g : Nat → Nat → Nat) (X : Nat) (hn1 : 1 ≤ n) (hn6 : n ≤ 6) (hk1 : 1 ≤ k) (hk12 : k ≤ 12) (hG : ∀ i j, i < n → j < k → fto (12 * i + j) = nI (g i j)) (hgn : ∀ i j, i < n → j < k → g i j < n) (hX : X < 64) : Met l yX9_ahead wsX9_ahead ({ frames := 2, cells := 0, slots := 0, locals := 80 }) (cP D cY [.ref (a 0), .int (nI X)] [mO a (nI n) (nI k) th, [(a 1, .inl (cY 0, 72, .inl fto))]] sz) (qI (S := Unit) D cY (fun r u => r = nI (ahd g n X k)) (fun u => [mO a (nI n) (nI k) th, [(a 1, .inl (cY 0, 72, .inl fto))]]) (va_A ([mO a (nI n) (nI k) th, [(a 1, .inl (cY 0, 72, .inl fto))]] : List va_W).flatten sz)) 0 0 (va_A ([mO a (nI n) (nI k) th, [(a 1, .inl (cY 0, 72, .inl fto))]] : List va_W).flatten sz) := by
  refine mtB (Qc := fun A => qI (S := Unit) D cY (fun r u => r = nI (ahd g n X k)) (fun u => [mO a (nI n) (nI k) th, [(a 1, .inl (cY 0, 72, .inl fto))]]) A) (cc := cX9_ahead) (maxL := 4) (ret := (some .int)) (by decide) rfl (Nat.le_of_ble_eq_true rfl) ?_
  intro p e s m below meth c A ls hx hb hr hml hts hown hlocks hnm hsz hP hK hVK hD hS hA hl
  have hown : s.vm.findClass RX9 = some m.cls := hown
  have hl : lv_has ls 4 [(0, .ref (a 0)), (1, .int (nI X))] := hl
  have hP : va_P D vwCl ([mO a (nI n) (nI k) th, [(a 1, .inl (cY 0, 72, .inl fto))]] : List va_W).flatten s.heap := hP
  have hD : va_D A ([mO a (nI n) (nI k) th, [(a 1, .inl (cY 0, 72, .inl fto))]] : List va_W).flatten := hD
  refine lv_iconst (v := nI 0) hx hb dX9_ahead_0 (by decide) ?_
  refine lv_istore_n (lv' := [(2, .int (nI 0)), (0, .ref (a 0)), (1, .int (nI X))]) hx hb dX9_ahead_1 rfl hl (by decide) rfl (fun ls hl => ?_)
  refine lv_iconst (v := nI 0) hx hb dX9_ahead_2 (by decide) ?_
  refine lv_istore_n (lv' := [(3, .int (nI 0)), (2, .int (nI 0)), (0, .ref (a 0)), (1, .int (nI X))]) hx hb dX9_ahead_3 rfl hl (by decide) rfl (fun ls hl => ?_)
  have L4 : ∀ q : Nat, q ≤ k →  ∀ (H : Heap) (locs : List Loc), va_P D vwCl ([mO a (nI n) (nI k) th, [(a 1, .inl (cY 0, 72, .inl fto))]] : List va_W).flatten H → va_D A ([mO a (nI n) (nI k) th, [(a 1, .inl (cY 0, 72, .inl fto))]] : List va_W).flatten → va_S A s.heap H locs → ∀ (ls : Array Slot), lv_has ls 4 [(0, .ref (a 0)), (1, .int (nI X)), (2, .int (nI (ahd g n X q))), (3, .int (nI q))] → W p l e ({ frames := 2, cells := 0, slots := 0, locals := 80 }) s m ([.ref (a 0), .int (nI X)] : List Value).toArray below meth c H locs 0 0 (MQ below (qI (S := Unit) D cY (fun r u => r = nI (ahd g n X k)) (fun u => [mO a (nI n) (nI k) th, [(a 1, .inl (cY 0, 72, .inl fto))]]) A) ([.ref (a 0), .int (nI X)] : List Value).toArray s 0 0 A) (F0 m 4 ls []) := by
    refine lpW k ?_
    intro q bq ih4   H locs hP hD hS ls hl
    refine lv_iload_n hx hb dX9_ahead_4 rfl (lv_at hl 3 rfl) ?_
    refine lv_aload_n hx hb dX9_ahead_5 rfl (lv_at hl 0 rfl) ?_
    refine b_get (ci := 9) (v := .int (nI k)) (C := RX9) (T := TX9) (N := 13) hx hb hts (by decide +kernel) hown hK hP 0 rfl rfl 1 (by decide) (hts (.fieldLink RX9 13 "ChanceHallModel" "slots" "I") (by decide +kernel)) (fun _ h9 => h9) rfl dX9_ahead_6 ?_
    refine n_icmp_ge (tgt := 27) hx hb dX9_ahead_9 (by decide) (by omega) (by omega) (fun h9 => ?_) (fun h9 => ?_)
    · -- t
      refine lv_iload_n hx hb dX9_ahead_27 rfl (lv_at hl 2 rfl) ?_
      exact r_i hx hb hr hlocks hP hD hS () rfl (by (have e : q = k := by omega); subst e; rfl) dX9_ahead_28
    · -- f
      refine lv_iload_n hx hb dX9_ahead_12 rfl (lv_at hl 2 rfl) ?_
      refine lv_aload_n hx hb dX9_ahead_13 rfl (lv_at hl 0 rfl) ?_
      refine lv_iload_n hx hb dX9_ahead_14 rfl (lv_at hl 1 rfl) ?_
      refine lv_iload_n hx hb dX9_ahead_15 rfl (lv_at hl 3 rfl) ?_
      refine ca_i (CL := [mO a (nI n) (nI k) th, [(a 1, .inl (cY 0, 72, .inl fto))]]) (va_runV (As := [.int (nI X), .int (nI q)]) (rest := [.int (nI (ahd g n X q))]) ⟨hx, hb, hml, hown, hts⟩ (c_X9_image l D cY H.size a n k th fto g X q (by omega) (by omega) (by omega) (by omega) hG hgn (by omega) (by omega)) (cwV 2 hts gX9_ahead_X9_image rfl rfl rfl (by decide +kernel) ⟨Nat.le_of_ble_eq_true rfl, Nat.le_of_ble_eq_true rfl⟩) (b_preV hVK hP hD [0, 1] rfl rfl 0 rfl rfl) rfl rfl hl.1 rfl (lv_room (Nat.le_of_ble_eq_true rfl)) dX9_ahead_16 ⟨Nat.le_refl _, Nat.le_refl _⟩) hP hD hS hA [0, 1] rfl rfl (fun _ => rfl) (fun r16 uu H locs hq hP hD hS => ?_)
      subst hq
      have hP : va_P D vwCl ([mO a (nI n) (nI k) th, [(a 1, .inl (cY 0, 72, .inl fto))]] : List va_W).flatten H := hP
      have hD : va_D A ([mO a (nI n) (nI k) th, [(a 1, .inl (cY 0, 72, .inl fto))]] : List va_W).flatten := hD
      refine lv_ior hx hb dX9_ahead_19 ?_
      refine eqi (x' := nI ((ahd g n X q) ||| (img g q X n))) (nI_or _ _) ?_
      refine lv_istore_n (lv' := [(2, .int (nI ((ahd g n X q) ||| (img g q X n)))), (0, .ref (a 0)), (1, .int (nI X)), (3, .int (nI q))]) hx hb dX9_ahead_20 rfl hl (by decide) rfl (fun ls hl => ?_)
      refine lv_iinc (v := nI (q + 1)) (lv' := [(3, .int (nI (q + 1))), (2, .int (nI ((ahd g n X q) ||| (img g q X n)))), (0, .ref (a 0)), (1, .int (nI X))]) hx hb dX9_ahead_21 hl (k := 3) rfl (nI_1 q) (by decide) rfl (fun ls hl => ?_)
      refine lv_goto (tgt := 4) hx hb dX9_ahead_24 (by decide) ?_
      exact ih4 (by omega)   _ _ hP hD hS _ (lv_sub hl [2, 3, 1, 0] rfl)
  exact L4 0 (by omega)   _ _ hP hD hS _ (lv_sub hl [2, 3, 1, 0] rfl)

set_option maxHeartbeats 4000000 in
set_option maxRecDepth 100000 in
theorem c_X9_reached (l : Launch) (D : va_G) (cY : Nat → ClassId) (sz : Nat) (a : Nat → Nat) (n : Nat) (k : Nat) (th : Int32) (fto : Nat → Int32) (g : Nat → Nat → Nat) (i : Nat) (hn1 : 1 ≤ n) (hn6 : n ≤ 6) (hk1 : 1 ≤ k) (hk12 : k ≤ 12) (hG : ∀ i j, i < n → j < k → fto (12 * i + j) = nI (g i j)) (hgn : ∀ i j, i < n → j < k → g i j < n) (hi : i < n) : Met l yX9_reached wsX9_reached ({ frames := 3, cells := 0, slots := 0, locals := 120 }) (cP D cY [.ref (a 0), .int (nI i)] [mO a (nI n) (nI k) th, [(a 1, .inl (cY 0, 72, .inl fto))]] sz) (qI (S := Unit) D cY (fun r u => r = nI (rch g n k i n)) (fun u => [mO a (nI n) (nI k) th, [(a 1, .inl (cY 0, 72, .inl fto))]]) (va_A ([mO a (nI n) (nI k) th, [(a 1, .inl (cY 0, 72, .inl fto))]] : List va_W).flatten sz)) 0 0 (va_A ([mO a (nI n) (nI k) th, [(a 1, .inl (cY 0, 72, .inl fto))]] : List va_W).flatten sz) := by
  refine mtB (Qc := fun A => qI (S := Unit) D cY (fun r u => r = nI (rch g n k i n)) (fun u => [mO a (nI n) (nI k) th, [(a 1, .inl (cY 0, 72, .inl fto))]]) A) (cc := cX9_reached) (maxL := 4) (ret := (some .int)) (by decide) rfl (Nat.le_of_ble_eq_true rfl) ?_
  intro p e s m below meth c A ls hx hb hr hml hts hown hlocks hnm hsz hP hK hVK hD hS hA hl
  have hown : s.vm.findClass RX9 = some m.cls := hown
  have hl : lv_has ls 4 [(0, .ref (a 0)), (1, .int (nI i))] := hl
  have hP : va_P D vwCl ([mO a (nI n) (nI k) th, [(a 1, .inl (cY 0, 72, .inl fto))]] : List va_W).flatten s.heap := hP
  have hD : va_D A ([mO a (nI n) (nI k) th, [(a 1, .inl (cY 0, 72, .inl fto))]] : List va_W).flatten := hD
  refine lv_iconst (v := nI 1) hx hb dX9_reached_0 (by decide) ?_
  refine lv_iload_n hx hb dX9_reached_1 rfl (lv_at hl 1 rfl) ?_
  refine lv_ishl hx hb dX9_reached_2 ?_
  refine eqi (x' := nI (2 ^ i)) (nI_shl1 (by omega)) ?_
  refine lv_istore_n (lv' := [(2, .int (nI (2 ^ i))), (0, .ref (a 0)), (1, .int (nI i))]) hx hb dX9_reached_3 rfl hl (by decide) rfl (fun ls hl => ?_)
  refine lv_iconst (v := nI 0) hx hb dX9_reached_4 (by decide) ?_
  refine lv_istore_n (lv' := [(3, .int (nI 0)), (2, .int (nI (2 ^ i))), (0, .ref (a 0)), (1, .int (nI i))]) hx hb dX9_reached_5 rfl hl (by decide) rfl (fun ls hl => ?_)
  have L6 : ∀ q : Nat, q ≤ n →  ∀ (H : Heap) (locs : List Loc), va_P D vwCl ([mO a (nI n) (nI k) th, [(a 1, .inl (cY 0, 72, .inl fto))]] : List va_W).flatten H → va_D A ([mO a (nI n) (nI k) th, [(a 1, .inl (cY 0, 72, .inl fto))]] : List va_W).flatten → va_S A s.heap H locs → ∀ (ls : Array Slot), lv_has ls 4 [(0, .ref (a 0)), (1, .int (nI i)), (2, .int (nI (rch g n k i q))), (3, .int (nI q))] → W p l e ({ frames := 3, cells := 0, slots := 0, locals := 120 }) s m ([.ref (a 0), .int (nI i)] : List Value).toArray below meth c H locs 0 0 (MQ below (qI (S := Unit) D cY (fun r u => r = nI (rch g n k i n)) (fun u => [mO a (nI n) (nI k) th, [(a 1, .inl (cY 0, 72, .inl fto))]]) A) ([.ref (a 0), .int (nI i)] : List Value).toArray s 0 0 A) (F0 m 6 ls []) := by
    refine lpW n ?_
    intro q bq ih6   H locs hP hD hS ls hl
    refine lv_iload_n hx hb dX9_reached_6 rfl (lv_at hl 3 rfl) ?_
    refine lv_aload_n hx hb dX9_reached_7 rfl (lv_at hl 0 rfl) ?_
    refine b_get (ci := 9) (v := .int (nI n)) (C := RX9) (T := TX9) (N := 13) hx hb hts (by decide +kernel) hown hK hP 0 rfl rfl 0 (by decide) (hts (.fieldLink RX9 7 "ChanceHallModel" "states" "I") (by decide +kernel)) (fun _ h9 => h9) rfl dX9_reached_8 ?_
    refine n_icmp_ge (tgt := 28) hx hb dX9_reached_11 (by decide) (by omega) (by omega) (fun h11 => ?_) (fun h11 => ?_)
    · -- t
      refine lv_iload_n hx hb dX9_reached_28 rfl (lv_at hl 2 rfl) ?_
      exact r_i hx hb hr hlocks hP hD hS () rfl (by (have e : q = n := by omega); subst e; rfl) dX9_reached_29
    · -- f
      refine lv_iload_n hx hb dX9_reached_14 rfl (lv_at hl 2 rfl) ?_
      refine lv_aload_n hx hb dX9_reached_15 rfl (lv_at hl 0 rfl) ?_
      refine lv_iload_n hx hb dX9_reached_16 rfl (lv_at hl 2 rfl) ?_
      refine ca_i (CL := [mO a (nI n) (nI k) th, [(a 1, .inl (cY 0, 72, .inl fto))]]) (va_runV (As := [.int (nI (rch g n k i q))]) (rest := [.int (nI (rch g n k i q))]) ⟨hx, hb, hml, hown, hts⟩ (c_X9_ahead l D cY H.size a n k th fto g (rch g n k i q) (by omega) (by omega) (by omega) (by omega) hG hgn (rch_lt hgn hn6 hi q)) (cwV 1 hts gX9_reached_X9_ahead rfl rfl rfl (by decide +kernel) ⟨Nat.le_of_ble_eq_true rfl, Nat.le_of_ble_eq_true rfl⟩) (b_preV hVK hP hD [0, 1] rfl rfl 0 rfl rfl) rfl rfl hl.1 rfl (lv_room (Nat.le_of_ble_eq_true rfl)) dX9_reached_17 ⟨Nat.le_refl _, Nat.le_refl _⟩) hP hD hS hA [0, 1] rfl rfl (fun _ => rfl) (fun r17 uu H locs hq hP hD hS => ?_)
      subst hq
      have hP : va_P D vwCl ([mO a (nI n) (nI k) th, [(a 1, .inl (cY 0, 72, .inl fto))]] : List va_W).flatten H := hP
      have hD : va_D A ([mO a (nI n) (nI k) th, [(a 1, .inl (cY 0, 72, .inl fto))]] : List va_W).flatten := hD
      refine lv_ior hx hb dX9_reached_20 ?_
      refine eqi (x' := nI ((rch g n k i q) ||| (ahd g n (rch g n k i q) k))) (nI_or _ _) ?_
      refine lv_istore_n (lv' := [(2, .int (nI ((rch g n k i q) ||| (ahd g n (rch g n k i q) k)))), (0, .ref (a 0)), (1, .int (nI i)), (3, .int (nI q))]) hx hb dX9_reached_21 rfl hl (by decide) rfl (fun ls hl => ?_)
      refine lv_iinc (v := nI (q + 1)) (lv' := [(3, .int (nI (q + 1))), (2, .int (nI ((rch g n k i q) ||| (ahd g n (rch g n k i q) k)))), (0, .ref (a 0)), (1, .int (nI i))]) hx hb dX9_reached_22 hl (k := 3) rfl (nI_1 q) (by decide) rfl (fun ls hl => ?_)
      refine lv_goto (tgt := 6) hx hb dX9_reached_25 (by decide) ?_
      exact ih6 (by omega)   _ _ hP hD hS _ (lv_sub hl [2, 3, 1, 0] rfl)
  exact L6 0 (by omega)   _ _ hP hD hS _ (lv_sub hl [2, 3, 1, 0] rfl)

set_option maxHeartbeats 4000000 in
set_option maxRecDepth 100000 in
theorem c_X9_isClosed (l : Launch) (D : va_G) (cY : Nat → ClassId) (sz : Nat) (a : Nat → Nat) (n : Nat) (k : Nat) (th : Int32) (fto : Nat → Int32) (g : Nat → Nat → Nat) (i : Nat) (hn1 : 1 ≤ n) (hn6 : n ≤ 6) (hk1 : 1 ≤ k) (hk12 : k ≤ 12) (hG : ∀ i j, i < n → j < k → fto (12 * i + j) = nI (g i j)) (hgn : ∀ i j, i < n → j < k → g i j < n) (hi : i < n) : Met l yX9_isClosed wsX9_isClosed ({ frames := 4, cells := 0, slots := 0, locals := 160 }) (cP D cY [.ref (a 0), .int (nI i)] [mO a (nI n) (nI k) th, [(a 1, .inl (cY 0, 72, .inl fto))]] sz) (qI (S := Unit) D cY (fun r u => r = bI (isCl g n k i)) (fun u => [mO a (nI n) (nI k) th, [(a 1, .inl (cY 0, 72, .inl fto))]]) (va_A ([mO a (nI n) (nI k) th, [(a 1, .inl (cY 0, 72, .inl fto))]] : List va_W).flatten sz)) 0 0 (va_A ([mO a (nI n) (nI k) th, [(a 1, .inl (cY 0, 72, .inl fto))]] : List va_W).flatten sz) := by
  refine mtB (Qc := fun A => qI (S := Unit) D cY (fun r u => r = bI (isCl g n k i)) (fun u => [mO a (nI n) (nI k) th, [(a 1, .inl (cY 0, 72, .inl fto))]]) A) (cc := cX9_isClosed) (maxL := 5) (ret := (some .boolean)) (by decide) rfl (Nat.le_of_ble_eq_true rfl) ?_
  intro p e s m below meth c A ls hx hb hr hml hts hown hlocks hnm hsz hP hK hVK hD hS hA hl
  have hown : s.vm.findClass RX9 = some m.cls := hown
  have hl : lv_has ls 5 [(0, .ref (a 0)), (1, .int (nI i))] := hl
  have hP : va_P D vwCl ([mO a (nI n) (nI k) th, [(a 1, .inl (cY 0, 72, .inl fto))]] : List va_W).flatten s.heap := hP
  have hD : va_D A ([mO a (nI n) (nI k) th, [(a 1, .inl (cY 0, 72, .inl fto))]] : List va_W).flatten := hD
  have hr1 := rch_lt hgn hn6 hi n
  refine lv_aload_n hx hb dX9_isClosed_0 rfl (lv_at hl 0 rfl) ?_
  refine lv_iload_n hx hb dX9_isClosed_1 rfl (lv_at hl 1 rfl) ?_
  refine ca_i (CL := [mO a (nI n) (nI k) th, [(a 1, .inl (cY 0, 72, .inl fto))]]) (va_runV (As := [.int (nI i)]) (rest := []) ⟨hx, hb, hml, hown, hts⟩ (c_X9_reached l D cY s.heap.size a n k th fto g i (by omega) (by omega) (by omega) (by omega) hG hgn (by omega)) (cwV 1 hts gX9_isClosed_X9_reached rfl rfl rfl (by decide +kernel) ⟨Nat.le_of_ble_eq_true rfl, Nat.le_of_ble_eq_true rfl⟩) (b_preV hVK hP hD [0, 1] rfl rfl 0 rfl rfl) rfl rfl hl.1 rfl (lv_room (Nat.le_of_ble_eq_true rfl)) dX9_isClosed_2 ⟨Nat.le_refl _, Nat.le_refl _⟩) hP hD hS hA [0, 1] rfl rfl (fun _ => rfl) (fun r2 uu H locs hq hP hD hS => ?_)
  subst hq
  have hP : va_P D vwCl ([mO a (nI n) (nI k) th, [(a 1, .inl (cY 0, 72, .inl fto))]] : List va_W).flatten H := hP
  have hD : va_D A ([mO a (nI n) (nI k) th, [(a 1, .inl (cY 0, 72, .inl fto))]] : List va_W).flatten := hD
  refine lv_istore_n (lv' := [(2, .int (nI (rch g n k i n))), (0, .ref (a 0)), (1, .int (nI i))]) hx hb dX9_isClosed_5 rfl hl (by decide) rfl (fun ls hl => ?_)
  refine lv_iconst (v := nI 1) hx hb dX9_isClosed_6 (by decide) ?_
  refine lv_istore_n (lv' := [(3, .int (nI 1)), (2, .int (nI (rch g n k i n))), (0, .ref (a 0)), (1, .int (nI i))]) hx hb dX9_isClosed_7 rfl hl (by decide) rfl (fun ls hl => ?_)
  refine lv_iconst (v := nI 0) hx hb dX9_isClosed_8 (by decide) ?_
  refine lv_istore (lv' := [(4, .int (nI 0)), (3, .int (nI 1)), (2, .int (nI (rch g n k i n))), (0, .ref (a 0)), (1, .int (nI i))]) hx hb dX9_isClosed_9 hl (by decide) rfl (fun ls hl => ?_)
  have L11 : ∀ q : Nat, q ≤ n →  ∀ (H : Heap) (locs : List Loc), va_P D vwCl ([mO a (nI n) (nI k) th, [(a 1, .inl (cY 0, 72, .inl fto))]] : List va_W).flatten H → va_D A ([mO a (nI n) (nI k) th, [(a 1, .inl (cY 0, 72, .inl fto))]] : List va_W).flatten → va_S A s.heap H locs → ∀ (ls : Array Slot), lv_has ls 5 [(0, .ref (a 0)), (1, .int (nI i)), (2, .int (nI (rch g n k i n))), (3, .int (bI (allB (fun q => decide (rch g n k i n / 2 ^ q % 2 = 0) || decide (rch g n k q n / 2 ^ i % 2 = 1)) q))), (4, .int (nI q))] → W p l e ({ frames := 4, cells := 0, slots := 0, locals := 160 }) s m ([.ref (a 0), .int (nI i)] : List Value).toArray below meth c H locs 0 0 (MQ below (qI (S := Unit) D cY (fun r u => r = bI (isCl g n k i)) (fun u => [mO a (nI n) (nI k) th, [(a 1, .inl (cY 0, 72, .inl fto))]]) A) ([.ref (a 0), .int (nI i)] : List Value).toArray s 0 0 A) (F0 m 11 ls []) := by
    refine lpW n ?_
    intro q bq ih11   H locs hP hD hS ls hl
    refine lv_iload hx hb dX9_isClosed_11 (lv_at hl 4 rfl) ?_
    refine lv_aload_n hx hb dX9_isClosed_13 rfl (lv_at hl 0 rfl) ?_
    refine b_get (ci := 9) (v := .int (nI n)) (C := RX9) (T := TX9) (N := 13) hx hb hts (by decide +kernel) hown hK hP 0 rfl rfl 0 (by decide) (hts (.fieldLink RX9 7 "ChanceHallModel" "states" "I") (by decide +kernel)) (fun _ h9 => h9) rfl dX9_isClosed_14 ?_
    refine n_icmp_ge (tgt := 59) hx hb dX9_isClosed_17 (by decide) (by omega) (by omega) (fun h17 => ?_) (fun h17 => ?_)
    · -- t
      refine lv_iload_n hx hb dX9_isClosed_59 rfl (lv_at hl 3 rfl) ?_
      exact r_z hx hb hr hlocks hP hD hS () rfl (by (have e : q = n := by omega); subst e; rfl) dX9_isClosed_60
    · -- f
      refine lv_iload_n hx hb dX9_isClosed_20 rfl (lv_at hl 3 rfl) ?_
      refine b_if_eq (tgt := 51) hx hb dX9_isClosed_21 (by decide) (fun h21 => ?_) (fun h21 => ?_)
      · -- t
        refine lv_iconst (v := nI 0) hx hb dX9_isClosed_51 (by decide) ?_
        refine eqi (x' := bI (allB (fun q => decide (rch g n k i n / 2 ^ q % 2 = 0) || decide (rch g n k q n / 2 ^ i % 2 = 1)) (q + 1))) (bF (by first | (simp [allB, h21, h30, h44]; done) | (simp [allB, h21]; done))) ?_
        refine lv_istore_n (lv' := [(3, .int (bI (allB (fun q => decide (rch g n k i n / 2 ^ q % 2 = 0) || decide (rch g n k q n / 2 ^ i % 2 = 1)) (q + 1)))), (0, .ref (a 0)), (1, .int (nI i)), (2, .int (nI (rch g n k i n))), (4, .int (nI q))]) hx hb dX9_isClosed_52 rfl hl (by decide) rfl (fun ls hl => ?_)
        refine lv_iinc (v := nI (q + 1)) (lv' := [(4, .int (nI (q + 1))), (3, .int (bI (allB (fun q => decide (rch g n k i n / 2 ^ q % 2 = 0) || decide (rch g n k q n / 2 ^ i % 2 = 1)) (q + 1)))), (0, .ref (a 0)), (1, .int (nI i)), (2, .int (nI (rch g n k i n)))]) hx hb dX9_isClosed_53 hl (k := 4) rfl (nI_1 q) (by decide) rfl (fun ls hl => ?_)
        refine lv_goto (tgt := 11) hx hb dX9_isClosed_56 (by decide) ?_
        exact ih11 (by omega)   _ _ hP hD hS _ (lv_sub hl [2, 3, 4, 1, 0] rfl)
      · -- f
        refine lv_iload_n hx hb dX9_isClosed_24 rfl (lv_at hl 2 rfl) ?_
        refine lv_iload hx hb dX9_isClosed_25 (lv_at hl 4 rfl) ?_
        refine lv_ishr hx hb dX9_isClosed_27 ?_
        refine eqi (x' := nI ((rch g n k i n) / 2 ^ q)) (nI_shr (by omega) (by omega)) ?_
        have hxd : rch g n k i n / 2 ^ q ≤ rch g n k i n := Nat.div_le_self _ _
        refine lv_iconst (v := nI 1) hx hb dX9_isClosed_28 (by decide) ?_
        refine lv_iand hx hb dX9_isClosed_29 ?_
        refine eqi (x' := nI (((rch g n k i n) / 2 ^ q) &&& 1)) (nI_and _ _) ?_
        refine eqi (x' := nI (rch g n k i n / 2 ^ q % 2)) (congrArg nI (Nat.and_one_is_mod _)) ?_
        refine n_if_eq (tgt := 47) hx hb dX9_isClosed_30 (by decide) (by omega) (fun h30 => ?_) (fun h30 => ?_)
        · -- t
          refine lv_iconst (v := nI 1) hx hb dX9_isClosed_47 (by decide) ?_
          refine lv_goto (tgt := 52) hx hb dX9_isClosed_48 (by decide) ?_
          refine eqi (x' := bI (allB (fun q => decide (rch g n k i n / 2 ^ q % 2 = 0) || decide (rch g n k q n / 2 ^ i % 2 = 1)) (q + 1))) (bT (by first | (simp [allB, h21, h30, h44]; done) | (simp [allB, h21, h30]; done))) ?_
          refine lv_istore_n (lv' := [(3, .int (bI (allB (fun q => decide (rch g n k i n / 2 ^ q % 2 = 0) || decide (rch g n k q n / 2 ^ i % 2 = 1)) (q + 1)))), (0, .ref (a 0)), (1, .int (nI i)), (2, .int (nI (rch g n k i n))), (4, .int (nI q))]) hx hb dX9_isClosed_52 rfl hl (by decide) rfl (fun ls hl => ?_)
          refine lv_iinc (v := nI (q + 1)) (lv' := [(4, .int (nI (q + 1))), (3, .int (bI (allB (fun q => decide (rch g n k i n / 2 ^ q % 2 = 0) || decide (rch g n k q n / 2 ^ i % 2 = 1)) (q + 1)))), (0, .ref (a 0)), (1, .int (nI i)), (2, .int (nI (rch g n k i n)))]) hx hb dX9_isClosed_53 hl (k := 4) rfl (nI_1 q) (by decide) rfl (fun ls hl => ?_)
          refine lv_goto (tgt := 11) hx hb dX9_isClosed_56 (by decide) ?_
          exact ih11 (by omega)   _ _ hP hD hS _ (lv_sub hl [2, 3, 4, 1, 0] rfl)
        · -- f
          refine lv_aload_n hx hb dX9_isClosed_33 rfl (lv_at hl 0 rfl) ?_
          refine lv_iload hx hb dX9_isClosed_34 (lv_at hl 4 rfl) ?_
          refine ca_i (CL := [mO a (nI n) (nI k) th, [(a 1, .inl (cY 0, 72, .inl fto))]]) (va_runV (As := [.int (nI q)]) (rest := []) ⟨hx, hb, hml, hown, hts⟩ (c_X9_reached l D cY H.size a n k th fto g q (by omega) (by omega) (by omega) (by omega) hG hgn (by omega)) (cwV 1 hts gX9_isClosed_X9_reached rfl rfl rfl (by decide +kernel) ⟨Nat.le_of_ble_eq_true rfl, Nat.le_of_ble_eq_true rfl⟩) (b_preV hVK hP hD [0, 1] rfl rfl 0 rfl rfl) rfl rfl hl.1 rfl (lv_room (Nat.le_of_ble_eq_true rfl)) dX9_isClosed_36 ⟨Nat.le_refl _, Nat.le_refl _⟩) hP hD hS hA [0, 1] rfl rfl (fun _ => rfl) (fun r36 uu H locs hq hP hD hS => ?_)
          subst hq
          have hP : va_P D vwCl ([mO a (nI n) (nI k) th, [(a 1, .inl (cY 0, 72, .inl fto))]] : List va_W).flatten H := hP
          have hD : va_D A ([mO a (nI n) (nI k) th, [(a 1, .inl (cY 0, 72, .inl fto))]] : List va_W).flatten := hD
          have hr2 := rch_lt (i := q) hgn hn6 (by omega) n
          refine lv_iload_n hx hb dX9_isClosed_39 rfl (lv_at hl 1 rfl) ?_
          refine lv_ishr hx hb dX9_isClosed_40 ?_
          refine eqi (x' := nI ((rch g n k q n) / 2 ^ i)) (nI_shr (by omega) (by omega)) ?_
          have hxd2 : rch g n k q n / 2 ^ i ≤ rch g n k q n := Nat.div_le_self _ _
          refine lv_iconst (v := nI 1) hx hb dX9_isClosed_41 (by decide) ?_
          refine lv_iand hx hb dX9_isClosed_42 ?_
          refine eqi (x' := nI (((rch g n k q n) / 2 ^ i) &&& 1)) (nI_and _ _) ?_
          refine eqi (x' := nI (rch g n k q n / 2 ^ i % 2)) (congrArg nI (Nat.and_one_is_mod _)) ?_
          refine lv_iconst (v := nI 1) hx hb dX9_isClosed_43 (by decide) ?_
          refine n_icmp_ne (tgt := 51) hx hb dX9_isClosed_44 (by decide) (by omega) (by omega) (fun h44 => ?_) (fun h44 => ?_)
          · -- t
            refine lv_iconst (v := nI 0) hx hb dX9_isClosed_51 (by decide) ?_
            refine eqi (x' := bI (allB (fun q => decide (rch g n k i n / 2 ^ q % 2 = 0) || decide (rch g n k q n / 2 ^ i % 2 = 1)) (q + 1))) (bF (by first | (simp [allB, h21, h30, h44]; done) | (simp [allB, h21]; done))) ?_
            refine lv_istore_n (lv' := [(3, .int (bI (allB (fun q => decide (rch g n k i n / 2 ^ q % 2 = 0) || decide (rch g n k q n / 2 ^ i % 2 = 1)) (q + 1)))), (0, .ref (a 0)), (1, .int (nI i)), (2, .int (nI (rch g n k i n))), (4, .int (nI q))]) hx hb dX9_isClosed_52 rfl hl (by decide) rfl (fun ls hl => ?_)
            refine lv_iinc (v := nI (q + 1)) (lv' := [(4, .int (nI (q + 1))), (3, .int (bI (allB (fun q => decide (rch g n k i n / 2 ^ q % 2 = 0) || decide (rch g n k q n / 2 ^ i % 2 = 1)) (q + 1)))), (0, .ref (a 0)), (1, .int (nI i)), (2, .int (nI (rch g n k i n)))]) hx hb dX9_isClosed_53 hl (k := 4) rfl (nI_1 q) (by decide) rfl (fun ls hl => ?_)
            refine lv_goto (tgt := 11) hx hb dX9_isClosed_56 (by decide) ?_
            exact ih11 (by omega)   _ _ hP hD hS _ (lv_sub hl [2, 3, 4, 1, 0] rfl)
          · -- f
            refine lv_iconst (v := nI 1) hx hb dX9_isClosed_47 (by decide) ?_
            refine lv_goto (tgt := 52) hx hb dX9_isClosed_48 (by decide) ?_
            refine eqi (x' := bI (allB (fun q => decide (rch g n k i n / 2 ^ q % 2 = 0) || decide (rch g n k q n / 2 ^ i % 2 = 1)) (q + 1))) (bT (by first | (simp [allB, h21, h30, h44]; done) | (simp [allB, h21, h30]; done))) ?_
            refine lv_istore_n (lv' := [(3, .int (bI (allB (fun q => decide (rch g n k i n / 2 ^ q % 2 = 0) || decide (rch g n k q n / 2 ^ i % 2 = 1)) (q + 1)))), (0, .ref (a 0)), (1, .int (nI i)), (2, .int (nI (rch g n k i n))), (4, .int (nI q))]) hx hb dX9_isClosed_52 rfl hl (by decide) rfl (fun ls hl => ?_)
            refine lv_iinc (v := nI (q + 1)) (lv' := [(4, .int (nI (q + 1))), (3, .int (bI (allB (fun q => decide (rch g n k i n / 2 ^ q % 2 = 0) || decide (rch g n k q n / 2 ^ i % 2 = 1)) (q + 1)))), (0, .ref (a 0)), (1, .int (nI i)), (2, .int (nI (rch g n k i n)))]) hx hb dX9_isClosed_53 hl (k := 4) rfl (nI_1 q) (by decide) rfl (fun ls hl => ?_)
            refine lv_goto (tgt := 11) hx hb dX9_isClosed_56 (by decide) ?_
            exact ih11 (by omega)   _ _ hP hD hS _ (lv_sub hl [2, 3, 4, 1, 0] rfl)
  exact L11 0 (by omega)   _ _ hP hD hS _ (lv_sub hl [3, 4, 2, 1, 0] rfl)

set_option maxHeartbeats 4000000 in
set_option maxRecDepth 100000 in
theorem c_X9_closed (l : Launch) (D : va_G) (cY : Nat → ClassId) (sz : Nat) (a : Nat → Nat) (n : Nat) (k : Nat) (th : Int32) (fto : Nat → Int32) (g : Nat → Nat → Nat) (hn1 : 1 ≤ n) (hn6 : n ≤ 6) (hk1 : 1 ≤ k) (hk12 : k ≤ 12) (hG : ∀ i j, i < n → j < k → fto (12 * i + j) = nI (g i j)) (hgn : ∀ i j, i < n → j < k → g i j < n) : Met l yX9_closed wsX9_closed ({ frames := 5, cells := 0, slots := 0, locals := 200 }) (cP D cY [.ref (a 0)] [mO a (nI n) (nI k) th, [(a 1, .inl (cY 0, 72, .inl fto))]] sz) (qI (S := Unit) D cY (fun r u => r = nI (nCl g n k n)) (fun u => [mO a (nI n) (nI k) (nI 0), [(a 1, .inl (cY 0, 72, .inl fto))]]) (va_A ([mO a (nI n) (nI k) th, [(a 1, .inl (cY 0, 72, .inl fto))]] : List va_W).flatten sz)) 0 0 (va_A ([mO a (nI n) (nI k) th, [(a 1, .inl (cY 0, 72, .inl fto))]] : List va_W).flatten sz) := by
  refine mtB (Qc := fun A => qI (S := Unit) D cY (fun r u => r = nI (nCl g n k n)) (fun u => [mO a (nI n) (nI k) (nI 0), [(a 1, .inl (cY 0, 72, .inl fto))]]) A) (cc := cX9_closed) (maxL := 3) (ret := (some .int)) (by decide) rfl (Nat.le_of_ble_eq_true rfl) ?_
  intro p e s m below meth c A ls hx hb hr hml hts hown hlocks hnm hsz hP hK hVK hD hS hA hl
  have hown : s.vm.findClass RX9 = some m.cls := hown
  have hl : lv_has ls 3 [(0, .ref (a 0))] := hl
  have hP : va_P D vwCl ([mO a (nI n) (nI k) th, [(a 1, .inl (cY 0, 72, .inl fto))]] : List va_W).flatten s.heap := hP
  have hD : va_D A ([mO a (nI n) (nI k) th, [(a 1, .inl (cY 0, 72, .inl fto))]] : List va_W).flatten := hD
  refine lv_aload_n hx hb dX9_closed_0 rfl (lv_at hl 0 rfl) ?_
  refine lv_iconst (v := nI 0) hx hb dX9_closed_1 (by decide) ?_
  refine b_put (ci := 9) (v := .int (nI 0)) (ty := .int) (C := RX9) (T := TX9) (N := 13) hx hb hts (by decide +kernel) tyX9 tyX9_ok nmX9 hown hK hP hD hS 0 rfl rfl 12 (by decide) (hts (.fieldLink RX9 48 "ChanceHallModel" "thrown" "I") (by decide +kernel)) (fun _ h9 => h9) rfl (by decide +kernel) rfl rfl (Nat.le_of_ble_eq_true rfl) dX9_closed_2 (fun H locs hP hD hS => ?_)
  have hP : va_P D vwCl ([mO a (nI n) (nI k) (nI 0), [(a 1, .inl (cY 0, 72, .inl fto))]] : List va_W).flatten H := hP
  have hD : va_D A ([mO a (nI n) (nI k) (nI 0), [(a 1, .inl (cY 0, 72, .inl fto))]] : List va_W).flatten := hD
  refine lv_iconst (v := nI 0) hx hb dX9_closed_5 (by decide) ?_
  refine lv_istore_n (lv' := [(1, .int (nI 0)), (0, .ref (a 0))]) hx hb dX9_closed_6 rfl hl (by decide) rfl (fun ls hl => ?_)
  refine lv_iconst (v := nI 0) hx hb dX9_closed_7 (by decide) ?_
  refine lv_istore_n (lv' := [(2, .int (nI 0)), (1, .int (nI 0)), (0, .ref (a 0))]) hx hb dX9_closed_8 rfl hl (by decide) rfl (fun ls hl => ?_)
  have L9 : ∀ q : Nat, q ≤ n →  ∀ (H : Heap) (locs : List Loc), va_P D vwCl ([mO a (nI n) (nI k) (nI 0), [(a 1, .inl (cY 0, 72, .inl fto))]] : List va_W).flatten H → va_D A ([mO a (nI n) (nI k) (nI 0), [(a 1, .inl (cY 0, 72, .inl fto))]] : List va_W).flatten → va_S A s.heap H locs → ∀ (ls : Array Slot), lv_has ls 3 [(0, .ref (a 0)), (1, .int (nI (nCl g n k q))), (2, .int (nI q))] → W p l e ({ frames := 5, cells := 0, slots := 0, locals := 200 }) s m ([.ref (a 0)] : List Value).toArray below meth c H locs 0 0 (MQ below (qI (S := Unit) D cY (fun r u => r = nI (nCl g n k n)) (fun u => [mO a (nI n) (nI k) (nI 0), [(a 1, .inl (cY 0, 72, .inl fto))]]) A) ([.ref (a 0)] : List Value).toArray s 0 0 A) (F0 m 9 ls []) := by
    refine lpW n ?_
    intro q bq ih9   H locs hP hD hS ls hl
    refine lv_iload_n hx hb dX9_closed_9 rfl (lv_at hl 2 rfl) ?_
    refine lv_aload_n hx hb dX9_closed_10 rfl (lv_at hl 0 rfl) ?_
    refine b_get (ci := 9) (v := .int (nI n)) (C := RX9) (T := TX9) (N := 13) hx hb hts (by decide +kernel) hown hK hP 0 rfl rfl 0 (by decide) (hts (.fieldLink RX9 7 "ChanceHallModel" "states" "I") (by decide +kernel)) (fun _ h9 => h9) rfl dX9_closed_11 ?_
    refine n_icmp_ge (tgt := 53) hx hb dX9_closed_14 (by decide) (by omega) (by omega) (fun h14 => ?_) (fun h14 => ?_)
    · -- t
      refine lv_iload_n hx hb dX9_closed_53 rfl (lv_at hl 1 rfl) ?_
      exact r_i hx hb hr hlocks hP hD hS () rfl (by (have e : q = n := by omega); subst e; rfl) dX9_closed_54
    · -- f
      refine lv_iload_n hx hb dX9_closed_17 rfl (lv_at hl 1 rfl) ?_
      refine lv_aload_n hx hb dX9_closed_18 rfl (lv_at hl 0 rfl) ?_
      refine lv_iload_n hx hb dX9_closed_19 rfl (lv_at hl 2 rfl) ?_
      refine ca_i (CL := [mO a (nI n) (nI k) (nI 0), [(a 1, .inl (cY 0, 72, .inl fto))]]) (va_runV (As := [.int (nI q)]) (rest := [.int (nI (nCl g n k q))]) ⟨hx, hb, hml, hown, hts⟩ (c_X9_isClosed l D cY H.size a n k (nI 0) fto g q (by omega) (by omega) (by omega) (by omega) hG hgn (by omega)) (cwV 1 hts gX9_closed_X9_isClosed rfl rfl rfl (by decide +kernel) ⟨Nat.le_of_ble_eq_true rfl, Nat.le_of_ble_eq_true rfl⟩) (b_preV hVK hP hD [0, 1] rfl rfl 0 rfl rfl) rfl rfl hl.1 rfl (lv_room (Nat.le_of_ble_eq_true rfl)) dX9_closed_20 ⟨Nat.le_refl _, Nat.le_refl _⟩) hP hD hS hA [0, 1] rfl rfl (fun _ => rfl) (fun r20 uu H locs hq hP hD hS => ?_)
      subst hq
      have hP : va_P D vwCl ([mO a (nI n) (nI k) (nI 0), [(a 1, .inl (cY 0, 72, .inl fto))]] : List va_W).flatten H := hP
      have hD : va_D A ([mO a (nI n) (nI k) (nI 0), [(a 1, .inl (cY 0, 72, .inl fto))]] : List va_W).flatten := hD
      refine b_if_eq (tgt := 44) hx hb dX9_closed_23 (by decide) (fun h23 => ?_) (fun h23 => ?_)
      · -- t
        refine lv_iconst (v := nI 0) hx hb dX9_closed_44 (by decide) ?_
        refine lv_iadd hx hb dX9_closed_45 ?_
        refine eqi (x' := nI (nCl g n k q)) (nI_add _ _) ?_
        refine eqi (x' := nI (nCl g n k (q + 1))) (congrArg nI (by first | exact nB_f (and_f1 h23) | exact nB_f (and_f2 h37) | exact nB_t (and_tt h23 h37))) ?_
        refine lv_istore_n (lv' := [(1, .int (nI (nCl g n k (q + 1)))), (0, .ref (a 0)), (2, .int (nI q))]) hx hb dX9_closed_46 rfl hl (by decide) rfl (fun ls hl => ?_)
        refine lv_iinc (v := nI (q + 1)) (lv' := [(2, .int (nI (q + 1))), (1, .int (nI (nCl g n k (q + 1)))), (0, .ref (a 0))]) hx hb dX9_closed_47 hl (k := 2) rfl (nI_1 q) (by decide) rfl (fun ls hl => ?_)
        refine lv_goto (tgt := 9) hx hb dX9_closed_50 (by decide) ?_
        exact ih9 (by omega)   _ _ hP hD hS _ (lv_sub hl [2, 1, 0] rfl)
      · -- f
        refine lv_aload_n hx hb dX9_closed_26 rfl (lv_at hl 0 rfl) ?_
        refine lv_iload_n hx hb dX9_closed_27 rfl (lv_at hl 2 rfl) ?_
        refine ca_i (CL := [mO a (nI n) (nI k) (nI 0), [(a 1, .inl (cY 0, 72, .inl fto))]]) (va_runV (As := [.int (nI q)]) (rest := [.int (nI (nCl g n k q))]) ⟨hx, hb, hml, hown, hts⟩ (c_X9_reached l D cY H.size a n k (nI 0) fto g q (by omega) (by omega) (by omega) (by omega) hG hgn (by omega)) (cwV 1 hts gX9_closed_X9_reached rfl rfl rfl (by decide +kernel) ⟨Nat.le_of_ble_eq_true rfl, Nat.le_of_ble_eq_true rfl⟩) (b_preV hVK hP hD [0, 1] rfl rfl 0 rfl rfl) rfl rfl hl.1 rfl (lv_room (Nat.le_of_ble_eq_true rfl)) dX9_closed_28 ⟨Nat.le_refl _, Nat.le_refl _⟩) hP hD hS hA [0, 1] rfl rfl (fun _ => rfl) (fun r28 uu H locs hq hP hD hS => ?_)
        subst hq
        have hP : va_P D vwCl ([mO a (nI n) (nI k) (nI 0), [(a 1, .inl (cY 0, 72, .inl fto))]] : List va_W).flatten H := hP
        have hD : va_D A ([mO a (nI n) (nI k) (nI 0), [(a 1, .inl (cY 0, 72, .inl fto))]] : List va_W).flatten := hD
        have h1q : 1 ≤ 2 ^ q := Nat.one_le_two_pow
        have hr2 := rch_lt (i := q) hgn hn6 (by omega) n
        refine lv_iconst (v := nI 1) hx hb dX9_closed_31 (by decide) ?_
        refine lv_iload_n hx hb dX9_closed_32 rfl (lv_at hl 2 rfl) ?_
        refine lv_ishl hx hb dX9_closed_33 ?_
        refine eqi (x' := nI (2 ^ q)) (nI_shl1 (by omega)) ?_
        refine lv_iconst (v := nI 1) hx hb dX9_closed_34 (by decide) ?_
        refine lv_isub hx hb dX9_closed_35 ?_
        refine eqi (x' := nI ((2 ^ q) - 1)) (pk_sub (by omega)) ?_
        refine lv_iand hx hb dX9_closed_36 ?_
        refine eqi (x' := nI ((rch g n k q n) &&& ((2 ^ q) - 1))) (nI_and _ _) ?_
        have han : rch g n k q n &&& (2 ^ q - 1) ≤ rch g n k q n := Nat.and_le_left
        refine n_if_ne (tgt := 44) hx hb dX9_closed_37 (by decide) (by omega) (fun h37 => ?_) (fun h37 => ?_)
        · -- t
          refine lv_iconst (v := nI 0) hx hb dX9_closed_44 (by decide) ?_
          refine lv_iadd hx hb dX9_closed_45 ?_
          refine eqi (x' := nI (nCl g n k q)) (nI_add _ _) ?_
          refine eqi (x' := nI (nCl g n k (q + 1))) (congrArg nI (by first | exact nB_f (and_f1 h23) | exact nB_f (and_f2 h37) | exact nB_t (and_tt h23 h37))) ?_
          refine lv_istore_n (lv' := [(1, .int (nI (nCl g n k (q + 1)))), (0, .ref (a 0)), (2, .int (nI q))]) hx hb dX9_closed_46 rfl hl (by decide) rfl (fun ls hl => ?_)
          refine lv_iinc (v := nI (q + 1)) (lv' := [(2, .int (nI (q + 1))), (1, .int (nI (nCl g n k (q + 1)))), (0, .ref (a 0))]) hx hb dX9_closed_47 hl (k := 2) rfl (nI_1 q) (by decide) rfl (fun ls hl => ?_)
          refine lv_goto (tgt := 9) hx hb dX9_closed_50 (by decide) ?_
          exact ih9 (by omega)   _ _ hP hD hS _ (lv_sub hl [2, 1, 0] rfl)
        · -- f
          refine lv_iconst (v := nI 1) hx hb dX9_closed_40 (by decide) ?_
          refine lv_goto (tgt := 45) hx hb dX9_closed_41 (by decide) ?_
          refine lv_iadd hx hb dX9_closed_45 ?_
          refine eqi (x' := nI (nCl g n k q + 1)) (nI_add _ _) ?_
          refine eqi (x' := nI (nCl g n k (q + 1))) (congrArg nI (by first | exact nB_f (and_f1 h23) | exact nB_f (and_f2 h37) | exact nB_t (and_tt h23 h37))) ?_
          refine lv_istore_n (lv' := [(1, .int (nI (nCl g n k (q + 1)))), (0, .ref (a 0)), (2, .int (nI q))]) hx hb dX9_closed_46 rfl hl (by decide) rfl (fun ls hl => ?_)
          refine lv_iinc (v := nI (q + 1)) (lv' := [(2, .int (nI (q + 1))), (1, .int (nI (nCl g n k (q + 1)))), (0, .ref (a 0))]) hx hb dX9_closed_47 hl (k := 2) rfl (nI_1 q) (by decide) rfl (fun ls hl => ?_)
          refine lv_goto (tgt := 9) hx hb dX9_closed_50 (by decide) ?_
          exact ih9 (by omega)   _ _ hP hD hS _ (lv_sub hl [2, 1, 0] rfl)
  exact L9 0 (by omega)   _ _ hP hD hS _ (lv_sub hl [2, 1, 0] rfl)

set_option maxHeartbeats 4000000 in
set_option maxRecDepth 100000 in
theorem c_X9_common (l : Launch) (D : va_G) (cY : Nat → ClassId) (sz : Nat) (x0 : Nat) (y0 : Nat) (hx0 : x0 ≤ 100) (hy0 : y0 ≤ 100) : Met l yX9_common wsX9_common ({ frames := 0, cells := 0, slots := 0, locals := 0 }) (cP D cY [.int (nI x0), .int (nI y0)] [] sz) (qI (S := Unit) D cY (fun r u => r = nI (Nat.gcd x0 y0)) (fun u => []) (va_A ([] : List va_W).flatten sz)) 0 0 (va_A ([] : List va_W).flatten sz) := by
  refine mtB (Qc := fun A => qI (S := Unit) D cY (fun r u => r = nI (Nat.gcd x0 y0)) (fun u => []) A) (cc := cX9_common) (maxL := 5) (ret := (some .int)) (by decide) rfl (Nat.le_of_ble_eq_true rfl) ?_
  intro p e s m below meth c A ls hx hb hr hml hts hown hlocks hnm hsz hP hK hVK hD hS hA hl
  have hown : s.vm.findClass RX9 = some m.cls := hown
  have hl : lv_has ls 5 [(0, .int (nI x0)), (1, .int (nI y0))] := hl
  have hP : va_P D vwCl ([] : List va_W).flatten s.heap := hP
  have hD : va_D A ([] : List va_W).flatten := hD
  refine lv_iload_n hx hb dX9_common_0 rfl (lv_at hl 0 rfl) ?_
  refine lv_istore_n (lv' := [(2, .int (nI x0)), (0, .int (nI x0)), (1, .int (nI y0))]) hx hb dX9_common_1 rfl hl (by decide) rfl (fun ls hl => ?_)
  refine lv_iload_n hx hb dX9_common_2 rfl (lv_at hl 2 rfl) ?_
  refine lv_istore_n (lv' := [(3, .int (nI y0)), (2, .int (nI x0)), (0, .int (nI x0)), (1, .int (nI y0))]) hx hb dX9_common_3 rfl hl (by decide) rfl (fun ls hl => ?_)
  have L4 : ∀ y : Nat, ∀ (x : Nat), (Nat.gcd x y = Nat.gcd x0 y0) → (x ≤ 100 ∧ y ≤ 100) → ∀ (H : Heap) (locs : List Loc), va_P D vwCl ([] : List va_W).flatten H → va_D A ([] : List va_W).flatten → va_S A s.heap H locs → ∀ (ls : Array Slot), lv_has ls 5 [(0, .int (nI x0)), (1, .int (nI y0)), (2, .int (nI x)), (3, .int (nI y))] → W p l e ({ frames := 0, cells := 0, slots := 0, locals := 0 }) s m ([.int (nI x0), .int (nI y0)] : List Value).toArray below meth c H locs 0 0 (MQ below (qI (S := Unit) D cY (fun r u => r = nI (Nat.gcd x0 y0)) (fun u => []) A) ([.int (nI x0), .int (nI y0)] : List Value).toArray s 0 0 A) (F0 m 4 ls []) := by
    refine lpSt ?_
    intro y ih4 x hg hxy H locs hP hD hS ls hl
    refine lv_iload_n hx hb dX9_common_4 rfl (lv_at hl 3 rfl) ?_
    refine n_if_le (tgt := 21) hx hb dX9_common_5 (by decide) (by omega) (fun h5 => ?_) (fun h5 => ?_)
    · -- t
      refine lv_iload_n hx hb dX9_common_21 rfl (lv_at hl 2 rfl) ?_
      exact r_i hx hb hr hlocks hP hD hS () rfl (by rw [← hg, h5, Nat.gcd_zero_right]) dX9_common_22
    · -- f
      have hmd : x % y < y := Nat.mod_lt _ h5
      refine lv_iload_n hx hb dX9_common_8 rfl (lv_at hl 2 rfl) ?_
      refine lv_iload_n hx hb dX9_common_9 rfl (lv_at hl 3 rfl) ?_
      refine lv_irem hx hb dX9_common_10 (nI_ne0 (by omega) (by omega)) ?_
      refine eqi (x' := nI (x % y)) (pk_rem (by omega) (by omega) (by omega)) ?_
      refine lv_istore (lv' := [(4, .int (nI (x % y))), (0, .int (nI x0)), (1, .int (nI y0)), (2, .int (nI x)), (3, .int (nI y))]) hx hb dX9_common_11 hl (by decide) rfl (fun ls hl => ?_)
      refine lv_iload_n hx hb dX9_common_13 rfl (lv_at hl 4 rfl) ?_
      refine lv_istore_n (lv' := [(2, .int (nI y)), (4, .int (nI (x % y))), (0, .int (nI x0)), (1, .int (nI y0)), (3, .int (nI y))]) hx hb dX9_common_14 rfl hl (by decide) rfl (fun ls hl => ?_)
      refine lv_iload hx hb dX9_common_15 (lv_at hl 1 rfl) ?_
      refine lv_istore_n (lv' := [(3, .int (nI (x % y))), (2, .int (nI y)), (4, .int (nI (x % y))), (0, .int (nI x0)), (1, .int (nI y0))]) hx hb dX9_common_17 rfl hl (by decide) rfl (fun ls hl => ?_)
      refine lv_goto (tgt := 4) hx hb dX9_common_18 (by decide) ?_
      exact ih4 (x % y) hmd y (by rw [gcd_stp]; exact hg) (⟨by omega, by omega⟩) _ _ hP hD hS _ (lv_sub hl [3, 4, 1, 0] rfl)
  exact L4 y0 x0 rfl (⟨hx0, hy0⟩) _ _ hP hD hS _ (lv_sub hl [2, 3, 1, 0] rfl)

set_option maxHeartbeats 4000000 in
set_option maxRecDepth 100000 in
theorem c_X9_period (l : Launch) (D : va_G) (cY : Nat → ClassId) (sz : Nat) (a : Nat → Nat) (n : Nat) (k : Nat) (th : Int32) (fto : Nat → Int32) (g : Nat → Nat → Nat) (i : Nat) (hn1 : 1 ≤ n) (hn6 : n ≤ 6) (hk1 : 1 ≤ k) (hk12 : k ≤ 12) (hG : ∀ i j, i < n → j < k → fto (12 * i + j) = nI (g i j)) (hgn : ∀ i j, i < n → j < k → g i j < n) (hi : i < n) : Met l yX9_period wsX9_period ({ frames := 3, cells := 0, slots := 0, locals := 120 }) (cP D cY [.ref (a 0), .int (nI i)] [mO a (nI n) (nI k) th, [(a 1, .inl (cY 0, 72, .inl fto))]] sz) (qI (S := Unit) D cY (fun r u => r = nI (prd g n k i 40)) (fun u => [mO a (nI n) (nI k) (nI 0), [(a 1, .inl (cY 0, 72, .inl fto))]]) (va_A ([mO a (nI n) (nI k) th, [(a 1, .inl (cY 0, 72, .inl fto))]] : List va_W).flatten sz)) 0 0 (va_A ([mO a (nI n) (nI k) th, [(a 1, .inl (cY 0, 72, .inl fto))]] : List va_W).flatten sz) := by
  refine mtB (Qc := fun A => qI (S := Unit) D cY (fun r u => r = nI (prd g n k i 40)) (fun u => [mO a (nI n) (nI k) (nI 0), [(a 1, .inl (cY 0, 72, .inl fto))]]) A) (cc := cX9_period) (maxL := 5) (ret := (some .int)) (by decide) rfl (Nat.le_of_ble_eq_true rfl) ?_
  intro p e s m below meth c A ls hx hb hr hml hts hown hlocks hnm hsz hP hK hVK hD hS hA hl
  have hown : s.vm.findClass RX9 = some m.cls := hown
  have hl : lv_has ls 5 [(0, .ref (a 0)), (1, .int (nI i))] := hl
  have hP : va_P D vwCl ([mO a (nI n) (nI k) th, [(a 1, .inl (cY 0, 72, .inl fto))]] : List va_W).flatten s.heap := hP
  have hD : va_D A ([mO a (nI n) (nI k) th, [(a 1, .inl (cY 0, 72, .inl fto))]] : List va_W).flatten := hD
  have hin : inR (nI i) (nI 0) (nI (n - 1)) = true := inR_t (by omega) (by omega) (by omega)
  refine lv_aload_n hx hb dX9_period_0 rfl (lv_at hl 0 rfl) ?_
  refine lv_aload_n hx hb dX9_period_1 rfl (lv_at hl 0 rfl) ?_
  refine lv_iload_n hx hb dX9_period_2 rfl (lv_at hl 1 rfl) ?_
  refine ca_i (CL := [mO a (nI n) (nI k) th]) (va_runV (As := [.int (nI i)]) (rest := [.ref (a 0)]) ⟨hx, hb, hml, hown, hts⟩ (c_X9_isState l D cY s.heap.size a n k th (nI i) (by omega)) (cwV 1 hts gX9_period_X9_isState rfl rfl rfl (by decide +kernel) ⟨Nat.le_of_ble_eq_true rfl, Nat.le_of_ble_eq_true rfl⟩) (b_preV hVK hP hD [0] rfl rfl 0 rfl rfl) rfl rfl hl.1 rfl (lv_room (Nat.le_of_ble_eq_true rfl)) dX9_period_3 ⟨Nat.le_refl _, Nat.le_refl _⟩) hP hD hS hA [0] rfl rfl (fun _ => rfl) (fun r3 uu H locs hq hP hD hS => ?_)
  subst hq
  have hP : va_P D vwCl ([mO a (nI n) (nI k) th, [(a 1, .inl (cY 0, 72, .inl fto))]] : List va_W).flatten H := hP
  have hD : va_D A ([mO a (nI n) (nI k) th, [(a 1, .inl (cY 0, 72, .inl fto))]] : List va_W).flatten := hD
  refine b_if_eq (tgt := 13) hx hb dX9_period_6 (by decide) (fun h6 => ?_) (fun h6 => ?_)
  · -- t
    exact absurd (h6.symm.trans hin) (by decide)
  · -- f
    refine lv_iconst (v := nI 0) hx hb dX9_period_9 (by decide) ?_
    refine lv_goto (tgt := 14) hx hb dX9_period_10 (by decide) ?_
    refine ca_i (CL := [mO a (nI n) (nI k) th]) (va_runV (As := [.int (nI 0)]) (rest := []) ⟨hx, hb, hml, hown, hts⟩ (c_X9_can l D cY H.size a n k th 0 (by omega)) (cwV 1 hts gX9_period_X9_can rfl rfl rfl (by decide +kernel) ⟨Nat.le_of_ble_eq_true rfl, Nat.le_of_ble_eq_true rfl⟩) (b_preV hVK hP hD [0] rfl rfl 0 rfl rfl) rfl rfl hl.1 rfl (lv_room (Nat.le_of_ble_eq_true rfl)) dX9_period_14 ⟨Nat.le_refl _, Nat.le_refl _⟩) hP hD hS hA [0] rfl rfl (fun _ => rfl) (fun r14 uu H locs hq hP hD hS => ?_)
    subst hq
    have hP : va_P D vwCl ([mO a (nI n) (nI k) (nI 0), [(a 1, .inl (cY 0, 72, .inl fto))]] : List va_W).flatten H := hP
    have hD : va_D A ([mO a (nI n) (nI k) (nI 0), [(a 1, .inl (cY 0, 72, .inl fto))]] : List va_W).flatten := hD
    refine b_if_ne (tgt := 22) hx hb dX9_period_17 (by decide) (fun h17 => ?_) (fun h17 => ?_)
    · -- t
      refine lv_iconst (v := nI 1) hx hb dX9_period_22 (by decide) ?_
      refine lv_iload_n hx hb dX9_period_23 rfl (lv_at hl 1 rfl) ?_
      refine lv_ishl hx hb dX9_period_24 ?_
      refine eqi (x' := nI (2 ^ i)) (nI_shl1 (by omega)) ?_
      refine lv_istore_n (lv' := [(2, .int (nI (2 ^ i))), (0, .ref (a 0)), (1, .int (nI i))]) hx hb dX9_period_25 rfl hl (by decide) rfl (fun ls hl => ?_)
      refine lv_iconst (v := nI 0) hx hb dX9_period_26 (by decide) ?_
      refine lv_istore_n (lv' := [(3, .int (nI 0)), (2, .int (nI (2 ^ i))), (0, .ref (a 0)), (1, .int (nI i))]) hx hb dX9_period_27 rfl hl (by decide) rfl (fun ls hl => ?_)
      refine lv_iconst (v := nI 1) hx hb dX9_period_28 (by decide) ?_
      refine lv_istore (lv' := [(4, .int (nI 1)), (3, .int (nI 0)), (2, .int (nI (2 ^ i))), (0, .ref (a 0)), (1, .int (nI i))]) hx hb dX9_period_29 hl (by decide) rfl (fun ls hl => ?_)
      have L31 : ∀ q : Nat, q ≤ 40 →  ∀ (H : Heap) (locs : List Loc), va_P D vwCl ([mO a (nI n) (nI k) (nI 0), [(a 1, .inl (cY 0, 72, .inl fto))]] : List va_W).flatten H → va_D A ([mO a (nI n) (nI k) (nI 0), [(a 1, .inl (cY 0, 72, .inl fto))]] : List va_W).flatten → va_S A s.heap H locs → ∀ (ls : Array Slot), lv_has ls 5 [(0, .ref (a 0)), (1, .int (nI i)), (2, .int (nI (stp g n k i q))), (3, .int (nI (prd g n k i q))), (4, .int (nI (q + 1)))] → W p l e ({ frames := 3, cells := 0, slots := 0, locals := 120 }) s m ([.ref (a 0), .int (nI i)] : List Value).toArray below meth c H locs 0 0 (MQ below (qI (S := Unit) D cY (fun r u => r = nI (prd g n k i 40)) (fun u => [mO a (nI n) (nI k) (nI 0), [(a 1, .inl (cY 0, 72, .inl fto))]]) A) ([.ref (a 0), .int (nI i)] : List Value).toArray s 0 0 A) (F0 m 31 ls []) := by
        refine lpW 40 ?_
        intro q bq ih31   H locs hP hD hS ls hl
        refine lv_iload hx hb dX9_period_31 (lv_at hl 4 rfl) ?_
        refine lv_bipush (v := nI 40) hx hb dX9_period_33 (by decide) ?_
        refine n_icmp_gt (tgt := 70) hx hb dX9_period_35 (by decide) (by omega) (by omega) (fun h35 => ?_) (fun h35 => ?_)
        · -- t
          refine lv_iload_n hx hb dX9_period_70 rfl (lv_at hl 3 rfl) ?_
          exact r_i hx hb hr hlocks hP hD hS () rfl (by (have e : q = 40 := by omega); subst e; rfl) dX9_period_71
        · -- f
          refine lv_aload_n hx hb dX9_period_38 rfl (lv_at hl 0 rfl) ?_
          refine lv_iload_n hx hb dX9_period_39 rfl (lv_at hl 2 rfl) ?_
          refine ca_i (CL := [mO a (nI n) (nI k) (nI 0), [(a 1, .inl (cY 0, 72, .inl fto))]]) (va_runV (As := [.int (nI (stp g n k i q))]) (rest := []) ⟨hx, hb, hml, hown, hts⟩ (c_X9_ahead l D cY H.size a n k (nI 0) fto g (stp g n k i q) (by omega) (by omega) (by omega) (by omega) hG hgn (stp_lt hgn hn6 hi q)) (cwV 1 hts gX9_period_X9_ahead rfl rfl rfl (by decide +kernel) ⟨Nat.le_of_ble_eq_true rfl, Nat.le_of_ble_eq_true rfl⟩) (b_preV hVK hP hD [0, 1] rfl rfl 0 rfl rfl) rfl rfl hl.1 rfl (lv_room (Nat.le_of_ble_eq_true rfl)) dX9_period_40 ⟨Nat.le_refl _, Nat.le_refl _⟩) hP hD hS hA [0, 1] rfl rfl (fun _ => rfl) (fun r40 uu H locs hq hP hD hS => ?_)
          subst hq
          have hP : va_P D vwCl ([mO a (nI n) (nI k) (nI 0), [(a 1, .inl (cY 0, 72, .inl fto))]] : List va_W).flatten H := hP
          have hD : va_D A ([mO a (nI n) (nI k) (nI 0), [(a 1, .inl (cY 0, 72, .inl fto))]] : List va_W).flatten := hD
          refine eqi (x' := nI (stp g n k i (q + 1))) (rfl) ?_
          refine lv_istore_n (lv' := [(2, .int (nI (stp g n k i (q + 1)))), (0, .ref (a 0)), (1, .int (nI i)), (3, .int (nI (prd g n k i q))), (4, .int (nI (q + 1)))]) hx hb dX9_period_43 rfl hl (by decide) rfl (fun ls hl => ?_)
          have hs2 := stp_lt hgn hn6 hi (q + 1)
          refine lv_iload_n hx hb dX9_period_44 rfl (lv_at hl 0 rfl) ?_
          refine lv_iload_n hx hb dX9_period_45 rfl (lv_at hl 2 rfl) ?_
          refine lv_ishr hx hb dX9_period_46 ?_
          refine eqi (x' := nI ((stp g n k i (q + 1)) / 2 ^ i)) (nI_shr (by omega) (by omega)) ?_
          have hxd : stp g n k i (q + 1) / 2 ^ i ≤ stp g n k i (q + 1) := Nat.div_le_self _ _
          refine lv_iconst (v := nI 1) hx hb dX9_period_47 (by decide) ?_
          refine lv_iand hx hb dX9_period_48 ?_
          refine eqi (x' := nI (((stp g n k i (q + 1)) / 2 ^ i) &&& 1)) (nI_and _ _) ?_
          refine eqi (x' := nI (stp g n k i (q + 1) / 2 ^ i % 2)) (congrArg nI (Nat.and_one_is_mod _)) ?_
          refine lv_iconst (v := nI 1) hx hb dX9_period_49 (by decide) ?_
          refine n_icmp_ne (tgt := 62) hx hb dX9_period_50 (by decide) (by omega) (by omega) (fun h50 => ?_) (fun h50 => ?_)
          · -- t
            refine lv_iload_n hx hb dX9_period_62 rfl (lv_at hl 3 rfl) ?_
            refine eqi (x' := nI (prd g n k i (q + 1))) (congrArg nI (by simp [prd, h50])) ?_
            refine lv_istore_n (lv' := [(3, .int (nI (prd g n k i (q + 1)))), (2, .int (nI (stp g n k i (q + 1)))), (0, .ref (a 0)), (1, .int (nI i)), (4, .int (nI (q + 1)))]) hx hb dX9_period_63 rfl hl (by decide) rfl (fun ls hl => ?_)
            refine lv_iinc (v := nI (q + 1 + 1)) (lv' := [(4, .int (nI (q + 1 + 1))), (3, .int (nI (prd g n k i (q + 1)))), (2, .int (nI (stp g n k i (q + 1)))), (0, .ref (a 0)), (1, .int (nI i))]) hx hb dX9_period_64 hl (k := 4) rfl (nI_1 (q + 1)) (by decide) rfl (fun ls hl => ?_)
            refine lv_goto (tgt := 31) hx hb dX9_period_67 (by decide) ?_
            exact ih31 (by omega)   _ _ hP hD hS _ (lv_sub hl [3, 4, 2, 1, 0] rfl)
          · -- f
            refine lv_iload hx hb dX9_period_53 (lv_at hl 4 rfl) ?_
            refine lv_iload_n hx hb dX9_period_55 rfl (lv_at hl 3 rfl) ?_
            refine ca_i (CL := []) (va_runS (As := [.int (nI (q + 1)), .int (nI (prd g n k i q))]) (rest := []) ⟨hx, hb, hml, hown, hts⟩ (c_X9_common l D cY H.size (q + 1) (prd g n k i q) (by omega) (Nat.le_trans (prd_le q) (by omega))) (va_cwS 2 hts gX9_period_X9_common rfl rfl rfl (by decide +kernel) ⟨Nat.le_of_ble_eq_true rfl, Nat.le_of_ble_eq_true rfl⟩) (b_preS hVK hP hD [] rfl rfl) rfl rfl hl.1 rfl (lv_room (Nat.le_of_ble_eq_true rfl)) dX9_period_56 ⟨Nat.le_refl _, Nat.le_refl _⟩) hP hD hS hA [] rfl rfl (fun _ => rfl) (fun r56 uu H locs hq hP hD hS => ?_)
            subst hq
            have hP : va_P D vwCl ([mO a (nI n) (nI k) (nI 0), [(a 1, .inl (cY 0, 72, .inl fto))]] : List va_W).flatten H := hP
            have hD : va_D A ([mO a (nI n) (nI k) (nI 0), [(a 1, .inl (cY 0, 72, .inl fto))]] : List va_W).flatten := hD
            refine lv_goto (tgt := 63) hx hb dX9_period_59 (by decide) ?_
            refine eqi (x' := nI (prd g n k i (q + 1))) (congrArg nI (by simp [prd, h50])) ?_
            refine lv_istore_n (lv' := [(3, .int (nI (prd g n k i (q + 1)))), (2, .int (nI (stp g n k i (q + 1)))), (0, .ref (a 0)), (1, .int (nI i)), (4, .int (nI (q + 1)))]) hx hb dX9_period_63 rfl hl (by decide) rfl (fun ls hl => ?_)
            refine lv_iinc (v := nI (q + 1 + 1)) (lv' := [(4, .int (nI (q + 1 + 1))), (3, .int (nI (prd g n k i (q + 1)))), (2, .int (nI (stp g n k i (q + 1)))), (0, .ref (a 0)), (1, .int (nI i))]) hx hb dX9_period_64 hl (k := 4) rfl (nI_1 (q + 1)) (by decide) rfl (fun ls hl => ?_)
            refine lv_goto (tgt := 31) hx hb dX9_period_67 (by decide) ?_
            exact ih31 (by omega)   _ _ hP hD hS _ (lv_sub hl [3, 4, 2, 1, 0] rfl)
      exact L31 0 (by omega)   _ _ hP hD hS _ (lv_sub hl [3, 4, 2, 1, 0] rfl)
    · -- f
      exact absurd h17 (by decide)

set_option maxHeartbeats 4000000 in
set_option maxRecDepth 100000 in
theorem c_X9_apartBy (l : Launch) (D : va_G) (cY : Nat → ClassId) (sz : Nat) (a : Nat → Nat) (n : Nat) (k : Nat) (th : Int32) (fto : Nat → Int32) (fnow : Nat → Int64) (fthn : Nat → Int64) (g : Nat → Nat → Nat) (f : Nat) (b : Nat) (t : Nat) (hn1 : 1 ≤ n) (hn6 : n ≤ 6) (hk1 : 1 ≤ k) (hk12 : k ≤ 12) (hG : ∀ i j, i < n → j < k → fto (12 * i + j) = nI (g i j)) (hgn : ∀ i j, i < n → j < k → g i j < n) (hf : f < n) (hb6 : b < n) (ht : t ≤ 12) : Met l yX9_apartBy wsX9_apartBy ({ frames := 1, cells := 0, slots := 0, locals := 40 }) (cP D cY [.ref (a 0), .int (nI f), .int (nI b), .int (nI t)] [mO a (nI n) (nI k) th, [(a 1, .inl (cY 0, 72, .inl fto))], [(a 4, .inl (cY 1, 64, .inr (.inl fnow)))], [(a 5, .inl (cY 1, 64, .inr (.inl fthn)))]] sz) (qL (S := (Nat → Int64) × (Nat → Int64)) D cY (fun r u => r = lN (sm (PL (pr g) 36 k (prs f b) t) 36)) (fun u => [mO a (nI n) (nI k) th, [(a 1, .inl (cY 0, 72, .inl fto))], [(a 4, .inl (cY 1, 64, .inr (.inl u.1)))], [(a 5, .inl (cY 1, 64, .inr (.inl u.2)))]]) (va_A ([mO a (nI n) (nI k) th, [(a 1, .inl (cY 0, 72, .inl fto))], [(a 4, .inl (cY 1, 64, .inr (.inl fnow)))], [(a 5, .inl (cY 1, 64, .inr (.inl fthn)))]] : List va_W).flatten sz)) 0 0 (va_A ([mO a (nI n) (nI k) th, [(a 1, .inl (cY 0, 72, .inl fto))], [(a 4, .inl (cY 1, 64, .inr (.inl fnow)))], [(a 5, .inl (cY 1, 64, .inr (.inl fthn)))]] : List va_W).flatten sz) := by
  refine mtB (Qc := fun A => qL (S := (Nat → Int64) × (Nat → Int64)) D cY (fun r u => r = lN (sm (PL (pr g) 36 k (prs f b) t) 36)) (fun u => [mO a (nI n) (nI k) th, [(a 1, .inl (cY 0, 72, .inl fto))], [(a 4, .inl (cY 1, 64, .inr (.inl u.1)))], [(a 5, .inl (cY 1, 64, .inr (.inl u.2)))]]) A) (cc := cX9_apartBy) (maxL := 9) (ret := (some .long)) (by decide) rfl (Nat.le_of_ble_eq_true rfl) ?_
  intro p e s m below meth c A ls hx hb hr hml hts hown hlocks hnm hsz hP hK hVK hD hS hA hl
  have hown : s.vm.findClass RX9 = some m.cls := hown
  have hl : lv_has ls 9 [(0, .ref (a 0)), (1, .int (nI f)), (2, .int (nI b)), (3, .int (nI t))] := hl
  have hP : va_P D vwCl ([mO a (nI n) (nI k) th, [(a 1, .inl (cY 0, 72, .inl fto))], [(a 4, .inl (cY 1, 64, .inr (.inl fnow)))], [(a 5, .inl (cY 1, 64, .inr (.inl fthn)))]] : List va_W).flatten s.heap := hP
  have hD : va_D A ([mO a (nI n) (nI k) th, [(a 1, .inl (cY 0, 72, .inl fto))], [(a 4, .inl (cY 1, 64, .inr (.inl fnow)))], [(a 5, .inl (cY 1, 64, .inr (.inl fthn)))]] : List va_W).flatten := hD
  refine lv_aload_n hx hb dX9_apartBy_0 rfl (lv_at hl 0 rfl) ?_
  refine lv_iload_n hx hb dX9_apartBy_1 rfl (lv_at hl 1 rfl) ?_
  refine lv_iload_n hx hb dX9_apartBy_2 rfl (lv_at hl 2 rfl) ?_
  refine n_icmp_ne (tgt := 10) hx hb dX9_apartBy_3 (by decide) (by omega) (by omega) (fun h3 => ?_) (fun h3 => ?_)
  · -- t
    refine lv_bipush (v := nI 6) hx hb dX9_apartBy_10 (by decide) ?_
    refine lv_iload_n hx hb dX9_apartBy_12 rfl (lv_at hl 1 rfl) ?_
    refine lv_imul hx hb dX9_apartBy_13 ?_
    refine eqi (x' := nI (6 * f)) (pk_mul _ _) ?_
    refine lv_iload_n hx hb dX9_apartBy_14 rfl (lv_at hl 2 rfl) ?_
    refine lv_iadd hx hb dX9_apartBy_15 ?_
    refine eqi (x' := nI (6 * f + b)) (nI_add _ _) ?_
    refine ca_v (CL := [mO a (nI n) (nI k) th, [(a 4, .inl (cY 1, 64, .inr (.inl fnow)))]]) (va_runV (As := [.int (nI (6 * f + b))]) (rest := []) ⟨hx, hb, hml, hown, hts⟩ (c_X9_begins l D cY s.heap.size a n k th fnow (nI (6 * f + b))) (cwV 1 hts gX9_apartBy_X9_begins rfl rfl rfl (by decide +kernel) ⟨Nat.le_of_ble_eq_true rfl, Nat.le_of_ble_eq_true rfl⟩) (b_preV hVK hP hD [0, 2] rfl rfl 0 rfl rfl) rfl rfl hl.1 rfl (lv_room (Nat.le_of_ble_eq_true rfl)) dX9_apartBy_16 ⟨Nat.le_refl _, Nat.le_refl _⟩) hP hD hS hA [0, 2] rfl rfl (fun _ => rfl) (fun uu H locs hq hP hD hS => ?_)
    obtain ⟨fnow1_1, rfl⟩ : ∃ z, z = uu := ⟨_, rfl⟩
    try dsimp only at hq
    have q16 := hq
    have hP : va_P D vwCl ([mO a (nI n) (nI k) th, [(a 1, .inl (cY 0, 72, .inl fto))], [(a 4, .inl (cY 1, 64, .inr (.inl fnow1_1)))], [(a 5, .inl (cY 1, 64, .inr (.inl fthn)))]] : List va_W).flatten H := hP
    have hD : va_D A ([mO a (nI n) (nI k) th, [(a 1, .inl (cY 0, 72, .inl fto))], [(a 4, .inl (cY 1, 64, .inr (.inl fnow1_1)))], [(a 5, .inl (cY 1, 64, .inr (.inl fthn)))]] : List va_W).flatten := hD
    refine lv_iconst (v := nI 0) hx hb dX9_apartBy_19 (by decide) ?_
    refine lv_istore (lv' := [(4, .int (nI 0)), (0, .ref (a 0)), (1, .int (nI f)), (2, .int (nI b)), (3, .int (nI t))]) hx hb dX9_apartBy_20 hl (by decide) rfl (fun ls hl => ?_)
    have L22 : ∀ u : Nat, u ≤ t → ∀ (fN : Nat → Int64) (fT : Nat → Int64), (∀ X, X < 36 → fN X = lN (PL (pr g) 36 k (prs f b) u X)) → ∀ (H : Heap) (locs : List Loc), va_P D vwCl ([mO a (nI n) (nI k) th, [(a 1, .inl (cY 0, 72, .inl fto))], [(a 4, .inl (cY 1, 64, .inr (.inl fN)))], [(a 5, .inl (cY 1, 64, .inr (.inl fT)))]] : List va_W).flatten H → va_D A ([mO a (nI n) (nI k) th, [(a 1, .inl (cY 0, 72, .inl fto))], [(a 4, .inl (cY 1, 64, .inr (.inl fN)))], [(a 5, .inl (cY 1, 64, .inr (.inl fT)))]] : List va_W).flatten → va_S A s.heap H locs → ∀ (ls : Array Slot), lv_has ls 9 [(0, .ref (a 0)), (1, .int (nI f)), (2, .int (nI b)), (3, .int (nI t)), (4, .int (nI u))] → W p l e ({ frames := 1, cells := 0, slots := 0, locals := 40 }) s m ([.ref (a 0), .int (nI f), .int (nI b), .int (nI t)] : List Value).toArray below meth c H locs 0 0 (MQ below (qL (S := (Nat → Int64) × (Nat → Int64)) D cY (fun r u => r = lN (sm (PL (pr g) 36 k (prs f b) t) 36)) (fun u => [mO a (nI n) (nI k) th, [(a 1, .inl (cY 0, 72, .inl fto))], [(a 4, .inl (cY 1, 64, .inr (.inl u.1)))], [(a 5, .inl (cY 1, 64, .inr (.inl u.2)))]]) A) ([.ref (a 0), .int (nI f), .int (nI b), .int (nI t)] : List Value).toArray s 0 0 A) (F0 m 22 ls []) := by
      refine lpW t ?_
      intro u bu ih22 fN fT hI H locs hP hD hS ls hl
      refine lv_iload hx hb dX9_apartBy_22 (lv_at hl 4 rfl) ?_
      refine lv_iload_n hx hb dX9_apartBy_24 rfl (lv_at hl 3 rfl) ?_
      refine n_icmp_ge (tgt := 144) hx hb dX9_apartBy_25 (by decide) (by omega) (by omega) (fun h25 => ?_) (fun h25 => ?_)
      · -- t
        have hI2 : ∀ X, X < 36 → fN X = lN (PL (pr g) 36 k (prs f b) t X) := by (have e : u = t := by omega); subst e; exact hI
        refine lv_lconst (v := lN 0) hx hb dX9_apartBy_144 (by decide) ?_
        refine lv_lstore (lv' := [(4, .long (lN 0)), (0, .ref (a 0)), (1, .int (nI f)), (2, .int (nI b)), (3, .int (nI t))]) hx hb dX9_apartBy_145 hl (by decide) rfl (fun ls hl => ?_)
        refine lv_iconst (v := nI 0) hx hb dX9_apartBy_147 (by decide) ?_
        refine lv_istore (lv' := [(6, .int (nI 0)), (4, .long (lN 0)), (0, .ref (a 0)), (1, .int (nI f)), (2, .int (nI b)), (3, .int (nI t))]) hx hb dX9_apartBy_148 hl (by decide) rfl (fun ls hl => ?_)
        have L150 : ∀ q : Nat, q ≤ 36 →  ∀ (H : Heap) (locs : List Loc), va_P D vwCl ([mO a (nI n) (nI k) th, [(a 1, .inl (cY 0, 72, .inl fto))], [(a 4, .inl (cY 1, 64, .inr (.inl fN)))], [(a 5, .inl (cY 1, 64, .inr (.inl fT)))]] : List va_W).flatten H → va_D A ([mO a (nI n) (nI k) th, [(a 1, .inl (cY 0, 72, .inl fto))], [(a 4, .inl (cY 1, 64, .inr (.inl fN)))], [(a 5, .inl (cY 1, 64, .inr (.inl fT)))]] : List va_W).flatten → va_S A s.heap H locs → ∀ (ls : Array Slot), lv_has ls 9 [(0, .ref (a 0)), (1, .int (nI f)), (2, .int (nI b)), (3, .int (nI t)), (4, .long (lN (sm (PL (pr g) 36 k (prs f b) t) q))), (6, .int (nI q))] → W p l e ({ frames := 1, cells := 0, slots := 0, locals := 40 }) s m ([.ref (a 0), .int (nI f), .int (nI b), .int (nI t)] : List Value).toArray below meth c H locs 0 0 (MQ below (qL (S := (Nat → Int64) × (Nat → Int64)) D cY (fun r u => r = lN (sm (PL (pr g) 36 k (prs f b) t) 36)) (fun u => [mO a (nI n) (nI k) th, [(a 1, .inl (cY 0, 72, .inl fto))], [(a 4, .inl (cY 1, 64, .inr (.inl u.1)))], [(a 5, .inl (cY 1, 64, .inr (.inl u.2)))]]) A) ([.ref (a 0), .int (nI f), .int (nI b), .int (nI t)] : List Value).toArray s 0 0 A) (F0 m 150 ls []) := by
          refine lpW 36 ?_
          intro q bq ih150   H locs hP hD hS ls hl
          refine lv_iload hx hb dX9_apartBy_150 (lv_at hl 5 rfl) ?_
          refine lv_bipush (v := nI 36) hx hb dX9_apartBy_152 (by decide) ?_
          refine n_icmp_ge (tgt := 175) hx hb dX9_apartBy_154 (by decide) (by omega) (by omega) (fun h154 => ?_) (fun h154 => ?_)
          · -- t
            refine lv_lload hx hb dX9_apartBy_175 (lv_at hl 4 rfl) ?_
            exact r_l hx hb hr hlocks hP hD hS (fN, fT) rfl (by (have e : q = 36 := by omega); subst e; rfl) dX9_apartBy_177
          · -- f
            refine lv_lload hx hb dX9_apartBy_157 (lv_at hl 4 rfl) ?_
            refine lv_aload_n hx hb dX9_apartBy_159 rfl (lv_at hl 0 rfl) ?_
            refine b_get (ci := 9) (v := .ref (a 4)) (C := RX9) (T := TX9) (N := 13) hx hb hts (by decide +kernel) hown hK hP 0 rfl rfl 5 (by decide) (hts (.fieldLink RX9 26 "ChanceHallModel" "now" "[J") (by decide +kernel)) (fun _ h9 => h9) rfl dX9_apartBy_160 ?_
            refine lv_iload hx hb dX9_apartBy_163 (lv_at hl 5 rfl) ?_
            refine b_lald hx hb hK hP 2 1 rfl rfl (by omega) (by decide) dX9_apartBy_165 ?_
            refine eql (x' := lN (PL (pr g) 36 k (prs f b) t q)) (hI2 q (by omega)) ?_
            refine lv_ladd hx hb dX9_apartBy_166 ?_
            refine eql (x' := lN (sm (PL (pr g) 36 k (prs f b) t) q + PL (pr g) 36 k (prs f b) t q)) (lN_add _ _) ?_
            refine lv_lstore (lv' := [(4, .long (lN (sm (PL (pr g) 36 k (prs f b) t) q + PL (pr g) 36 k (prs f b) t q))), (0, .ref (a 0)), (1, .int (nI f)), (2, .int (nI b)), (3, .int (nI t)), (6, .int (nI q))]) hx hb dX9_apartBy_167 hl (by decide) rfl (fun ls hl => ?_)
            refine lv_iinc (v := nI (q + 1)) (lv' := [(6, .int (nI (q + 1))), (4, .long (lN (sm (PL (pr g) 36 k (prs f b) t) q + PL (pr g) 36 k (prs f b) t q))), (0, .ref (a 0)), (1, .int (nI f)), (2, .int (nI b)), (3, .int (nI t))]) hx hb dX9_apartBy_169 hl (k := 5) rfl (nI_1 q) (by decide) rfl (fun ls hl => ?_)
            refine lv_goto (tgt := 150) hx hb dX9_apartBy_172 (by decide) ?_
            exact ih150 (by omega)   _ _ hP hD hS _ (lv_sub hl [2, 3, 4, 5, 1, 0] rfl)
        exact L150 0 (by omega)   _ _ hP hD hS _ (lv_sub hl [2, 3, 4, 5, 1, 0] rfl)
      · -- f
        have hpw := pow_b (k := k) (t := u) hk12 hk1 (by omega)
        refine lv_aload_n hx hb dX9_apartBy_28 rfl (lv_at hl 0 rfl) ?_
        refine ca_v (CL := [mO a (nI n) (nI k) th, [(a 4, .inl (cY 1, 64, .inr (.inl fN)))], [(a 5, .inl (cY 1, 64, .inr (.inl fT)))]]) (va_runV (As := []) (rest := []) ⟨hx, hb, hml, hown, hts⟩ (c_X9_keeps l D cY H.size a n k th fN fT) (cwV 0 hts gX9_apartBy_X9_keeps rfl rfl rfl (by decide +kernel) ⟨Nat.le_of_ble_eq_true rfl, Nat.le_of_ble_eq_true rfl⟩) (b_preV hVK hP hD [0, 2, 3] rfl rfl 0 rfl rfl) rfl rfl hl.1 rfl (lv_room (Nat.le_of_ble_eq_true rfl)) dX9_apartBy_29 ⟨Nat.le_refl _, Nat.le_refl _⟩) hP hD hS hA [0, 2, 3] rfl rfl (fun _ => rfl) (fun uu H locs hq hP hD hS => ?_)
        obtain ⟨fnow1_2, fthn1_3⟩ := uu
        try dsimp only at hq
        have q29 := hq
        have hP : va_P D vwCl ([mO a (nI n) (nI k) th, [(a 1, .inl (cY 0, 72, .inl fto))], [(a 4, .inl (cY 1, 64, .inr (.inl fnow1_2)))], [(a 5, .inl (cY 1, 64, .inr (.inl fthn1_3)))]] : List va_W).flatten H := hP
        have hD : va_D A ([mO a (nI n) (nI k) th, [(a 1, .inl (cY 0, 72, .inl fto))], [(a 4, .inl (cY 1, 64, .inr (.inl fnow1_2)))], [(a 5, .inl (cY 1, 64, .inr (.inl fthn1_3)))]] : List va_W).flatten := hD
        refine lv_iconst (v := nI 0) hx hb dX9_apartBy_32 (by decide) ?_
        refine lv_istore (lv' := [(5, .int (nI 0)), (0, .ref (a 0)), (1, .int (nI f)), (2, .int (nI b)), (3, .int (nI t)), (4, .int (nI u))]) hx hb dX9_apartBy_33 hl (by decide) rfl (fun ls hl => ?_)
        have L35 : ∀ Y : Nat, Y ≤ 36 → ∀ (fM : Nat → Int64), (RI (PL (pr g) 36 k (prs f b) u) (pr g) k 36 Y 0 fM) → ∀ (H : Heap) (locs : List Loc), va_P D vwCl ([mO a (nI n) (nI k) th, [(a 1, .inl (cY 0, 72, .inl fto))], [(a 4, .inl (cY 1, 64, .inr (.inl fM)))], [(a 5, .inl (cY 1, 64, .inr (.inl fthn1_3)))]] : List va_W).flatten H → va_D A ([mO a (nI n) (nI k) th, [(a 1, .inl (cY 0, 72, .inl fto))], [(a 4, .inl (cY 1, 64, .inr (.inl fM)))], [(a 5, .inl (cY 1, 64, .inr (.inl fthn1_3)))]] : List va_W).flatten → va_S A s.heap H locs → ∀ (ls : Array Slot), lv_has ls 9 [(0, .ref (a 0)), (1, .int (nI f)), (2, .int (nI b)), (3, .int (nI t)), (4, .int (nI u)), (5, .int (nI Y))] → W p l e ({ frames := 1, cells := 0, slots := 0, locals := 40 }) s m ([.ref (a 0), .int (nI f), .int (nI b), .int (nI t)] : List Value).toArray below meth c H locs 0 0 (MQ below (qL (S := (Nat → Int64) × (Nat → Int64)) D cY (fun r u => r = lN (sm (PL (pr g) 36 k (prs f b) t) 36)) (fun u => [mO a (nI n) (nI k) th, [(a 1, .inl (cY 0, 72, .inl fto))], [(a 4, .inl (cY 1, 64, .inr (.inl u.1)))], [(a 5, .inl (cY 1, 64, .inr (.inl u.2)))]]) A) ([.ref (a 0), .int (nI f), .int (nI b), .int (nI t)] : List Value).toArray s 0 0 A) (F0 m 35 ls []) := by
          refine lpW 36 ?_
          intro Y bY ih35 fM hJ H locs hP hD hS ls hl
          refine lv_iload hx hb dX9_apartBy_35 (lv_at hl 5 rfl) ?_
          refine lv_bipush (v := nI 36) hx hb dX9_apartBy_37 (by decide) ?_
          refine n_icmp_ge (tgt := 138) hx hb dX9_apartBy_39 (by decide) (by omega) (by omega) (fun h39 => ?_) (fun h39 => ?_)
          · -- t
            refine lv_iinc (v := nI (u + 1)) (lv' := [(4, .int (nI (u + 1))), (0, .ref (a 0)), (1, .int (nI f)), (2, .int (nI b)), (3, .int (nI t)), (5, .int (nI Y))]) hx hb dX9_apartBy_138 hl (k := 4) rfl (nI_1 u) (by decide) rfl (fun ls hl => ?_)
            refine lv_goto (tgt := 22) hx hb dX9_apartBy_141 (by decide) ?_
            exact ih22 (by omega) fM fthn1_3 (RI_e (by (have e : Y = 36 := by omega); subst e; exact hJ)) _ _ hP hD hS _ (lv_sub hl [1, 2, 3, 4, 0] rfl)
          · -- f
            refine lv_iconst (v := nI 0) hx hb dX9_apartBy_42 (by decide) ?_
            refine lv_istore (lv' := [(6, .int (nI 0)), (0, .ref (a 0)), (1, .int (nI f)), (2, .int (nI b)), (3, .int (nI t)), (4, .int (nI u)), (5, .int (nI Y))]) hx hb dX9_apartBy_43 hl (by decide) rfl (fun ls hl => ?_)
            have L45 : ∀ w : Nat, w ≤ k → ∀ (fW : Nat → Int64), (RI (PL (pr g) 36 k (prs f b) u) (pr g) k 36 Y w fW) → ∀ (H : Heap) (locs : List Loc), va_P D vwCl ([mO a (nI n) (nI k) th, [(a 1, .inl (cY 0, 72, .inl fto))], [(a 4, .inl (cY 1, 64, .inr (.inl fW)))], [(a 5, .inl (cY 1, 64, .inr (.inl fthn1_3)))]] : List va_W).flatten H → va_D A ([mO a (nI n) (nI k) th, [(a 1, .inl (cY 0, 72, .inl fto))], [(a 4, .inl (cY 1, 64, .inr (.inl fW)))], [(a 5, .inl (cY 1, 64, .inr (.inl fthn1_3)))]] : List va_W).flatten → va_S A s.heap H locs → ∀ (ls : Array Slot), lv_has ls 9 [(0, .ref (a 0)), (1, .int (nI f)), (2, .int (nI b)), (3, .int (nI t)), (4, .int (nI u)), (5, .int (nI Y)), (6, .int (nI w))] → W p l e ({ frames := 1, cells := 0, slots := 0, locals := 40 }) s m ([.ref (a 0), .int (nI f), .int (nI b), .int (nI t)] : List Value).toArray below meth c H locs 0 0 (MQ below (qL (S := (Nat → Int64) × (Nat → Int64)) D cY (fun r u => r = lN (sm (PL (pr g) 36 k (prs f b) t) 36)) (fun u => [mO a (nI n) (nI k) th, [(a 1, .inl (cY 0, 72, .inl fto))], [(a 4, .inl (cY 1, 64, .inr (.inl u.1)))], [(a 5, .inl (cY 1, 64, .inr (.inl u.2)))]]) A) ([.ref (a 0), .int (nI f), .int (nI b), .int (nI t)] : List Value).toArray s 0 0 A) (F0 m 45 ls []) := by
              refine lpW k ?_
              intro w bw ih45 fW hM H locs hP hD hS ls hl
              refine lv_iload hx hb dX9_apartBy_45 (lv_at hl 6 rfl) ?_
              refine lv_aload_n hx hb dX9_apartBy_47 rfl (lv_at hl 0 rfl) ?_
              refine b_get (ci := 9) (v := .int (nI k)) (C := RX9) (T := TX9) (N := 13) hx hb hts (by decide +kernel) hown hK hP 0 rfl rfl 1 (by decide) (hts (.fieldLink RX9 13 "ChanceHallModel" "slots" "I") (by decide +kernel)) (fun _ h9 => h9) rfl dX9_apartBy_48 ?_
              refine n_icmp_ge (tgt := 132) hx hb dX9_apartBy_51 (by decide) (by omega) (by omega) (fun h51 => ?_) (fun h51 => ?_)
              · -- t
                refine lv_iinc (v := nI (Y + 1)) (lv' := [(5, .int (nI (Y + 1))), (0, .ref (a 0)), (1, .int (nI f)), (2, .int (nI b)), (3, .int (nI t)), (4, .int (nI u)), (6, .int (nI w))]) hx hb dX9_apartBy_132 hl (k := 5) rfl (nI_1 Y) (by decide) rfl (fun ls hl => ?_)
                refine lv_goto (tgt := 35) hx hb dX9_apartBy_135 (by decide) ?_
                exact ih35 (by omega) fW (by first | exact RI_k hM (Or.inl (by omega)) | exact RI_k hM (Or.inr hv0)) _ _ hP hD hS _ (lv_sub hl [1, 2, 3, 4, 5, 0] rfl)
              · -- f
                refine lv_aload_n hx hb dX9_apartBy_54 rfl (lv_at hl 0 rfl) ?_
                refine b_get (ci := 9) (v := .ref (a 5)) (C := RX9) (T := TX9) (N := 13) hx hb hts (by decide +kernel) hown hK hP 0 rfl rfl 6 (by decide) (hts (.fieldLink RX9 30 "ChanceHallModel" "then" "[J") (by decide +kernel)) (fun _ h9 => h9) rfl dX9_apartBy_55 ?_
                refine lv_iload hx hb dX9_apartBy_58 (lv_at hl 5 rfl) ?_
                refine b_lald hx hb hK hP 3 1 rfl rfl (by omega) (by decide) dX9_apartBy_60 ?_
                refine eql (x' := lN (PL (pr g) 36 k (prs f b) u Y)) (by rw [(q29 Y (by omega)).2]; exact hI Y (by omega)) ?_
                have hvb := PL_le' (g := pr g) (n := 36) (k := k) (f := prs f b) (t := u) (b := Y) (by omega)
                refine lv_lconst (v := lN 0) hx hb dX9_apartBy_61 (by decide) ?_
                refine W.lcmp hx hb dX9_apartBy_62 ?_
                refine l_if_le (tgt := 132) hx hb dX9_apartBy_63 (by decide) (fun h63 => ?_) (fun h63 => ?_)
                · -- t
                  have hv0 := lzer (by omega) h63
                  refine lv_iinc (v := nI (Y + 1)) (lv' := [(5, .int (nI (Y + 1))), (0, .ref (a 0)), (1, .int (nI f)), (2, .int (nI b)), (3, .int (nI t)), (4, .int (nI u)), (6, .int (nI w))]) hx hb dX9_apartBy_132 hl (k := 5) rfl (nI_1 Y) (by decide) rfl (fun ls hl => ?_)
                  refine lv_goto (tgt := 35) hx hb dX9_apartBy_135 (by decide) ?_
                  exact ih35 (by omega) fW (by first | exact RI_k hM (Or.inl (by omega)) | exact RI_k hM (Or.inr hv0)) _ _ hP hD hS _ (lv_sub hl [1, 2, 3, 4, 5, 0] rfl)
                · -- f
                  obtain ⟨hsa, hsb⟩ := pr_sup hgn hn6 (prs_ok hn6 hf hb6) u Y (by omega) (lpos h63)
                  refine lv_aload_n hx hb dX9_apartBy_66 rfl (lv_at hl 0 rfl) ?_
                  refine lv_iload hx hb dX9_apartBy_67 (lv_at hl 5 rfl) ?_
                  refine lv_bipush (v := nI 6) hx hb dX9_apartBy_69 (by decide) ?_
                  refine lv_idiv hx hb dX9_apartBy_71 (nI_ne0 (by omega) (by omega)) ?_
                  refine eqi (x' := nI (Y / 6)) (pk_div (by omega) (by omega) (by omega)) ?_
                  refine lv_iload hx hb dX9_apartBy_72 (lv_at hl 6 rfl) ?_
                  refine ca_i (CL := [mO a (nI n) (nI k) th, [(a 1, .inl (cY 0, 72, .inl fto))]]) (va_runV (As := [.int (nI (Y / 6)), .int (nI w)]) (rest := []) ⟨hx, hb, hml, hown, hts⟩ (c_X9_goes l D cY H.size a n k th fto g (Y / 6) w (by omega) (by omega) (by omega) (by omega) hG (by omega) (by omega)) (cwV 2 hts gX9_apartBy_X9_goes rfl rfl rfl (by decide +kernel) ⟨Nat.le_of_ble_eq_true rfl, Nat.le_of_ble_eq_true rfl⟩) (b_preV hVK hP hD [0, 1] rfl rfl 0 rfl rfl) rfl rfl hl.1 rfl (lv_room (Nat.le_of_ble_eq_true rfl)) dX9_apartBy_74 ⟨Nat.le_refl _, Nat.le_refl _⟩) hP hD hS hA [0, 1] rfl rfl (fun _ => rfl) (fun r74 uu H locs hq hP hD hS => ?_)
                  subst hq
                  have hP : va_P D vwCl ([mO a (nI n) (nI k) th, [(a 1, .inl (cY 0, 72, .inl fto))], [(a 4, .inl (cY 1, 64, .inr (.inl fW)))], [(a 5, .inl (cY 1, 64, .inr (.inl fthn1_3)))]] : List va_W).flatten H := hP
                  have hD : va_D A ([mO a (nI n) (nI k) th, [(a 1, .inl (cY 0, 72, .inl fto))], [(a 4, .inl (cY 1, 64, .inr (.inl fW)))], [(a 5, .inl (cY 1, 64, .inr (.inl fthn1_3)))]] : List va_W).flatten := hD
                  have hga := hgn (Y / 6) w hsa (by omega)
                  refine lv_istore (lv' := [(7, .int (nI (g (Y / 6) w))), (0, .ref (a 0)), (1, .int (nI f)), (2, .int (nI b)), (3, .int (nI t)), (4, .int (nI u)), (5, .int (nI Y)), (6, .int (nI w))]) hx hb dX9_apartBy_77 hl (by decide) rfl (fun ls hl => ?_)
                  refine lv_aload_n hx hb dX9_apartBy_79 rfl (lv_at hl 1 rfl) ?_
                  refine lv_iload hx hb dX9_apartBy_80 (lv_at hl 6 rfl) ?_
                  refine lv_bipush (v := nI 6) hx hb dX9_apartBy_82 (by decide) ?_
                  refine lv_irem hx hb dX9_apartBy_84 (nI_ne0 (by omega) (by omega)) ?_
                  refine eqi (x' := nI (Y % 6)) (pk_rem (by omega) (by omega) (by omega)) ?_
                  refine lv_iload hx hb dX9_apartBy_85 (lv_at hl 7 rfl) ?_
                  refine ca_i (CL := [mO a (nI n) (nI k) th, [(a 1, .inl (cY 0, 72, .inl fto))]]) (va_runV (As := [.int (nI (Y % 6)), .int (nI w)]) (rest := []) ⟨hx, hb, hml, hown, hts⟩ (c_X9_goes l D cY H.size a n k th fto g (Y % 6) w (by omega) (by omega) (by omega) (by omega) hG (by omega) (by omega)) (cwV 2 hts gX9_apartBy_X9_goes rfl rfl rfl (by decide +kernel) ⟨Nat.le_of_ble_eq_true rfl, Nat.le_of_ble_eq_true rfl⟩) (b_preV hVK hP hD [0, 1] rfl rfl 0 rfl rfl) rfl rfl hl.1 rfl (lv_room (Nat.le_of_ble_eq_true rfl)) dX9_apartBy_87 ⟨Nat.le_refl _, Nat.le_refl _⟩) hP hD hS hA [0, 1] rfl rfl (fun _ => rfl) (fun r87 uu H locs hq hP hD hS => ?_)
                  subst hq
                  have hP : va_P D vwCl ([mO a (nI n) (nI k) th, [(a 1, .inl (cY 0, 72, .inl fto))], [(a 4, .inl (cY 1, 64, .inr (.inl fW)))], [(a 5, .inl (cY 1, 64, .inr (.inl fthn1_3)))]] : List va_W).flatten H := hP
                  have hD : va_D A ([mO a (nI n) (nI k) th, [(a 1, .inl (cY 0, 72, .inl fto))], [(a 4, .inl (cY 1, 64, .inr (.inl fW)))], [(a 5, .inl (cY 1, 64, .inr (.inl fthn1_3)))]] : List va_W).flatten := hD
                  have hgb := hgn (Y % 6) w hsb (by omega)
                  refine lv_istore (lv' := [(8, .int (nI (g (Y % 6) w))), (7, .int (nI (g (Y / 6) w))), (0, .ref (a 0)), (1, .int (nI f)), (2, .int (nI b)), (3, .int (nI t)), (4, .int (nI u)), (5, .int (nI Y)), (6, .int (nI w))]) hx hb dX9_apartBy_90 hl (by decide) rfl (fun ls hl => ?_)
                  refine lv_aload_n hx hb dX9_apartBy_92 rfl (lv_at hl 2 rfl) ?_
                  refine b_get (ci := 9) (v := .ref (a 4)) (C := RX9) (T := TX9) (N := 13) hx hb hts (by decide +kernel) hown hK hP 0 rfl rfl 5 (by decide) (hts (.fieldLink RX9 26 "ChanceHallModel" "now" "[J") (by decide +kernel)) (fun _ h9 => h9) rfl dX9_apartBy_93 ?_
                  refine lv_bipush (v := nI 6) hx hb dX9_apartBy_96 (by decide) ?_
                  refine lv_iload hx hb dX9_apartBy_98 (lv_at hl 1 rfl) ?_
                  refine lv_imul hx hb dX9_apartBy_100 ?_
                  refine eqi (x' := nI (6 * (g (Y / 6) w))) (pk_mul _ _) ?_
                  refine lv_iload hx hb dX9_apartBy_101 (lv_at hl 0 rfl) ?_
                  refine lv_iadd hx hb dX9_apartBy_103 ?_
                  refine eqi (x' := nI (6 * (g (Y / 6) w) + g (Y % 6) w)) (nI_add _ _) ?_
                  refine lv_dup2_11 hx hb dX9_apartBy_104 rfl rfl ?_
                  refine b_lald hx hb hK hP 2 1 rfl rfl (by omega) (by decide) dX9_apartBy_105 ?_
                  refine lv_iload hx hb dX9_apartBy_106 (lv_at hl 1 rfl) ?_
                  refine lv_iload hx hb dX9_apartBy_108 (lv_at hl 0 rfl) ?_
                  refine n_icmp_ne (tgt := 117) hx hb dX9_apartBy_110 (by decide) (by omega) (by omega) (fun h110 => ?_) (fun h110 => ?_)
                  · -- t
                    refine lv_aload_n hx hb dX9_apartBy_117 rfl (lv_at hl 2 rfl) ?_
                    refine b_get (ci := 9) (v := .ref (a 5)) (C := RX9) (T := TX9) (N := 13) hx hb hts (by decide +kernel) hown hK hP 0 rfl rfl 6 (by decide) (hts (.fieldLink RX9 30 "ChanceHallModel" "then" "[J") (by decide +kernel)) (fun _ h9 => h9) rfl dX9_apartBy_118 ?_
                    refine lv_iload hx hb dX9_apartBy_121 (lv_at hl 7 rfl) ?_
                    refine b_lald hx hb hK hP 3 1 rfl rfl (by omega) (by decide) dX9_apartBy_123 ?_
                    refine lv_ladd hx hb dX9_apartBy_124 ?_
                    refine b_last hx hb hK hP hD hS 2 1 rfl rfl (by omega) (by decide) dX9_apartBy_125 (fun H locs hP hD hS => ?_)
                    have hP : va_P D vwCl ([mO a (nI n) (nI k) th, [(a 1, .inl (cY 0, 72, .inl fto))], [(a 4, .inl (cY 1, 64, .inr (.inl (vp_updL fW (6 * (g (Y / 6) w) + g (Y % 6) w) ((fW (6 * (g (Y / 6) w) + g (Y % 6) w)) + (fthn1_3 Y))))))], [(a 5, .inl (cY 1, 64, .inr (.inl fthn1_3)))]] : List va_W).flatten H := hP
                    have hD : va_D A ([mO a (nI n) (nI k) th, [(a 1, .inl (cY 0, 72, .inl fto))], [(a 4, .inl (cY 1, 64, .inr (.inl (vp_updL fW (6 * (g (Y / 6) w) + g (Y % 6) w) ((fW (6 * (g (Y / 6) w) + g (Y % 6) w)) + (fthn1_3 Y))))))], [(a 5, .inl (cY 1, 64, .inr (.inl fthn1_3)))]] : List va_W).flatten := hD
                    refine lv_iinc (v := nI (w + 1)) (lv' := [(6, .int (nI (w + 1))), (8, .int (nI (g (Y % 6) w))), (7, .int (nI (g (Y / 6) w))), (0, .ref (a 0)), (1, .int (nI f)), (2, .int (nI b)), (3, .int (nI t)), (4, .int (nI u)), (5, .int (nI Y))]) hx hb dX9_apartBy_126 hl (k := 8) rfl (nI_1 w) (by decide) rfl (fun ls hl => ?_)
                    refine lv_goto (tgt := 45) hx hb dX9_apartBy_129 (by decide) ?_
                    exact ih45 (by omega) (vp_updL fW (6 * (g (Y / 6) w) + g (Y % 6) w) ((fW (6 * (g (Y / 6) w) + g (Y % 6) w)) + (fthn1_3 Y))) (by first | exact RP_n hM (by rw [(q29 Y (by omega)).2]; exact hI Y (by omega)) h110 (by omega) (by omega) | exact RP_e hM h110) _ _ hP hD hS _ (lv_sub hl [3, 4, 5, 6, 7, 8, 0] rfl)
                  · -- f
                    refine lv_lconst (v := lN 0) hx hb dX9_apartBy_113 (by decide) ?_
                    refine lv_goto (tgt := 124) hx hb dX9_apartBy_114 (by decide) ?_
                    refine lv_ladd hx hb dX9_apartBy_124 ?_
                    refine b_last hx hb hK hP hD hS 2 1 rfl rfl (by omega) (by decide) dX9_apartBy_125 (fun H locs hP hD hS => ?_)
                    have hP : va_P D vwCl ([mO a (nI n) (nI k) th, [(a 1, .inl (cY 0, 72, .inl fto))], [(a 4, .inl (cY 1, 64, .inr (.inl (vp_updL fW (6 * (g (Y / 6) w) + g (Y % 6) w) ((fW (6 * (g (Y / 6) w) + g (Y % 6) w)) + (lN 0))))))], [(a 5, .inl (cY 1, 64, .inr (.inl fthn1_3)))]] : List va_W).flatten H := hP
                    have hD : va_D A ([mO a (nI n) (nI k) th, [(a 1, .inl (cY 0, 72, .inl fto))], [(a 4, .inl (cY 1, 64, .inr (.inl (vp_updL fW (6 * (g (Y / 6) w) + g (Y % 6) w) ((fW (6 * (g (Y / 6) w) + g (Y % 6) w)) + (lN 0))))))], [(a 5, .inl (cY 1, 64, .inr (.inl fthn1_3)))]] : List va_W).flatten := hD
                    refine lv_iinc (v := nI (w + 1)) (lv' := [(6, .int (nI (w + 1))), (8, .int (nI (g (Y % 6) w))), (7, .int (nI (g (Y / 6) w))), (0, .ref (a 0)), (1, .int (nI f)), (2, .int (nI b)), (3, .int (nI t)), (4, .int (nI u)), (5, .int (nI Y))]) hx hb dX9_apartBy_126 hl (k := 8) rfl (nI_1 w) (by decide) rfl (fun ls hl => ?_)
                    refine lv_goto (tgt := 45) hx hb dX9_apartBy_129 (by decide) ?_
                    exact ih45 (by omega) (vp_updL fW (6 * (g (Y / 6) w) + g (Y % 6) w) ((fW (6 * (g (Y / 6) w) + g (Y % 6) w)) + (lN 0))) (by first | exact RP_n hM (by rw [(q29 Y (by omega)).2]; exact hI Y (by omega)) h110 (by omega) (by omega) | exact RP_e hM h110) _ _ hP hD hS _ (lv_sub hl [3, 4, 5, 6, 7, 8, 0] rfl)
            exact L45 0 (by omega) fM hJ _ _ hP hD hS _ (lv_sub hl [1, 2, 3, 4, 5, 6, 0] rfl)
        exact L35 0 (by omega) fnow1_2 (RI_0 (fun b hb => (q29 b (by omega)).1)) _ _ hP hD hS _ (lv_sub hl [1, 2, 3, 4, 5, 0] rfl)
    exact L22 0 (by omega) fnow1_1 fthn (by first | exact prs_n hn6 hf hb6 h3 q16 | exact prs_e h3 q16) _ _ hP hD hS _ (lv_sub hl [1, 2, 3, 4, 0] rfl)
  · -- f
    refine lv_iconst (v := (-1)) hx hb dX9_apartBy_6 (by decide) ?_
    refine lv_goto (tgt := 16) hx hb dX9_apartBy_7 (by decide) ?_
    refine ca_v (CL := [mO a (nI n) (nI k) th, [(a 4, .inl (cY 1, 64, .inr (.inl fnow)))]]) (va_runV (As := [.int (-1)]) (rest := []) ⟨hx, hb, hml, hown, hts⟩ (c_X9_begins l D cY s.heap.size a n k th fnow (-1)) (cwV 1 hts gX9_apartBy_X9_begins rfl rfl rfl (by decide +kernel) ⟨Nat.le_of_ble_eq_true rfl, Nat.le_of_ble_eq_true rfl⟩) (b_preV hVK hP hD [0, 2] rfl rfl 0 rfl rfl) rfl rfl hl.1 rfl (lv_room (Nat.le_of_ble_eq_true rfl)) dX9_apartBy_16 ⟨Nat.le_refl _, Nat.le_refl _⟩) hP hD hS hA [0, 2] rfl rfl (fun _ => rfl) (fun uu H locs hq hP hD hS => ?_)
    obtain ⟨fnow1_4, rfl⟩ : ∃ z, z = uu := ⟨_, rfl⟩
    try dsimp only at hq
    have q16 := hq
    have hP : va_P D vwCl ([mO a (nI n) (nI k) th, [(a 1, .inl (cY 0, 72, .inl fto))], [(a 4, .inl (cY 1, 64, .inr (.inl fnow1_4)))], [(a 5, .inl (cY 1, 64, .inr (.inl fthn)))]] : List va_W).flatten H := hP
    have hD : va_D A ([mO a (nI n) (nI k) th, [(a 1, .inl (cY 0, 72, .inl fto))], [(a 4, .inl (cY 1, 64, .inr (.inl fnow1_4)))], [(a 5, .inl (cY 1, 64, .inr (.inl fthn)))]] : List va_W).flatten := hD
    refine lv_iconst (v := nI 0) hx hb dX9_apartBy_19 (by decide) ?_
    refine lv_istore (lv' := [(4, .int (nI 0)), (0, .ref (a 0)), (1, .int (nI f)), (2, .int (nI b)), (3, .int (nI t))]) hx hb dX9_apartBy_20 hl (by decide) rfl (fun ls hl => ?_)
    have L22 : ∀ u : Nat, u ≤ t → ∀ (fN : Nat → Int64) (fT : Nat → Int64), (∀ X, X < 36 → fN X = lN (PL (pr g) 36 k (prs f b) u X)) → ∀ (H : Heap) (locs : List Loc), va_P D vwCl ([mO a (nI n) (nI k) th, [(a 1, .inl (cY 0, 72, .inl fto))], [(a 4, .inl (cY 1, 64, .inr (.inl fN)))], [(a 5, .inl (cY 1, 64, .inr (.inl fT)))]] : List va_W).flatten H → va_D A ([mO a (nI n) (nI k) th, [(a 1, .inl (cY 0, 72, .inl fto))], [(a 4, .inl (cY 1, 64, .inr (.inl fN)))], [(a 5, .inl (cY 1, 64, .inr (.inl fT)))]] : List va_W).flatten → va_S A s.heap H locs → ∀ (ls : Array Slot), lv_has ls 9 [(0, .ref (a 0)), (1, .int (nI f)), (2, .int (nI b)), (3, .int (nI t)), (4, .int (nI u))] → W p l e ({ frames := 1, cells := 0, slots := 0, locals := 40 }) s m ([.ref (a 0), .int (nI f), .int (nI b), .int (nI t)] : List Value).toArray below meth c H locs 0 0 (MQ below (qL (S := (Nat → Int64) × (Nat → Int64)) D cY (fun r u => r = lN (sm (PL (pr g) 36 k (prs f b) t) 36)) (fun u => [mO a (nI n) (nI k) th, [(a 1, .inl (cY 0, 72, .inl fto))], [(a 4, .inl (cY 1, 64, .inr (.inl u.1)))], [(a 5, .inl (cY 1, 64, .inr (.inl u.2)))]]) A) ([.ref (a 0), .int (nI f), .int (nI b), .int (nI t)] : List Value).toArray s 0 0 A) (F0 m 22 ls []) := by
      refine lpW t ?_
      intro u bu ih22 fN fT hI H locs hP hD hS ls hl
      refine lv_iload hx hb dX9_apartBy_22 (lv_at hl 4 rfl) ?_
      refine lv_iload_n hx hb dX9_apartBy_24 rfl (lv_at hl 3 rfl) ?_
      refine n_icmp_ge (tgt := 144) hx hb dX9_apartBy_25 (by decide) (by omega) (by omega) (fun h25 => ?_) (fun h25 => ?_)
      · -- t
        have hI2 : ∀ X, X < 36 → fN X = lN (PL (pr g) 36 k (prs f b) t X) := by (have e : u = t := by omega); subst e; exact hI
        refine lv_lconst (v := lN 0) hx hb dX9_apartBy_144 (by decide) ?_
        refine lv_lstore (lv' := [(4, .long (lN 0)), (0, .ref (a 0)), (1, .int (nI f)), (2, .int (nI b)), (3, .int (nI t))]) hx hb dX9_apartBy_145 hl (by decide) rfl (fun ls hl => ?_)
        refine lv_iconst (v := nI 0) hx hb dX9_apartBy_147 (by decide) ?_
        refine lv_istore (lv' := [(6, .int (nI 0)), (4, .long (lN 0)), (0, .ref (a 0)), (1, .int (nI f)), (2, .int (nI b)), (3, .int (nI t))]) hx hb dX9_apartBy_148 hl (by decide) rfl (fun ls hl => ?_)
        have L150 : ∀ q : Nat, q ≤ 36 →  ∀ (H : Heap) (locs : List Loc), va_P D vwCl ([mO a (nI n) (nI k) th, [(a 1, .inl (cY 0, 72, .inl fto))], [(a 4, .inl (cY 1, 64, .inr (.inl fN)))], [(a 5, .inl (cY 1, 64, .inr (.inl fT)))]] : List va_W).flatten H → va_D A ([mO a (nI n) (nI k) th, [(a 1, .inl (cY 0, 72, .inl fto))], [(a 4, .inl (cY 1, 64, .inr (.inl fN)))], [(a 5, .inl (cY 1, 64, .inr (.inl fT)))]] : List va_W).flatten → va_S A s.heap H locs → ∀ (ls : Array Slot), lv_has ls 9 [(0, .ref (a 0)), (1, .int (nI f)), (2, .int (nI b)), (3, .int (nI t)), (4, .long (lN (sm (PL (pr g) 36 k (prs f b) t) q))), (6, .int (nI q))] → W p l e ({ frames := 1, cells := 0, slots := 0, locals := 40 }) s m ([.ref (a 0), .int (nI f), .int (nI b), .int (nI t)] : List Value).toArray below meth c H locs 0 0 (MQ below (qL (S := (Nat → Int64) × (Nat → Int64)) D cY (fun r u => r = lN (sm (PL (pr g) 36 k (prs f b) t) 36)) (fun u => [mO a (nI n) (nI k) th, [(a 1, .inl (cY 0, 72, .inl fto))], [(a 4, .inl (cY 1, 64, .inr (.inl u.1)))], [(a 5, .inl (cY 1, 64, .inr (.inl u.2)))]]) A) ([.ref (a 0), .int (nI f), .int (nI b), .int (nI t)] : List Value).toArray s 0 0 A) (F0 m 150 ls []) := by
          refine lpW 36 ?_
          intro q bq ih150   H locs hP hD hS ls hl
          refine lv_iload hx hb dX9_apartBy_150 (lv_at hl 5 rfl) ?_
          refine lv_bipush (v := nI 36) hx hb dX9_apartBy_152 (by decide) ?_
          refine n_icmp_ge (tgt := 175) hx hb dX9_apartBy_154 (by decide) (by omega) (by omega) (fun h154 => ?_) (fun h154 => ?_)
          · -- t
            refine lv_lload hx hb dX9_apartBy_175 (lv_at hl 4 rfl) ?_
            exact r_l hx hb hr hlocks hP hD hS (fN, fT) rfl (by (have e : q = 36 := by omega); subst e; rfl) dX9_apartBy_177
          · -- f
            refine lv_lload hx hb dX9_apartBy_157 (lv_at hl 4 rfl) ?_
            refine lv_aload_n hx hb dX9_apartBy_159 rfl (lv_at hl 0 rfl) ?_
            refine b_get (ci := 9) (v := .ref (a 4)) (C := RX9) (T := TX9) (N := 13) hx hb hts (by decide +kernel) hown hK hP 0 rfl rfl 5 (by decide) (hts (.fieldLink RX9 26 "ChanceHallModel" "now" "[J") (by decide +kernel)) (fun _ h9 => h9) rfl dX9_apartBy_160 ?_
            refine lv_iload hx hb dX9_apartBy_163 (lv_at hl 5 rfl) ?_
            refine b_lald hx hb hK hP 2 1 rfl rfl (by omega) (by decide) dX9_apartBy_165 ?_
            refine eql (x' := lN (PL (pr g) 36 k (prs f b) t q)) (hI2 q (by omega)) ?_
            refine lv_ladd hx hb dX9_apartBy_166 ?_
            refine eql (x' := lN (sm (PL (pr g) 36 k (prs f b) t) q + PL (pr g) 36 k (prs f b) t q)) (lN_add _ _) ?_
            refine lv_lstore (lv' := [(4, .long (lN (sm (PL (pr g) 36 k (prs f b) t) q + PL (pr g) 36 k (prs f b) t q))), (0, .ref (a 0)), (1, .int (nI f)), (2, .int (nI b)), (3, .int (nI t)), (6, .int (nI q))]) hx hb dX9_apartBy_167 hl (by decide) rfl (fun ls hl => ?_)
            refine lv_iinc (v := nI (q + 1)) (lv' := [(6, .int (nI (q + 1))), (4, .long (lN (sm (PL (pr g) 36 k (prs f b) t) q + PL (pr g) 36 k (prs f b) t q))), (0, .ref (a 0)), (1, .int (nI f)), (2, .int (nI b)), (3, .int (nI t))]) hx hb dX9_apartBy_169 hl (k := 5) rfl (nI_1 q) (by decide) rfl (fun ls hl => ?_)
            refine lv_goto (tgt := 150) hx hb dX9_apartBy_172 (by decide) ?_
            exact ih150 (by omega)   _ _ hP hD hS _ (lv_sub hl [2, 3, 4, 5, 1, 0] rfl)
        exact L150 0 (by omega)   _ _ hP hD hS _ (lv_sub hl [2, 3, 4, 5, 1, 0] rfl)
      · -- f
        have hpw := pow_b (k := k) (t := u) hk12 hk1 (by omega)
        refine lv_aload_n hx hb dX9_apartBy_28 rfl (lv_at hl 0 rfl) ?_
        refine ca_v (CL := [mO a (nI n) (nI k) th, [(a 4, .inl (cY 1, 64, .inr (.inl fN)))], [(a 5, .inl (cY 1, 64, .inr (.inl fT)))]]) (va_runV (As := []) (rest := []) ⟨hx, hb, hml, hown, hts⟩ (c_X9_keeps l D cY H.size a n k th fN fT) (cwV 0 hts gX9_apartBy_X9_keeps rfl rfl rfl (by decide +kernel) ⟨Nat.le_of_ble_eq_true rfl, Nat.le_of_ble_eq_true rfl⟩) (b_preV hVK hP hD [0, 2, 3] rfl rfl 0 rfl rfl) rfl rfl hl.1 rfl (lv_room (Nat.le_of_ble_eq_true rfl)) dX9_apartBy_29 ⟨Nat.le_refl _, Nat.le_refl _⟩) hP hD hS hA [0, 2, 3] rfl rfl (fun _ => rfl) (fun uu H locs hq hP hD hS => ?_)
        obtain ⟨fnow1_5, fthn1_6⟩ := uu
        try dsimp only at hq
        have q29 := hq
        have hP : va_P D vwCl ([mO a (nI n) (nI k) th, [(a 1, .inl (cY 0, 72, .inl fto))], [(a 4, .inl (cY 1, 64, .inr (.inl fnow1_5)))], [(a 5, .inl (cY 1, 64, .inr (.inl fthn1_6)))]] : List va_W).flatten H := hP
        have hD : va_D A ([mO a (nI n) (nI k) th, [(a 1, .inl (cY 0, 72, .inl fto))], [(a 4, .inl (cY 1, 64, .inr (.inl fnow1_5)))], [(a 5, .inl (cY 1, 64, .inr (.inl fthn1_6)))]] : List va_W).flatten := hD
        refine lv_iconst (v := nI 0) hx hb dX9_apartBy_32 (by decide) ?_
        refine lv_istore (lv' := [(5, .int (nI 0)), (0, .ref (a 0)), (1, .int (nI f)), (2, .int (nI b)), (3, .int (nI t)), (4, .int (nI u))]) hx hb dX9_apartBy_33 hl (by decide) rfl (fun ls hl => ?_)
        have L35 : ∀ Y : Nat, Y ≤ 36 → ∀ (fM : Nat → Int64), (RI (PL (pr g) 36 k (prs f b) u) (pr g) k 36 Y 0 fM) → ∀ (H : Heap) (locs : List Loc), va_P D vwCl ([mO a (nI n) (nI k) th, [(a 1, .inl (cY 0, 72, .inl fto))], [(a 4, .inl (cY 1, 64, .inr (.inl fM)))], [(a 5, .inl (cY 1, 64, .inr (.inl fthn1_6)))]] : List va_W).flatten H → va_D A ([mO a (nI n) (nI k) th, [(a 1, .inl (cY 0, 72, .inl fto))], [(a 4, .inl (cY 1, 64, .inr (.inl fM)))], [(a 5, .inl (cY 1, 64, .inr (.inl fthn1_6)))]] : List va_W).flatten → va_S A s.heap H locs → ∀ (ls : Array Slot), lv_has ls 9 [(0, .ref (a 0)), (1, .int (nI f)), (2, .int (nI b)), (3, .int (nI t)), (4, .int (nI u)), (5, .int (nI Y))] → W p l e ({ frames := 1, cells := 0, slots := 0, locals := 40 }) s m ([.ref (a 0), .int (nI f), .int (nI b), .int (nI t)] : List Value).toArray below meth c H locs 0 0 (MQ below (qL (S := (Nat → Int64) × (Nat → Int64)) D cY (fun r u => r = lN (sm (PL (pr g) 36 k (prs f b) t) 36)) (fun u => [mO a (nI n) (nI k) th, [(a 1, .inl (cY 0, 72, .inl fto))], [(a 4, .inl (cY 1, 64, .inr (.inl u.1)))], [(a 5, .inl (cY 1, 64, .inr (.inl u.2)))]]) A) ([.ref (a 0), .int (nI f), .int (nI b), .int (nI t)] : List Value).toArray s 0 0 A) (F0 m 35 ls []) := by
          refine lpW 36 ?_
          intro Y bY ih35 fM hJ H locs hP hD hS ls hl
          refine lv_iload hx hb dX9_apartBy_35 (lv_at hl 5 rfl) ?_
          refine lv_bipush (v := nI 36) hx hb dX9_apartBy_37 (by decide) ?_
          refine n_icmp_ge (tgt := 138) hx hb dX9_apartBy_39 (by decide) (by omega) (by omega) (fun h39 => ?_) (fun h39 => ?_)
          · -- t
            refine lv_iinc (v := nI (u + 1)) (lv' := [(4, .int (nI (u + 1))), (0, .ref (a 0)), (1, .int (nI f)), (2, .int (nI b)), (3, .int (nI t)), (5, .int (nI Y))]) hx hb dX9_apartBy_138 hl (k := 4) rfl (nI_1 u) (by decide) rfl (fun ls hl => ?_)
            refine lv_goto (tgt := 22) hx hb dX9_apartBy_141 (by decide) ?_
            exact ih22 (by omega) fM fthn1_6 (RI_e (by (have e : Y = 36 := by omega); subst e; exact hJ)) _ _ hP hD hS _ (lv_sub hl [1, 2, 3, 4, 0] rfl)
          · -- f
            refine lv_iconst (v := nI 0) hx hb dX9_apartBy_42 (by decide) ?_
            refine lv_istore (lv' := [(6, .int (nI 0)), (0, .ref (a 0)), (1, .int (nI f)), (2, .int (nI b)), (3, .int (nI t)), (4, .int (nI u)), (5, .int (nI Y))]) hx hb dX9_apartBy_43 hl (by decide) rfl (fun ls hl => ?_)
            have L45 : ∀ w : Nat, w ≤ k → ∀ (fW : Nat → Int64), (RI (PL (pr g) 36 k (prs f b) u) (pr g) k 36 Y w fW) → ∀ (H : Heap) (locs : List Loc), va_P D vwCl ([mO a (nI n) (nI k) th, [(a 1, .inl (cY 0, 72, .inl fto))], [(a 4, .inl (cY 1, 64, .inr (.inl fW)))], [(a 5, .inl (cY 1, 64, .inr (.inl fthn1_6)))]] : List va_W).flatten H → va_D A ([mO a (nI n) (nI k) th, [(a 1, .inl (cY 0, 72, .inl fto))], [(a 4, .inl (cY 1, 64, .inr (.inl fW)))], [(a 5, .inl (cY 1, 64, .inr (.inl fthn1_6)))]] : List va_W).flatten → va_S A s.heap H locs → ∀ (ls : Array Slot), lv_has ls 9 [(0, .ref (a 0)), (1, .int (nI f)), (2, .int (nI b)), (3, .int (nI t)), (4, .int (nI u)), (5, .int (nI Y)), (6, .int (nI w))] → W p l e ({ frames := 1, cells := 0, slots := 0, locals := 40 }) s m ([.ref (a 0), .int (nI f), .int (nI b), .int (nI t)] : List Value).toArray below meth c H locs 0 0 (MQ below (qL (S := (Nat → Int64) × (Nat → Int64)) D cY (fun r u => r = lN (sm (PL (pr g) 36 k (prs f b) t) 36)) (fun u => [mO a (nI n) (nI k) th, [(a 1, .inl (cY 0, 72, .inl fto))], [(a 4, .inl (cY 1, 64, .inr (.inl u.1)))], [(a 5, .inl (cY 1, 64, .inr (.inl u.2)))]]) A) ([.ref (a 0), .int (nI f), .int (nI b), .int (nI t)] : List Value).toArray s 0 0 A) (F0 m 45 ls []) := by
              refine lpW k ?_
              intro w bw ih45 fW hM H locs hP hD hS ls hl
              refine lv_iload hx hb dX9_apartBy_45 (lv_at hl 6 rfl) ?_
              refine lv_aload_n hx hb dX9_apartBy_47 rfl (lv_at hl 0 rfl) ?_
              refine b_get (ci := 9) (v := .int (nI k)) (C := RX9) (T := TX9) (N := 13) hx hb hts (by decide +kernel) hown hK hP 0 rfl rfl 1 (by decide) (hts (.fieldLink RX9 13 "ChanceHallModel" "slots" "I") (by decide +kernel)) (fun _ h9 => h9) rfl dX9_apartBy_48 ?_
              refine n_icmp_ge (tgt := 132) hx hb dX9_apartBy_51 (by decide) (by omega) (by omega) (fun h51 => ?_) (fun h51 => ?_)
              · -- t
                refine lv_iinc (v := nI (Y + 1)) (lv' := [(5, .int (nI (Y + 1))), (0, .ref (a 0)), (1, .int (nI f)), (2, .int (nI b)), (3, .int (nI t)), (4, .int (nI u)), (6, .int (nI w))]) hx hb dX9_apartBy_132 hl (k := 5) rfl (nI_1 Y) (by decide) rfl (fun ls hl => ?_)
                refine lv_goto (tgt := 35) hx hb dX9_apartBy_135 (by decide) ?_
                exact ih35 (by omega) fW (by first | exact RI_k hM (Or.inl (by omega)) | exact RI_k hM (Or.inr hv0)) _ _ hP hD hS _ (lv_sub hl [1, 2, 3, 4, 5, 0] rfl)
              · -- f
                refine lv_aload_n hx hb dX9_apartBy_54 rfl (lv_at hl 0 rfl) ?_
                refine b_get (ci := 9) (v := .ref (a 5)) (C := RX9) (T := TX9) (N := 13) hx hb hts (by decide +kernel) hown hK hP 0 rfl rfl 6 (by decide) (hts (.fieldLink RX9 30 "ChanceHallModel" "then" "[J") (by decide +kernel)) (fun _ h9 => h9) rfl dX9_apartBy_55 ?_
                refine lv_iload hx hb dX9_apartBy_58 (lv_at hl 5 rfl) ?_
                refine b_lald hx hb hK hP 3 1 rfl rfl (by omega) (by decide) dX9_apartBy_60 ?_
                refine eql (x' := lN (PL (pr g) 36 k (prs f b) u Y)) (by rw [(q29 Y (by omega)).2]; exact hI Y (by omega)) ?_
                have hvb := PL_le' (g := pr g) (n := 36) (k := k) (f := prs f b) (t := u) (b := Y) (by omega)
                refine lv_lconst (v := lN 0) hx hb dX9_apartBy_61 (by decide) ?_
                refine W.lcmp hx hb dX9_apartBy_62 ?_
                refine l_if_le (tgt := 132) hx hb dX9_apartBy_63 (by decide) (fun h63 => ?_) (fun h63 => ?_)
                · -- t
                  have hv0 := lzer (by omega) h63
                  refine lv_iinc (v := nI (Y + 1)) (lv' := [(5, .int (nI (Y + 1))), (0, .ref (a 0)), (1, .int (nI f)), (2, .int (nI b)), (3, .int (nI t)), (4, .int (nI u)), (6, .int (nI w))]) hx hb dX9_apartBy_132 hl (k := 5) rfl (nI_1 Y) (by decide) rfl (fun ls hl => ?_)
                  refine lv_goto (tgt := 35) hx hb dX9_apartBy_135 (by decide) ?_
                  exact ih35 (by omega) fW (by first | exact RI_k hM (Or.inl (by omega)) | exact RI_k hM (Or.inr hv0)) _ _ hP hD hS _ (lv_sub hl [1, 2, 3, 4, 5, 0] rfl)
                · -- f
                  obtain ⟨hsa, hsb⟩ := pr_sup hgn hn6 (prs_ok hn6 hf hb6) u Y (by omega) (lpos h63)
                  refine lv_aload_n hx hb dX9_apartBy_66 rfl (lv_at hl 0 rfl) ?_
                  refine lv_iload hx hb dX9_apartBy_67 (lv_at hl 5 rfl) ?_
                  refine lv_bipush (v := nI 6) hx hb dX9_apartBy_69 (by decide) ?_
                  refine lv_idiv hx hb dX9_apartBy_71 (nI_ne0 (by omega) (by omega)) ?_
                  refine eqi (x' := nI (Y / 6)) (pk_div (by omega) (by omega) (by omega)) ?_
                  refine lv_iload hx hb dX9_apartBy_72 (lv_at hl 6 rfl) ?_
                  refine ca_i (CL := [mO a (nI n) (nI k) th, [(a 1, .inl (cY 0, 72, .inl fto))]]) (va_runV (As := [.int (nI (Y / 6)), .int (nI w)]) (rest := []) ⟨hx, hb, hml, hown, hts⟩ (c_X9_goes l D cY H.size a n k th fto g (Y / 6) w (by omega) (by omega) (by omega) (by omega) hG (by omega) (by omega)) (cwV 2 hts gX9_apartBy_X9_goes rfl rfl rfl (by decide +kernel) ⟨Nat.le_of_ble_eq_true rfl, Nat.le_of_ble_eq_true rfl⟩) (b_preV hVK hP hD [0, 1] rfl rfl 0 rfl rfl) rfl rfl hl.1 rfl (lv_room (Nat.le_of_ble_eq_true rfl)) dX9_apartBy_74 ⟨Nat.le_refl _, Nat.le_refl _⟩) hP hD hS hA [0, 1] rfl rfl (fun _ => rfl) (fun r74 uu H locs hq hP hD hS => ?_)
                  subst hq
                  have hP : va_P D vwCl ([mO a (nI n) (nI k) th, [(a 1, .inl (cY 0, 72, .inl fto))], [(a 4, .inl (cY 1, 64, .inr (.inl fW)))], [(a 5, .inl (cY 1, 64, .inr (.inl fthn1_6)))]] : List va_W).flatten H := hP
                  have hD : va_D A ([mO a (nI n) (nI k) th, [(a 1, .inl (cY 0, 72, .inl fto))], [(a 4, .inl (cY 1, 64, .inr (.inl fW)))], [(a 5, .inl (cY 1, 64, .inr (.inl fthn1_6)))]] : List va_W).flatten := hD
                  have hga := hgn (Y / 6) w hsa (by omega)
                  refine lv_istore (lv' := [(7, .int (nI (g (Y / 6) w))), (0, .ref (a 0)), (1, .int (nI f)), (2, .int (nI b)), (3, .int (nI t)), (4, .int (nI u)), (5, .int (nI Y)), (6, .int (nI w))]) hx hb dX9_apartBy_77 hl (by decide) rfl (fun ls hl => ?_)
                  refine lv_aload_n hx hb dX9_apartBy_79 rfl (lv_at hl 1 rfl) ?_
                  refine lv_iload hx hb dX9_apartBy_80 (lv_at hl 6 rfl) ?_
                  refine lv_bipush (v := nI 6) hx hb dX9_apartBy_82 (by decide) ?_
                  refine lv_irem hx hb dX9_apartBy_84 (nI_ne0 (by omega) (by omega)) ?_
                  refine eqi (x' := nI (Y % 6)) (pk_rem (by omega) (by omega) (by omega)) ?_
                  refine lv_iload hx hb dX9_apartBy_85 (lv_at hl 7 rfl) ?_
                  refine ca_i (CL := [mO a (nI n) (nI k) th, [(a 1, .inl (cY 0, 72, .inl fto))]]) (va_runV (As := [.int (nI (Y % 6)), .int (nI w)]) (rest := []) ⟨hx, hb, hml, hown, hts⟩ (c_X9_goes l D cY H.size a n k th fto g (Y % 6) w (by omega) (by omega) (by omega) (by omega) hG (by omega) (by omega)) (cwV 2 hts gX9_apartBy_X9_goes rfl rfl rfl (by decide +kernel) ⟨Nat.le_of_ble_eq_true rfl, Nat.le_of_ble_eq_true rfl⟩) (b_preV hVK hP hD [0, 1] rfl rfl 0 rfl rfl) rfl rfl hl.1 rfl (lv_room (Nat.le_of_ble_eq_true rfl)) dX9_apartBy_87 ⟨Nat.le_refl _, Nat.le_refl _⟩) hP hD hS hA [0, 1] rfl rfl (fun _ => rfl) (fun r87 uu H locs hq hP hD hS => ?_)
                  subst hq
                  have hP : va_P D vwCl ([mO a (nI n) (nI k) th, [(a 1, .inl (cY 0, 72, .inl fto))], [(a 4, .inl (cY 1, 64, .inr (.inl fW)))], [(a 5, .inl (cY 1, 64, .inr (.inl fthn1_6)))]] : List va_W).flatten H := hP
                  have hD : va_D A ([mO a (nI n) (nI k) th, [(a 1, .inl (cY 0, 72, .inl fto))], [(a 4, .inl (cY 1, 64, .inr (.inl fW)))], [(a 5, .inl (cY 1, 64, .inr (.inl fthn1_6)))]] : List va_W).flatten := hD
                  have hgb := hgn (Y % 6) w hsb (by omega)
                  refine lv_istore (lv' := [(8, .int (nI (g (Y % 6) w))), (7, .int (nI (g (Y / 6) w))), (0, .ref (a 0)), (1, .int (nI f)), (2, .int (nI b)), (3, .int (nI t)), (4, .int (nI u)), (5, .int (nI Y)), (6, .int (nI w))]) hx hb dX9_apartBy_90 hl (by decide) rfl (fun ls hl => ?_)
                  refine lv_aload_n hx hb dX9_apartBy_92 rfl (lv_at hl 2 rfl) ?_
                  refine b_get (ci := 9) (v := .ref (a 4)) (C := RX9) (T := TX9) (N := 13) hx hb hts (by decide +kernel) hown hK hP 0 rfl rfl 5 (by decide) (hts (.fieldLink RX9 26 "ChanceHallModel" "now" "[J") (by decide +kernel)) (fun _ h9 => h9) rfl dX9_apartBy_93 ?_
                  refine lv_bipush (v := nI 6) hx hb dX9_apartBy_96 (by decide) ?_
                  refine lv_iload hx hb dX9_apartBy_98 (lv_at hl 1 rfl) ?_
                  refine lv_imul hx hb dX9_apartBy_100 ?_
                  refine eqi (x' := nI (6 * (g (Y / 6) w))) (pk_mul _ _) ?_
                  refine lv_iload hx hb dX9_apartBy_101 (lv_at hl 0 rfl) ?_
                  refine lv_iadd hx hb dX9_apartBy_103 ?_
                  refine eqi (x' := nI (6 * (g (Y / 6) w) + g (Y % 6) w)) (nI_add _ _) ?_
                  refine lv_dup2_11 hx hb dX9_apartBy_104 rfl rfl ?_
                  refine b_lald hx hb hK hP 2 1 rfl rfl (by omega) (by decide) dX9_apartBy_105 ?_
                  refine lv_iload hx hb dX9_apartBy_106 (lv_at hl 1 rfl) ?_
                  refine lv_iload hx hb dX9_apartBy_108 (lv_at hl 0 rfl) ?_
                  refine n_icmp_ne (tgt := 117) hx hb dX9_apartBy_110 (by decide) (by omega) (by omega) (fun h110 => ?_) (fun h110 => ?_)
                  · -- t
                    refine lv_aload_n hx hb dX9_apartBy_117 rfl (lv_at hl 2 rfl) ?_
                    refine b_get (ci := 9) (v := .ref (a 5)) (C := RX9) (T := TX9) (N := 13) hx hb hts (by decide +kernel) hown hK hP 0 rfl rfl 6 (by decide) (hts (.fieldLink RX9 30 "ChanceHallModel" "then" "[J") (by decide +kernel)) (fun _ h9 => h9) rfl dX9_apartBy_118 ?_
                    refine lv_iload hx hb dX9_apartBy_121 (lv_at hl 7 rfl) ?_
                    refine b_lald hx hb hK hP 3 1 rfl rfl (by omega) (by decide) dX9_apartBy_123 ?_
                    refine lv_ladd hx hb dX9_apartBy_124 ?_
                    refine b_last hx hb hK hP hD hS 2 1 rfl rfl (by omega) (by decide) dX9_apartBy_125 (fun H locs hP hD hS => ?_)
                    have hP : va_P D vwCl ([mO a (nI n) (nI k) th, [(a 1, .inl (cY 0, 72, .inl fto))], [(a 4, .inl (cY 1, 64, .inr (.inl (vp_updL fW (6 * (g (Y / 6) w) + g (Y % 6) w) ((fW (6 * (g (Y / 6) w) + g (Y % 6) w)) + (fthn1_6 Y))))))], [(a 5, .inl (cY 1, 64, .inr (.inl fthn1_6)))]] : List va_W).flatten H := hP
                    have hD : va_D A ([mO a (nI n) (nI k) th, [(a 1, .inl (cY 0, 72, .inl fto))], [(a 4, .inl (cY 1, 64, .inr (.inl (vp_updL fW (6 * (g (Y / 6) w) + g (Y % 6) w) ((fW (6 * (g (Y / 6) w) + g (Y % 6) w)) + (fthn1_6 Y))))))], [(a 5, .inl (cY 1, 64, .inr (.inl fthn1_6)))]] : List va_W).flatten := hD
                    refine lv_iinc (v := nI (w + 1)) (lv' := [(6, .int (nI (w + 1))), (8, .int (nI (g (Y % 6) w))), (7, .int (nI (g (Y / 6) w))), (0, .ref (a 0)), (1, .int (nI f)), (2, .int (nI b)), (3, .int (nI t)), (4, .int (nI u)), (5, .int (nI Y))]) hx hb dX9_apartBy_126 hl (k := 8) rfl (nI_1 w) (by decide) rfl (fun ls hl => ?_)
                    refine lv_goto (tgt := 45) hx hb dX9_apartBy_129 (by decide) ?_
                    exact ih45 (by omega) (vp_updL fW (6 * (g (Y / 6) w) + g (Y % 6) w) ((fW (6 * (g (Y / 6) w) + g (Y % 6) w)) + (fthn1_6 Y))) (by first | exact RP_n hM (by rw [(q29 Y (by omega)).2]; exact hI Y (by omega)) h110 (by omega) (by omega) | exact RP_e hM h110) _ _ hP hD hS _ (lv_sub hl [3, 4, 5, 6, 7, 8, 0] rfl)
                  · -- f
                    refine lv_lconst (v := lN 0) hx hb dX9_apartBy_113 (by decide) ?_
                    refine lv_goto (tgt := 124) hx hb dX9_apartBy_114 (by decide) ?_
                    refine lv_ladd hx hb dX9_apartBy_124 ?_
                    refine b_last hx hb hK hP hD hS 2 1 rfl rfl (by omega) (by decide) dX9_apartBy_125 (fun H locs hP hD hS => ?_)
                    have hP : va_P D vwCl ([mO a (nI n) (nI k) th, [(a 1, .inl (cY 0, 72, .inl fto))], [(a 4, .inl (cY 1, 64, .inr (.inl (vp_updL fW (6 * (g (Y / 6) w) + g (Y % 6) w) ((fW (6 * (g (Y / 6) w) + g (Y % 6) w)) + (lN 0))))))], [(a 5, .inl (cY 1, 64, .inr (.inl fthn1_6)))]] : List va_W).flatten H := hP
                    have hD : va_D A ([mO a (nI n) (nI k) th, [(a 1, .inl (cY 0, 72, .inl fto))], [(a 4, .inl (cY 1, 64, .inr (.inl (vp_updL fW (6 * (g (Y / 6) w) + g (Y % 6) w) ((fW (6 * (g (Y / 6) w) + g (Y % 6) w)) + (lN 0))))))], [(a 5, .inl (cY 1, 64, .inr (.inl fthn1_6)))]] : List va_W).flatten := hD
                    refine lv_iinc (v := nI (w + 1)) (lv' := [(6, .int (nI (w + 1))), (8, .int (nI (g (Y % 6) w))), (7, .int (nI (g (Y / 6) w))), (0, .ref (a 0)), (1, .int (nI f)), (2, .int (nI b)), (3, .int (nI t)), (4, .int (nI u)), (5, .int (nI Y))]) hx hb dX9_apartBy_126 hl (k := 8) rfl (nI_1 w) (by decide) rfl (fun ls hl => ?_)
                    refine lv_goto (tgt := 45) hx hb dX9_apartBy_129 (by decide) ?_
                    exact ih45 (by omega) (vp_updL fW (6 * (g (Y / 6) w) + g (Y % 6) w) ((fW (6 * (g (Y / 6) w) + g (Y % 6) w)) + (lN 0))) (by first | exact RP_n hM (by rw [(q29 Y (by omega)).2]; exact hI Y (by omega)) h110 (by omega) (by omega) | exact RP_e hM h110) _ _ hP hD hS _ (lv_sub hl [3, 4, 5, 6, 7, 8, 0] rfl)
            exact L45 0 (by omega) fM hJ _ _ hP hD hS _ (lv_sub hl [1, 2, 3, 4, 5, 6, 0] rfl)
        exact L35 0 (by omega) fnow1_5 (RI_0 (fun b hb => (q29 b (by omega)).1)) _ _ hP hD hS _ (lv_sub hl [1, 2, 3, 4, 5, 0] rfl)
    exact L22 0 (by omega) fnow1_4 fthn (by first | exact prs_n hn6 hf hb6 h3 q16 | exact prs_e h3 q16) _ _ hP hD hS _ (lv_sub hl [1, 2, 3, 4, 0] rfl)

set_option maxHeartbeats 4000000 in
set_option maxRecDepth 100000 in
theorem c_X9_hitsBy (l : Launch) (D : va_G) (cY : Nat → ClassId) (sz : Nat) (a : Nat → Nat) (n : Nat) (k : Nat) (th : Int32) (fto : Nat → Int32) (fnow : Nat → Int64) (fthn : Nat → Int64) (g : Nat → Nat → Nat) (f : Nat) (t : Nat) (b : Nat) (hn1 : 1 ≤ n) (hn6 : n ≤ 6) (hk1 : 1 ≤ k) (hk12 : k ≤ 12) (hG : ∀ i j, i < n → j < k → fto (12 * i + j) = nI (g i j)) (hgn : ∀ i j, i < n → j < k → g i j < n) (hf : f < n) (ht : t ≤ 12) (hb6 : b < n) : Met l yX9_hitsBy wsX9_hitsBy ({ frames := 1, cells := 0, slots := 0, locals := 40 }) (cP D cY [.ref (a 0), .int (nI f), .int (nI t), .int (nI b)] [mO a (nI n) (nI k) th, [(a 1, .inl (cY 0, 72, .inl fto))], [(a 4, .inl (cY 1, 64, .inr (.inl fnow)))], [(a 5, .inl (cY 1, 64, .inr (.inl fthn)))]] sz) (qL (S := (Nat → Int64) × (Nat → Int64)) D cY (fun r u => r = lN (HS g n k f b t (t + 1))) (fun u => [mO a (nI n) (nI k) th, [(a 1, .inl (cY 0, 72, .inl fto))], [(a 4, .inl (cY 1, 64, .inr (.inl u.1)))], [(a 5, .inl (cY 1, 64, .inr (.inl u.2)))]]) (va_A ([mO a (nI n) (nI k) th, [(a 1, .inl (cY 0, 72, .inl fto))], [(a 4, .inl (cY 1, 64, .inr (.inl fnow)))], [(a 5, .inl (cY 1, 64, .inr (.inl fthn)))]] : List va_W).flatten sz)) 0 0 (va_A ([mO a (nI n) (nI k) th, [(a 1, .inl (cY 0, 72, .inl fto))], [(a 4, .inl (cY 1, 64, .inr (.inl fnow)))], [(a 5, .inl (cY 1, 64, .inr (.inl fthn)))]] : List va_W).flatten sz) := by
  refine mtB (Qc := fun A => qL (S := (Nat → Int64) × (Nat → Int64)) D cY (fun r u => r = lN (HS g n k f b t (t + 1))) (fun u => [mO a (nI n) (nI k) th, [(a 1, .inl (cY 0, 72, .inl fto))], [(a 4, .inl (cY 1, 64, .inr (.inl u.1)))], [(a 5, .inl (cY 1, 64, .inr (.inl u.2)))]]) A) (cc := cX9_hitsBy) (maxL := 8) (ret := (some .long)) (by decide) rfl (Nat.le_of_ble_eq_true rfl) ?_
  intro p e s m below meth c A ls hx hb hr hml hts hown hlocks hnm hsz hP hK hVK hD hS hA hl
  have hown : s.vm.findClass RX9 = some m.cls := hown
  have hl : lv_has ls 8 [(0, .ref (a 0)), (1, .int (nI f)), (2, .int (nI t)), (3, .int (nI b))] := hl
  have hP : va_P D vwCl ([mO a (nI n) (nI k) th, [(a 1, .inl (cY 0, 72, .inl fto))], [(a 4, .inl (cY 1, 64, .inr (.inl fnow)))], [(a 5, .inl (cY 1, 64, .inr (.inl fthn)))]] : List va_W).flatten s.heap := hP
  have hD : va_D A ([mO a (nI n) (nI k) th, [(a 1, .inl (cY 0, 72, .inl fto))], [(a 4, .inl (cY 1, 64, .inr (.inl fnow)))], [(a 5, .inl (cY 1, 64, .inr (.inl fthn)))]] : List va_W).flatten := hD
  have hnk : n * k ≤ 72 := Nat.mul_le_mul hn6 hk12
  refine lv_aload_n hx hb dX9_hitsBy_0 rfl (lv_at hl 0 rfl) ?_
  refine lv_iload_n hx hb dX9_hitsBy_1 rfl (lv_at hl 1 rfl) ?_
  refine ca_v (CL := [mO a (nI n) (nI k) th, [(a 4, .inl (cY 1, 64, .inr (.inl fnow)))]]) (va_runV (As := [.int (nI f)]) (rest := []) ⟨hx, hb, hml, hown, hts⟩ (c_X9_begins l D cY s.heap.size a n k th fnow (nI f)) (cwV 1 hts gX9_hitsBy_X9_begins rfl rfl rfl (by decide +kernel) ⟨Nat.le_of_ble_eq_true rfl, Nat.le_of_ble_eq_true rfl⟩) (b_preV hVK hP hD [0, 2] rfl rfl 0 rfl rfl) rfl rfl hl.1 rfl (lv_room (Nat.le_of_ble_eq_true rfl)) dX9_hitsBy_2 ⟨Nat.le_refl _, Nat.le_refl _⟩) hP hD hS hA [0, 2] rfl rfl (fun _ => rfl) (fun uu H locs hq hP hD hS => ?_)
  obtain ⟨fnow1_1, rfl⟩ : ∃ z, z = uu := ⟨_, rfl⟩
  try dsimp only at hq
  have q2 := hq
  have hP : va_P D vwCl ([mO a (nI n) (nI k) th, [(a 1, .inl (cY 0, 72, .inl fto))], [(a 4, .inl (cY 1, 64, .inr (.inl fnow1_1)))], [(a 5, .inl (cY 1, 64, .inr (.inl fthn)))]] : List va_W).flatten H := hP
  have hD : va_D A ([mO a (nI n) (nI k) th, [(a 1, .inl (cY 0, 72, .inl fto))], [(a 4, .inl (cY 1, 64, .inr (.inl fnow1_1)))], [(a 5, .inl (cY 1, 64, .inr (.inl fthn)))]] : List va_W).flatten := hD
  refine lv_lconst (v := lN 0) hx hb dX9_hitsBy_5 (by decide) ?_
  refine lv_lstore (lv' := [(4, .long (lN 0)), (0, .ref (a 0)), (1, .int (nI f)), (2, .int (nI t)), (3, .int (nI b))]) hx hb dX9_hitsBy_6 hl (by decide) rfl (fun ls hl => ?_)
  refine lv_iconst (v := nI 0) hx hb dX9_hitsBy_8 (by decide) ?_
  refine lv_istore (lv' := [(6, .int (nI 0)), (4, .long (lN 0)), (0, .ref (a 0)), (1, .int (nI f)), (2, .int (nI t)), (3, .int (nI b))]) hx hb dX9_hitsBy_9 hl (by decide) rfl (fun ls hl => ?_)
  have L11 : ∀ u : Nat, u ≤ t + 1 → ∀ (fN : Nat → Int64) (fT : Nat → Int64), (u ≤ t → ∀ d, d < n → fN d = lN (HV g n k f b u d)) → ∀ (H : Heap) (locs : List Loc), va_P D vwCl ([mO a (nI n) (nI k) th, [(a 1, .inl (cY 0, 72, .inl fto))], [(a 4, .inl (cY 1, 64, .inr (.inl fN)))], [(a 5, .inl (cY 1, 64, .inr (.inl fT)))]] : List va_W).flatten H → va_D A ([mO a (nI n) (nI k) th, [(a 1, .inl (cY 0, 72, .inl fto))], [(a 4, .inl (cY 1, 64, .inr (.inl fN)))], [(a 5, .inl (cY 1, 64, .inr (.inl fT)))]] : List va_W).flatten → va_S A s.heap H locs → ∀ (ls : Array Slot), lv_has ls 8 [(0, .ref (a 0)), (1, .int (nI f)), (2, .int (nI t)), (3, .int (nI b)), (4, .long (lN (HS g n k f b t u))), (6, .int (nI u))] → W p l e ({ frames := 1, cells := 0, slots := 0, locals := 40 }) s m ([.ref (a 0), .int (nI f), .int (nI t), .int (nI b)] : List Value).toArray below meth c H locs 0 0 (MQ below (qL (S := (Nat → Int64) × (Nat → Int64)) D cY (fun r u => r = lN (HS g n k f b t (t + 1))) (fun u => [mO a (nI n) (nI k) th, [(a 1, .inl (cY 0, 72, .inl fto))], [(a 4, .inl (cY 1, 64, .inr (.inl u.1)))], [(a 5, .inl (cY 1, 64, .inr (.inl u.2)))]]) A) ([.ref (a 0), .int (nI f), .int (nI t), .int (nI b)] : List Value).toArray s 0 0 A) (F0 m 11 ls []) := by
    refine lpW (t + 1) ?_
    intro u bu ih11 fN fT hI H locs hP hD hS ls hl
    refine lv_iload hx hb dX9_hitsBy_11 (lv_at hl 5 rfl) ?_
    refine lv_iload_n hx hb dX9_hitsBy_13 rfl (lv_at hl 2 rfl) ?_
    refine n_icmp_gt (tgt := 121) hx hb dX9_hitsBy_14 (by decide) (by omega) (by omega) (fun h14 => ?_) (fun h14 => ?_)
    · -- t
      refine lv_lload hx hb dX9_hitsBy_121 (lv_at hl 4 rfl) ?_
      exact r_l hx hb hr hlocks hP hD hS (fN, fT) rfl (by (have e : u = t + 1 := by omega); subst e; rfl) dX9_hitsBy_123
    · -- f
      refine lv_lload hx hb dX9_hitsBy_17 (lv_at hl 4 rfl) ?_
      refine lv_aload_n hx hb dX9_hitsBy_19 rfl (lv_at hl 0 rfl) ?_
      refine b_get (ci := 9) (v := .ref (a 4)) (C := RX9) (T := TX9) (N := 13) hx hb hts (by decide +kernel) hown hK hP 0 rfl rfl 5 (by decide) (hts (.fieldLink RX9 26 "ChanceHallModel" "now" "[J") (by decide +kernel)) (fun _ h9 => h9) rfl dX9_hitsBy_20 ?_
      refine lv_iload_n hx hb dX9_hitsBy_23 rfl (lv_at hl 3 rfl) ?_
      refine b_lald hx hb hK hP 2 1 rfl rfl (by omega) (by decide) dX9_hitsBy_24 ?_
      refine eql (x' := lN (HV g n k f b u b)) (hI (by omega) b hb6) ?_
      refine lv_aload_n hx hb dX9_hitsBy_25 rfl (lv_at hl 0 rfl) ?_
      refine lv_iload_n hx hb dX9_hitsBy_26 rfl (lv_at hl 2 rfl) ?_
      refine lv_iload hx hb dX9_hitsBy_27 (lv_at hl 5 rfl) ?_
      refine lv_isub hx hb dX9_hitsBy_29 ?_
      refine eqi (x' := nI (t - u)) (pk_sub (by omega)) ?_
      refine ca_l (CL := [mO a (nI n) (nI k) th]) (va_runV (As := [.int (nI (t - u))]) (rest := [.long (lN (HV g n k f b u b)), .long (lN (HS g n k f b t u))]) ⟨hx, hb, hml, hown, hts⟩ (c_X9_power l D cY H.size a n k th (t - u) (by omega) (by omega) (by omega) (by omega) (by omega)) (cwV 1 hts gX9_hitsBy_X9_power rfl rfl rfl (by decide +kernel) ⟨Nat.le_of_ble_eq_true rfl, Nat.le_of_ble_eq_true rfl⟩) (b_preV hVK hP hD [0] rfl rfl 0 rfl rfl) rfl rfl hl.1 rfl (lv_room (Nat.le_of_ble_eq_true rfl)) dX9_hitsBy_30 ⟨Nat.le_refl _, Nat.le_refl _⟩) hP hD hS hA [0] rfl rfl (fun _ => rfl) (fun r30 uu H locs hq hP hD hS => ?_)
      subst hq
      have hP : va_P D vwCl ([mO a (nI n) (nI k) th, [(a 1, .inl (cY 0, 72, .inl fto))], [(a 4, .inl (cY 1, 64, .inr (.inl fN)))], [(a 5, .inl (cY 1, 64, .inr (.inl fT)))]] : List va_W).flatten H := hP
      have hD : va_D A ([mO a (nI n) (nI k) th, [(a 1, .inl (cY 0, 72, .inl fto))], [(a 4, .inl (cY 1, 64, .inr (.inl fN)))], [(a 5, .inl (cY 1, 64, .inr (.inl fT)))]] : List va_W).flatten := hD
      refine lv_lmul hx hb dX9_hitsBy_33 ?_
      refine eql (x' := lN ((HV g n k f b u b) * (k ^ (t - u)))) (lN_mul _ _) ?_
      refine lv_ladd hx hb dX9_hitsBy_34 ?_
      refine eql (x' := lN (HS g n k f b t u + ((HV g n k f b u b) * (k ^ (t - u))))) (lN_add _ _) ?_
      refine lv_lstore (lv' := [(4, .long (lN (HS g n k f b t u + ((HV g n k f b u b) * (k ^ (t - u)))))), (0, .ref (a 0)), (1, .int (nI f)), (2, .int (nI t)), (3, .int (nI b)), (6, .int (nI u))]) hx hb dX9_hitsBy_35 hl (by decide) rfl (fun ls hl => ?_)
      refine lv_aload_n hx hb dX9_hitsBy_37 rfl (lv_at hl 1 rfl) ?_
      refine b_get (ci := 9) (v := .ref (a 4)) (C := RX9) (T := TX9) (N := 13) hx hb hts (by decide +kernel) hown hK hP 0 rfl rfl 5 (by decide) (hts (.fieldLink RX9 26 "ChanceHallModel" "now" "[J") (by decide +kernel)) (fun _ h9 => h9) rfl dX9_hitsBy_38 ?_
      refine lv_iload_n hx hb dX9_hitsBy_41 rfl (lv_at hl 4 rfl) ?_
      refine lv_lconst (v := lN 0) hx hb dX9_hitsBy_42 (by decide) ?_
      refine b_last hx hb hK hP hD hS 2 1 rfl rfl (by omega) (by decide) dX9_hitsBy_43 (fun H locs hP hD hS => ?_)
      have hP : va_P D vwCl ([mO a (nI n) (nI k) th, [(a 1, .inl (cY 0, 72, .inl fto))], [(a 4, .inl (cY 1, 64, .inr (.inl (vp_updL fN b (lN 0)))))], [(a 5, .inl (cY 1, 64, .inr (.inl fT)))]] : List va_W).flatten H := hP
      have hD : va_D A ([mO a (nI n) (nI k) th, [(a 1, .inl (cY 0, 72, .inl fto))], [(a 4, .inl (cY 1, 64, .inr (.inl (vp_updL fN b (lN 0)))))], [(a 5, .inl (cY 1, 64, .inr (.inl fT)))]] : List va_W).flatten := hD
      refine lv_iload hx hb dX9_hitsBy_44 (lv_at hl 5 rfl) ?_
      refine lv_iload_n hx hb dX9_hitsBy_46 rfl (lv_at hl 3 rfl) ?_
      refine n_icmp_ge (tgt := 115) hx hb dX9_hitsBy_47 (by decide) (by omega) (by omega) (fun h47 => ?_) (fun h47 => ?_)
      · -- t
        refine lv_iinc (v := nI (u + 1)) (lv' := [(6, .int (nI (u + 1))), (4, .long (lN (HS g n k f b t u + ((HV g n k f b u b) * (k ^ (t - u)))))), (0, .ref (a 0)), (1, .int (nI f)), (2, .int (nI t)), (3, .int (nI b))]) hx hb dX9_hitsBy_115 hl (k := 5) rfl (nI_1 u) (by decide) rfl (fun ls hl => ?_)
        refine lv_goto (tgt := 11) hx hb dX9_hitsBy_118 (by decide) ?_
        exact ih11 (by omega) (vp_updL fN b (lN 0)) fT (by first | exact (fun h => absurd h (by omega)) | exact (fun _ => HV_e (by omega) (by (have e : q = n * k := by omega); subst e; exact hJ))) _ _ hP hD hS _ (lv_sub hl [2, 3, 4, 5, 1, 0] rfl)
      · -- f
        refine lv_aload_n hx hb dX9_hitsBy_50 rfl (lv_at hl 1 rfl) ?_
        refine ca_v (CL := [mO a (nI n) (nI k) th, [(a 4, .inl (cY 1, 64, .inr (.inl (vp_updL fN b (lN 0)))))], [(a 5, .inl (cY 1, 64, .inr (.inl fT)))]]) (va_runV (As := []) (rest := []) ⟨hx, hb, hml, hown, hts⟩ (c_X9_keeps l D cY H.size a n k th (vp_updL fN b (lN 0)) fT) (cwV 0 hts gX9_hitsBy_X9_keeps rfl rfl rfl (by decide +kernel) ⟨Nat.le_of_ble_eq_true rfl, Nat.le_of_ble_eq_true rfl⟩) (b_preV hVK hP hD [0, 2, 3] rfl rfl 0 rfl rfl) rfl rfl hl.1 rfl (lv_room (Nat.le_of_ble_eq_true rfl)) dX9_hitsBy_51 ⟨Nat.le_refl _, Nat.le_refl _⟩) hP hD hS hA [0, 2, 3] rfl rfl (fun _ => rfl) (fun uu H locs hq hP hD hS => ?_)
        obtain ⟨fnow1_2, fthn1_3⟩ := uu
        try dsimp only at hq
        have q51 := hq
        have hP : va_P D vwCl ([mO a (nI n) (nI k) th, [(a 1, .inl (cY 0, 72, .inl fto))], [(a 4, .inl (cY 1, 64, .inr (.inl fnow1_2)))], [(a 5, .inl (cY 1, 64, .inr (.inl fthn1_3)))]] : List va_W).flatten H := hP
        have hD : va_D A ([mO a (nI n) (nI k) th, [(a 1, .inl (cY 0, 72, .inl fto))], [(a 4, .inl (cY 1, 64, .inr (.inl fnow1_2)))], [(a 5, .inl (cY 1, 64, .inr (.inl fthn1_3)))]] : List va_W).flatten := hD
        have hZ := hv_z (b := b) hn6 (hI (by omega)) (fun j hj => (q51 j hj).2)
        refine lv_iconst (v := nI 0) hx hb dX9_hitsBy_54 (by decide) ?_
        refine lv_istore (lv' := [(7, .int (nI 0)), (4, .long (lN (HS g n k f b t u + ((HV g n k f b u b) * (k ^ (t - u)))))), (0, .ref (a 0)), (1, .int (nI f)), (2, .int (nI t)), (3, .int (nI b)), (6, .int (nI u))]) hx hb dX9_hitsBy_55 hl (by decide) rfl (fun ls hl => ?_)
        have L57 : ∀ q : Nat, q ≤ n * k → ∀ (fM : Nat → Int64), (AI (fun d => if d = b then 0 else HV g n k f b u d) g k n q fM) → ∀ (H : Heap) (locs : List Loc), va_P D vwCl ([mO a (nI n) (nI k) th, [(a 1, .inl (cY 0, 72, .inl fto))], [(a 4, .inl (cY 1, 64, .inr (.inl fM)))], [(a 5, .inl (cY 1, 64, .inr (.inl fthn1_3)))]] : List va_W).flatten H → va_D A ([mO a (nI n) (nI k) th, [(a 1, .inl (cY 0, 72, .inl fto))], [(a 4, .inl (cY 1, 64, .inr (.inl fM)))], [(a 5, .inl (cY 1, 64, .inr (.inl fthn1_3)))]] : List va_W).flatten → va_S A s.heap H locs → ∀ (ls : Array Slot), lv_has ls 8 [(0, .ref (a 0)), (1, .int (nI f)), (2, .int (nI t)), (3, .int (nI b)), (4, .long (lN (HS g n k f b t u + ((HV g n k f b u b) * (k ^ (t - u)))))), (6, .int (nI u)), (7, .int (nI q))] → W p l e ({ frames := 1, cells := 0, slots := 0, locals := 40 }) s m ([.ref (a 0), .int (nI f), .int (nI t), .int (nI b)] : List Value).toArray below meth c H locs 0 0 (MQ below (qL (S := (Nat → Int64) × (Nat → Int64)) D cY (fun r u => r = lN (HS g n k f b t (t + 1))) (fun u => [mO a (nI n) (nI k) th, [(a 1, .inl (cY 0, 72, .inl fto))], [(a 4, .inl (cY 1, 64, .inr (.inl u.1)))], [(a 5, .inl (cY 1, 64, .inr (.inl u.2)))]]) A) ([.ref (a 0), .int (nI f), .int (nI t), .int (nI b)] : List Value).toArray s 0 0 A) (F0 m 57 ls []) := by
          refine lpW (n * k) ?_
          intro q bq ih57 fM hJ H locs hP hD hS ls hl
          refine lv_iload hx hb dX9_hitsBy_57 (lv_at hl 6 rfl) ?_
          refine lv_aload_n hx hb dX9_hitsBy_59 rfl (lv_at hl 0 rfl) ?_
          refine b_get (ci := 9) (v := .int (nI n)) (C := RX9) (T := TX9) (N := 13) hx hb hts (by decide +kernel) hown hK hP 0 rfl rfl 0 (by decide) (hts (.fieldLink RX9 7 "ChanceHallModel" "states" "I") (by decide +kernel)) (fun _ h9 => h9) rfl dX9_hitsBy_60 ?_
          refine lv_aload_n hx hb dX9_hitsBy_63 rfl (lv_at hl 0 rfl) ?_
          refine b_get (ci := 9) (v := .int (nI k)) (C := RX9) (T := TX9) (N := 13) hx hb hts (by decide +kernel) hown hK hP 0 rfl rfl 1 (by decide) (hts (.fieldLink RX9 13 "ChanceHallModel" "slots" "I") (by decide +kernel)) (fun _ h9 => h9) rfl dX9_hitsBy_64 ?_
          refine lv_imul hx hb dX9_hitsBy_67 ?_
          refine eqi (x' := nI (n * k)) (pk_mul _ _) ?_
          refine n_icmp_ge (tgt := 115) hx hb dX9_hitsBy_68 (by decide) (by omega) (by omega) (fun h68 => ?_) (fun h68 => ?_)
          · -- t
            refine lv_iinc (v := nI (u + 1)) (lv' := [(6, .int (nI (u + 1))), (0, .ref (a 0)), (1, .int (nI f)), (2, .int (nI t)), (3, .int (nI b)), (4, .long (lN (HS g n k f b t u + ((HV g n k f b u b) * (k ^ (t - u)))))), (7, .int (nI q))]) hx hb dX9_hitsBy_115 hl (k := 5) rfl (nI_1 u) (by decide) rfl (fun ls hl => ?_)
            refine lv_goto (tgt := 11) hx hb dX9_hitsBy_118 (by decide) ?_
            exact ih11 (by omega) fM fthn1_3 (by first | exact (fun h => absurd h (by omega)) | exact (fun _ => HV_e (by omega) (by (have e : q = n * k := by omega); subst e; exact hJ))) _ _ hP hD hS _ (lv_sub hl [1, 2, 3, 4, 5, 0] rfl)
          · -- f
            have hq1 : q / k < n := Nat.div_lt_of_lt_mul (by rw [Nat.mul_comm]; exact h68)
            have hq2 : q % k < k := Nat.mod_lt _ (by omega)
            have hq3 : g (q / k) (q % k) < n := hgn _ _ hq1 hq2
            refine lv_aload_n hx hb dX9_hitsBy_71 rfl (lv_at hl 0 rfl) ?_
            refine b_get (ci := 9) (v := .ref (a 4)) (C := RX9) (T := TX9) (N := 13) hx hb hts (by decide +kernel) hown hK hP 0 rfl rfl 5 (by decide) (hts (.fieldLink RX9 26 "ChanceHallModel" "now" "[J") (by decide +kernel)) (fun _ h9 => h9) rfl dX9_hitsBy_72 ?_
            refine lv_aload_n hx hb dX9_hitsBy_75 rfl (lv_at hl 0 rfl) ?_
            refine lv_iload hx hb dX9_hitsBy_76 (lv_at hl 6 rfl) ?_
            refine lv_aload_n hx hb dX9_hitsBy_78 rfl (lv_at hl 0 rfl) ?_
            refine b_get (ci := 9) (v := .int (nI k)) (C := RX9) (T := TX9) (N := 13) hx hb hts (by decide +kernel) hown hK hP 0 rfl rfl 1 (by decide) (hts (.fieldLink RX9 13 "ChanceHallModel" "slots" "I") (by decide +kernel)) (fun _ h9 => h9) rfl dX9_hitsBy_79 ?_
            refine lv_idiv hx hb dX9_hitsBy_82 (nI_ne0 (by omega) (by omega)) ?_
            refine eqi (x' := nI (q / k)) (pk_div (by omega) (by omega) (by omega)) ?_
            refine lv_iload hx hb dX9_hitsBy_83 (lv_at hl 6 rfl) ?_
            refine lv_aload_n hx hb dX9_hitsBy_85 rfl (lv_at hl 0 rfl) ?_
            refine b_get (ci := 9) (v := .int (nI k)) (C := RX9) (T := TX9) (N := 13) hx hb hts (by decide +kernel) hown hK hP 0 rfl rfl 1 (by decide) (hts (.fieldLink RX9 13 "ChanceHallModel" "slots" "I") (by decide +kernel)) (fun _ h9 => h9) rfl dX9_hitsBy_86 ?_
            refine lv_irem hx hb dX9_hitsBy_89 (nI_ne0 (by omega) (by omega)) ?_
            refine eqi (x' := nI (q % k)) (pk_rem (by omega) (by omega) (by omega)) ?_
            refine ca_i (CL := [mO a (nI n) (nI k) th, [(a 1, .inl (cY 0, 72, .inl fto))]]) (va_runV (As := [.int (nI (q / k)), .int (nI (q % k))]) (rest := [.ref (a 4)]) ⟨hx, hb, hml, hown, hts⟩ (c_X9_goes l D cY H.size a n k th fto g (q / k) (q % k) (by omega) (by omega) (by omega) (by omega) hG (by omega) (by omega)) (cwV 2 hts gX9_hitsBy_X9_goes rfl rfl rfl (by decide +kernel) ⟨Nat.le_of_ble_eq_true rfl, Nat.le_of_ble_eq_true rfl⟩) (b_preV hVK hP hD [0, 1] rfl rfl 0 rfl rfl) rfl rfl hl.1 rfl (lv_room (Nat.le_of_ble_eq_true rfl)) dX9_hitsBy_90 ⟨Nat.le_refl _, Nat.le_refl _⟩) hP hD hS hA [0, 1] rfl rfl (fun _ => rfl) (fun r90 uu H locs hq hP hD hS => ?_)
            subst hq
            have hP : va_P D vwCl ([mO a (nI n) (nI k) th, [(a 1, .inl (cY 0, 72, .inl fto))], [(a 4, .inl (cY 1, 64, .inr (.inl fM)))], [(a 5, .inl (cY 1, 64, .inr (.inl fthn1_3)))]] : List va_W).flatten H := hP
            have hD : va_D A ([mO a (nI n) (nI k) th, [(a 1, .inl (cY 0, 72, .inl fto))], [(a 4, .inl (cY 1, 64, .inr (.inl fM)))], [(a 5, .inl (cY 1, 64, .inr (.inl fthn1_3)))]] : List va_W).flatten := hD
            refine lv_dup2_11 hx hb dX9_hitsBy_93 rfl rfl ?_
            refine b_lald hx hb hK hP 2 1 rfl rfl (by omega) (by decide) dX9_hitsBy_94 ?_
            refine lv_aload_n hx hb dX9_hitsBy_95 rfl (lv_at hl 0 rfl) ?_
            refine b_get (ci := 9) (v := .ref (a 5)) (C := RX9) (T := TX9) (N := 13) hx hb hts (by decide +kernel) hown hK hP 0 rfl rfl 6 (by decide) (hts (.fieldLink RX9 30 "ChanceHallModel" "then" "[J") (by decide +kernel)) (fun _ h9 => h9) rfl dX9_hitsBy_96 ?_
            refine lv_iload hx hb dX9_hitsBy_99 (lv_at hl 6 rfl) ?_
            refine lv_aload_n hx hb dX9_hitsBy_101 rfl (lv_at hl 0 rfl) ?_
            refine b_get (ci := 9) (v := .int (nI k)) (C := RX9) (T := TX9) (N := 13) hx hb hts (by decide +kernel) hown hK hP 0 rfl rfl 1 (by decide) (hts (.fieldLink RX9 13 "ChanceHallModel" "slots" "I") (by decide +kernel)) (fun _ h9 => h9) rfl dX9_hitsBy_102 ?_
            refine lv_idiv hx hb dX9_hitsBy_105 (nI_ne0 (by omega) (by omega)) ?_
            refine eqi (x' := nI (q / k)) (pk_div (by omega) (by omega) (by omega)) ?_
            refine b_lald hx hb hK hP 3 1 rfl rfl (by omega) (by decide) dX9_hitsBy_106 ?_
            refine lv_ladd hx hb dX9_hitsBy_107 ?_
            refine b_last hx hb hK hP hD hS 2 1 rfl rfl (by omega) (by decide) dX9_hitsBy_108 (fun H locs hP hD hS => ?_)
            have hP : va_P D vwCl ([mO a (nI n) (nI k) th, [(a 1, .inl (cY 0, 72, .inl fto))], [(a 4, .inl (cY 1, 64, .inr (.inl (vp_updL fM (g (q / k) (q % k)) ((fM (g (q / k) (q % k))) + (fthn1_3 (q / k)))))))], [(a 5, .inl (cY 1, 64, .inr (.inl fthn1_3)))]] : List va_W).flatten H := hP
            have hD : va_D A ([mO a (nI n) (nI k) th, [(a 1, .inl (cY 0, 72, .inl fto))], [(a 4, .inl (cY 1, 64, .inr (.inl (vp_updL fM (g (q / k) (q % k)) ((fM (g (q / k) (q % k))) + (fthn1_3 (q / k)))))))], [(a 5, .inl (cY 1, 64, .inr (.inl fthn1_3)))]] : List va_W).flatten := hD
            refine lv_iinc (v := nI (q + 1)) (lv' := [(7, .int (nI (q + 1))), (0, .ref (a 0)), (1, .int (nI f)), (2, .int (nI t)), (3, .int (nI b)), (4, .long (lN (HS g n k f b t u + ((HV g n k f b u b) * (k ^ (t - u)))))), (6, .int (nI u))]) hx hb dX9_hitsBy_109 hl (k := 6) rfl (nI_1 q) (by decide) rfl (fun ls hl => ?_)
            refine lv_goto (tgt := 57) hx hb dX9_hitsBy_112 (by decide) ?_
            exact ih57 (by omega) (vp_updL fM (g (q / k) (q % k)) ((fM (g (q / k) (q % k))) + (fthn1_3 (q / k)))) (AI_s hJ (hZ _ hq1) hq3) _ _ hP hD hS _ (lv_sub hl [1, 2, 3, 4, 5, 6, 0] rfl)
        exact L57 0 (by omega) fnow1_2 (AI_0 (fun b hb => (q51 b (by omega)).1)) _ _ hP hD hS _ (lv_sub hl [2, 3, 4, 5, 1, 6, 0] rfl)
  exact L11 0 (by omega) fnow1_1 fthn (fun _ => hv_0 hn6 hf q2) _ _ hP hD hS _ (lv_sub hl [2, 3, 4, 5, 1, 0] rfl)

