set_option maxHeartbeats 4000000 in
set_option maxRecDepth 100000 in
theorem c_X8_share_ok (l : Launch) (D : va_G) (cY : Nat → ClassId) (sz : Nat) (b : Nat → Nat) (rr : Nat → Nat → Nat) (n : Nat) (k : Nat) (fW : Nat → Nat → Int32) (fRs : Nat → Int64) (fOt : Nat → Int32) (fMi : Nat → Int64) (g : Nat → Nat → Nat) (i : Nat) (hn1 : 1 ≤ n) (hn6 : n ≤ 6) (hk1 : 1 ≤ k) (hk12 : k ≤ 12) (hW : ∀ i j, i < n → j < n → fW i j = nI (cnt (g i) j k)) (hi : i < n) (hw0 : ¬ WR g n k = lN 0) : Met l yX8_share wsX8_share ({ frames := 5, cells := 0, slots := 0, locals := 200 }) (cP D cY [.ref (b 0), .int (nI i)] [hO b, cO b (nI n) (nI k), tO b, oQ (cY 2) (b 3) (rr 1) 6, gI (cY 0) (rr 1) 6 fW 6, [(b 12, .inl (cY 1, 6, .inr (.inl fRs)))], [(b 13, .inl (cY 0, 6, .inl fOt))], [(b 14, .inl (cY 1, 32, .inr (.inl fMi)))]] sz) (qF (S := (Nat → Int64) × (Nat → Int32) × (Nat → Int64)) D cY (fun r uu => r = FP.fdiv (FP.l2f (RV g n k i)) (FP.l2f (WR g n k))) (fun uu => [hO b, cO b (nI n) (nI k), tO b, oQ (cY 2) (b 3) (rr 1) 6, gI (cY 0) (rr 1) 6 fW 6, [(b 12, .inl (cY 1, 6, .inr (.inl uu.1)))], [(b 13, .inl (cY 0, 6, .inl uu.2.1))], [(b 14, .inl (cY 1, 32, .inr (.inl uu.2.2)))]]) (va_A ([hO b, cO b (nI n) (nI k), tO b, oQ (cY 2) (b 3) (rr 1) 6, gI (cY 0) (rr 1) 6 fW 6, [(b 12, .inl (cY 1, 6, .inr (.inl fRs)))], [(b 13, .inl (cY 0, 6, .inl fOt))], [(b 14, .inl (cY 1, 32, .inr (.inl fMi)))]] : List va_W).flatten sz)) 0 0 (va_A ([hO b, cO b (nI n) (nI k), tO b, oQ (cY 2) (b 3) (rr 1) 6, gI (cY 0) (rr 1) 6 fW 6, [(b 12, .inl (cY 1, 6, .inr (.inl fRs)))], [(b 13, .inl (cY 0, 6, .inl fOt))], [(b 14, .inl (cY 1, 32, .inr (.inl fMi)))]] : List va_W).flatten sz) := by
  refine mtB (Qc := fun A => qF (S := (Nat → Int64) × (Nat → Int32) × (Nat → Int64)) D cY (fun r uu => r = FP.fdiv (FP.l2f (RV g n k i)) (FP.l2f (WR g n k))) (fun uu => [hO b, cO b (nI n) (nI k), tO b, oQ (cY 2) (b 3) (rr 1) 6, gI (cY 0) (rr 1) 6 fW 6, [(b 12, .inl (cY 1, 6, .inr (.inl uu.1)))], [(b 13, .inl (cY 0, 6, .inl uu.2.1))], [(b 14, .inl (cY 1, 32, .inr (.inl uu.2.2)))]]) A) (cc := cX8_share) (maxL := 4) (ret := (some .float)) (by decide) rfl (Nat.le_of_ble_eq_true rfl) ?_
  intro p e s m below meth c A ls hx hb hr hml hts hown hlocks hnm hsz hP hK hVK hD hS hA hl
  have hown : s.vm.findClass RX8 = some m.cls := hown
  have hl : lv_has ls 4 [(0, .ref (b 0)), (1, .int (nI i))] := hl
  have hP : va_P D vwCl ([hO b, cO b (nI n) (nI k), tO b, oQ (cY 2) (b 3) (rr 1) 6, gI (cY 0) (rr 1) 6 fW 6, [(b 12, .inl (cY 1, 6, .inr (.inl fRs)))], [(b 13, .inl (cY 0, 6, .inl fOt))], [(b 14, .inl (cY 1, 32, .inr (.inl fMi)))]] : List va_W).flatten s.heap := hP
  have hD : va_D A ([hO b, cO b (nI n) (nI k), tO b, oQ (cY 2) (b 3) (rr 1) 6, gI (cY 0) (rr 1) 6 fW 6, [(b 12, .inl (cY 1, 6, .inr (.inl fRs)))], [(b 13, .inl (cY 0, 6, .inl fOt))], [(b 14, .inl (cY 1, 32, .inr (.inl fMi)))]] : List va_W).flatten := hD
  refine lv_aload_n hx hb dX8_share_0 rfl (lv_at hl 0 rfl) ?_
  refine lv_iload_n hx hb dX8_share_1 rfl (lv_at hl 1 rfl) ?_
  refine ca_v (CL := [hO b, cO b (nI n) (nI k)]) (va_runV (As := [.int (nI i)]) (rest := []) ⟨hx, hb, hml, hown, hts⟩ (c_X8_needState_ok l D cY s.heap.size b n k i (by omega) (by omega) (by omega) (by omega) (by omega)) (cwV 1 hts gX8_share_X8_needState rfl rfl rfl (by decide +kernel) ⟨Nat.le_of_ble_eq_true rfl, Nat.le_of_ble_eq_true rfl⟩) (b_preV hVK hP hD [0, 1] rfl rfl 0 rfl rfl) rfl rfl hl.1 rfl (lv_room (Nat.le_of_ble_eq_true rfl)) dX8_share_2 ⟨Nat.le_refl _, Nat.le_refl _⟩) hP hD hS hA [0, 1] rfl rfl (fun _ => rfl) (fun uu H locs hq hP hD hS => ?_)
  have hP : va_P D vwCl ([hO b, cO b (nI n) (nI k), tO b, oQ (cY 2) (b 3) (rr 1) 6, gI (cY 0) (rr 1) 6 fW 6, [(b 12, .inl (cY 1, 6, .inr (.inl fRs)))], [(b 13, .inl (cY 0, 6, .inl fOt))], [(b 14, .inl (cY 1, 32, .inr (.inl fMi)))]] : List va_W).flatten H := hP
  have hD : va_D A ([hO b, cO b (nI n) (nI k), tO b, oQ (cY 2) (b 3) (rr 1) 6, gI (cY 0) (rr 1) 6 fW 6, [(b 12, .inl (cY 1, 6, .inr (.inl fRs)))], [(b 13, .inl (cY 0, 6, .inl fOt))], [(b 14, .inl (cY 1, 32, .inr (.inl fMi)))]] : List va_W).flatten := hD
  refine lv_aload_n hx hb dX8_share_5 rfl (lv_at hl 0 rfl) ?_
  refine b_get (ci := 8) (v := .ref (b 11)) (C := RX8) (T := TX8) (N := 8) hx hb hts (by decide +kernel) hown hK hP 0 rfl rfl 4 (by decide) (hts (.fieldLink RX8 42 "ChanceHall" "trees" "LChanceHall$Trees;") (by decide +kernel)) (fun _ h9 => h9) rfl dX8_share_6 ?_
  refine ca_l (CL := [tO b, cO b (nI n) (nI k), oQ (cY 2) (b 3) (rr 1) 6, gI (cY 0) (rr 1) 6 fW 6, [(b 12, .inl (cY 1, 6, .inr (.inl fRs)))], [(b 13, .inl (cY 0, 6, .inl fOt))], [(b 14, .inl (cY 1, 32, .inr (.inl fMi)))]]) (va_runV (As := []) (rest := []) ⟨hx, hb, hml, hown, hts⟩ (c_X7_wholeRest l D cY H.size b rr n k fW fRs fOt fMi g (by omega) (by omega) (by omega) (by omega) hW) (cwV 0 hts gX8_share_X7_wholeRest rfl rfl rfl (by decide +kernel) ⟨Nat.le_of_ble_eq_true rfl, Nat.le_of_ble_eq_true rfl⟩) (b_preV hVK hP hD [2, 1, 3, 4, 5, 6, 7] rfl rfl 2 rfl rfl) rfl rfl hl.1 rfl (lv_room (Nat.le_of_ble_eq_true rfl)) dX8_share_9 ⟨Nat.le_refl _, Nat.le_refl _⟩) hP hD hS hA [2, 1, 3, 4, 5, 6, 7] rfl rfl (fun _ => rfl) (fun r9 uu H locs hq hP hD hS => ?_)
  obtain ⟨fRs1_1, fOt1_2, fMi1_3⟩ := uu
  try dsimp only at hq
  obtain ⟨rfl, q9⟩ := hq
  have hP : va_P D vwCl ([hO b, cO b (nI n) (nI k), tO b, oQ (cY 2) (b 3) (rr 1) 6, gI (cY 0) (rr 1) 6 fW 6, [(b 12, .inl (cY 1, 6, .inr (.inl fRs1_1)))], [(b 13, .inl (cY 0, 6, .inl fOt1_2))], [(b 14, .inl (cY 1, 32, .inr (.inl fMi1_3)))]] : List va_W).flatten H := hP
  have hD : va_D A ([hO b, cO b (nI n) (nI k), tO b, oQ (cY 2) (b 3) (rr 1) 6, gI (cY 0) (rr 1) 6 fW 6, [(b 12, .inl (cY 1, 6, .inr (.inl fRs1_1)))], [(b 13, .inl (cY 0, 6, .inl fOt1_2))], [(b 14, .inl (cY 1, 32, .inr (.inl fMi1_3)))]] : List va_W).flatten := hD
  refine lv_lstore_n (lv' := [(2, .long (WR g n k)), (0, .ref (b 0)), (1, .int (nI i))]) hx hb dX8_share_12 rfl hl (by decide) rfl (fun ls hl => ?_)
  refine lv_lload_n hx hb dX8_share_13 rfl (lv_at hl 0 rfl) ?_
  refine lv_lconst (v := lN 0) hx hb dX8_share_14 (by decide) ?_
  refine W.lcmp hx hb dX8_share_15 ?_
  refine l_if_ne (tgt := 29) hx hb dX8_share_16 (by decide) (fun h16 => ?_) (fun h16 => ?_)
  · -- t
    refine lv_aload_n hx hb dX8_share_29 rfl (lv_at hl 1 rfl) ?_
    refine b_get (ci := 8) (v := .ref (b 11)) (C := RX8) (T := TX8) (N := 8) hx hb hts (by decide +kernel) hown hK hP 0 rfl rfl 4 (by decide) (hts (.fieldLink RX8 42 "ChanceHall" "trees" "LChanceHall$Trees;") (by decide +kernel)) (fun _ h9 => h9) rfl dX8_share_30 ?_
    refine lv_iload_n hx hb dX8_share_33 rfl (lv_at hl 2 rfl) ?_
    refine ca_l (CL := [tO b, cO b (nI n) (nI k), oQ (cY 2) (b 3) (rr 1) 6, gI (cY 0) (rr 1) 6 fW 6, [(b 13, .inl (cY 0, 6, .inl fOt1_2))], [(b 14, .inl (cY 1, 32, .inr (.inl fMi1_3)))]]) (va_runV (As := [.int (nI i)]) (rest := []) ⟨hx, hb, hml, hown, hts⟩ (c_X7_restOf l D cY H.size b rr n k fW fOt1_2 fMi1_3 g i (by omega) (by omega) (by omega) (by omega) hW (by omega)) (cwV 1 hts gX8_share_X7_restOf rfl rfl rfl (by decide +kernel) ⟨Nat.le_of_ble_eq_true rfl, Nat.le_of_ble_eq_true rfl⟩) (b_preV hVK hP hD [2, 1, 3, 4, 6, 7] rfl rfl 2 rfl rfl) rfl rfl hl.1 rfl (lv_room (Nat.le_of_ble_eq_true rfl)) dX8_share_34 ⟨Nat.le_refl _, Nat.le_refl _⟩) hP hD hS hA [2, 1, 3, 4, 6, 7] rfl rfl (fun _ => rfl) (fun r34 uu H locs hq hP hD hS => ?_)
    obtain ⟨fOt1_4, fMi1_5⟩ := uu
    try dsimp only at hq
    subst hq
    have hP : va_P D vwCl ([hO b, cO b (nI n) (nI k), tO b, oQ (cY 2) (b 3) (rr 1) 6, gI (cY 0) (rr 1) 6 fW 6, [(b 12, .inl (cY 1, 6, .inr (.inl fRs1_1)))], [(b 13, .inl (cY 0, 6, .inl fOt1_4))], [(b 14, .inl (cY 1, 32, .inr (.inl fMi1_5)))]] : List va_W).flatten H := hP
    have hD : va_D A ([hO b, cO b (nI n) (nI k), tO b, oQ (cY 2) (b 3) (rr 1) 6, gI (cY 0) (rr 1) 6 fW 6, [(b 12, .inl (cY 1, 6, .inr (.inl fRs1_1)))], [(b 13, .inl (cY 0, 6, .inl fOt1_4))], [(b 14, .inl (cY 1, 32, .inr (.inl fMi1_5)))]] : List va_W).flatten := hD
    refine lv_l2f hx hb dX8_share_37 ?_
    refine lv_lload_n hx hb dX8_share_38 rfl (lv_at hl 0 rfl) ?_
    refine lv_l2f hx hb dX8_share_39 ?_
    refine lv_fdiv hx hb dX8_share_40 (fdiv_n hw0) ?_
    exact r_f hx hb hr hlocks hP hD hS (fRs1_1, fOt1_4, fMi1_5) rfl (rfl) dX8_share_41
  · -- f
    exact absurd h16 hw0
