set_option maxHeartbeats 4000000 in
set_option maxRecDepth 100000 in
theorem c_X9_share_ok (l : Launch) (D : va_G) (cY : Nat → ClassId) (sz : Nat) (a : Nat → Nat) (n : Nat) (k : Nat) (th : Int32) (fto : Nat → Int32) (fmnr : Nat → Int64) (fwts : Nat → Int64) (g : Nat → Nat → Nat) (i : Nat) (hn1 : 1 ≤ n) (hn6 : n ≤ 6) (hk1 : 1 ≤ k) (hk12 : k ≤ 12) (hG : ∀ i j, i < n → j < k → fto (12 * i + j) = nI (g i j)) (hgn : ∀ i j, i < n → j < k → g i j < n) (hi : i < n) (hw0 : ¬ WR g n k = lN 0) : Met l yX9_share wsX9_share ({ frames := 5, cells := 0, slots := 0, locals := 200 }) (cP D cY [.ref (a 0), .int (nI i)] [mO a (nI n) (nI k) th, [(a 1, .inl (cY 0, 72, .inl fto))], [(a 7, .inl (cY 1, 32, .inr (.inl fmnr)))], [(a 8, .inl (cY 1, 25, .inr (.inl fwts)))]] sz) (qF (S := (Nat → Int64) × (Nat → Int64)) D cY (fun r uu => r = FP.fdiv (FP.l2f (RV g n k i)) (FP.l2f (WR g n k))) (fun uu => [mO a (nI n) (nI k) (nI 0), [(a 1, .inl (cY 0, 72, .inl fto))], [(a 7, .inl (cY 1, 32, .inr (.inl uu.1)))], [(a 8, .inl (cY 1, 25, .inr (.inl uu.2)))]]) (va_A ([mO a (nI n) (nI k) th, [(a 1, .inl (cY 0, 72, .inl fto))], [(a 7, .inl (cY 1, 32, .inr (.inl fmnr)))], [(a 8, .inl (cY 1, 25, .inr (.inl fwts)))]] : List va_W).flatten sz)) 0 0 (va_A ([mO a (nI n) (nI k) th, [(a 1, .inl (cY 0, 72, .inl fto))], [(a 7, .inl (cY 1, 32, .inr (.inl fmnr)))], [(a 8, .inl (cY 1, 25, .inr (.inl fwts)))]] : List va_W).flatten sz) := by
  refine mtB (Qc := fun A => qF (S := (Nat → Int64) × (Nat → Int64)) D cY (fun r uu => r = FP.fdiv (FP.l2f (RV g n k i)) (FP.l2f (WR g n k))) (fun uu => [mO a (nI n) (nI k) (nI 0), [(a 1, .inl (cY 0, 72, .inl fto))], [(a 7, .inl (cY 1, 32, .inr (.inl uu.1)))], [(a 8, .inl (cY 1, 25, .inr (.inl uu.2)))]]) A) (cc := cX9_share) (maxL := 5) (ret := (some .float)) (by decide) rfl (Nat.le_of_ble_eq_true rfl) ?_
  intro p e s m below meth c A ls hx hb hr hml hts hown hlocks hnm hsz hP hK hVK hD hS hA hl
  have hown : s.vm.findClass RX9 = some m.cls := hown
  have hl : lv_has ls 5 [(0, .ref (a 0)), (1, .int (nI i))] := hl
  have hP : va_P D vwCl ([mO a (nI n) (nI k) th, [(a 1, .inl (cY 0, 72, .inl fto))], [(a 7, .inl (cY 1, 32, .inr (.inl fmnr)))], [(a 8, .inl (cY 1, 25, .inr (.inl fwts)))]] : List va_W).flatten s.heap := hP
  have hD : va_D A ([mO a (nI n) (nI k) th, [(a 1, .inl (cY 0, 72, .inl fto))], [(a 7, .inl (cY 1, 32, .inr (.inl fmnr)))], [(a 8, .inl (cY 1, 25, .inr (.inl fwts)))]] : List va_W).flatten := hD
  have hAa : inR (nI i) (nI 0) (nI (n - 1)) = true := inR_t (by omega) (by omega) (by omega)
  refine lv_aload_n hx hb dX9_share_0 rfl (lv_at hl 0 rfl) ?_
  refine lv_iload_n hx hb dX9_share_1 rfl (lv_at hl 1 rfl) ?_
  refine ca_i (CL := [mO a (nI n) (nI k) th]) (va_runV (As := [.int (nI i)]) (rest := []) ⟨hx, hb, hml, hown, hts⟩ (c_X9_isState l D cY s.heap.size a n k th (nI i) (by omega)) (cwV 1 hts gX9_share_X9_isState rfl rfl rfl (by decide +kernel) ⟨Nat.le_of_ble_eq_true rfl, Nat.le_of_ble_eq_true rfl⟩) (b_preV hVK hP hD [0] rfl rfl 0 rfl rfl) rfl rfl hl.1 rfl (lv_room (Nat.le_of_ble_eq_true rfl)) dX9_share_2 ⟨Nat.le_refl _, Nat.le_refl _⟩) hP hD hS hA [0] rfl rfl (fun _ => rfl) (fun r2 uu H locs hq hP hD hS => ?_)
  subst hq
  have hP : va_P D vwCl ([mO a (nI n) (nI k) th, [(a 1, .inl (cY 0, 72, .inl fto))], [(a 7, .inl (cY 1, 32, .inr (.inl fmnr)))], [(a 8, .inl (cY 1, 25, .inr (.inl fwts)))]] : List va_W).flatten H := hP
  have hD : va_D A ([mO a (nI n) (nI k) th, [(a 1, .inl (cY 0, 72, .inl fto))], [(a 7, .inl (cY 1, 32, .inr (.inl fmnr)))], [(a 8, .inl (cY 1, 25, .inr (.inl fwts)))]] : List va_W).flatten := hD
  refine lv_istore_n (lv' := [(2, .int (bI (inR (nI i) (nI 0) (nI (n - 1))))), (0, .ref (a 0)), (1, .int (nI i))]) hx hb dX9_share_5 rfl hl (by decide) rfl (fun ls hl => ?_)
  refine lv_iload_n hx hb dX9_share_6 rfl (lv_at hl 0 rfl) ?_
  refine b_if_eq (tgt := 17) hx hb dX9_share_7 (by decide) (fun h7 => ?_) (fun h7 => ?_)
  · -- t
    exact absurd (h7.symm.trans hAa) (by decide)
  · -- f
    refine lv_aload_n hx hb dX9_share_10 rfl (lv_at hl 1 rfl) ?_
    refine ca_l (CL := [mO a (nI n) (nI k) th, [(a 1, .inl (cY 0, 72, .inl fto))], [(a 7, .inl (cY 1, 32, .inr (.inl fmnr)))], [(a 8, .inl (cY 1, 25, .inr (.inl fwts)))]]) (va_runV (As := []) (rest := []) ⟨hx, hb, hml, hown, hts⟩ (c_X9_wholeRest l D cY H.size a n k th fto fmnr fwts g (by omega) (by omega) (by omega) (by omega) hG hgn) (cwV 0 hts gX9_share_X9_wholeRest rfl rfl rfl (by decide +kernel) ⟨Nat.le_of_ble_eq_true rfl, Nat.le_of_ble_eq_true rfl⟩) (b_preV hVK hP hD [0, 1, 2, 3] rfl rfl 0 rfl rfl) rfl rfl hl.1 rfl (lv_room (Nat.le_of_ble_eq_true rfl)) dX9_share_11 ⟨Nat.le_refl _, Nat.le_refl _⟩) hP hD hS hA [0, 1, 2, 3] rfl rfl (fun _ => rfl) (fun r11 uu H locs hq hP hD hS => ?_)
    obtain ⟨fmnr1_1, fwts1_2⟩ := uu
    try dsimp only at hq
    subst hq
    have hP : va_P D vwCl ([mO a (nI n) (nI k) th, [(a 1, .inl (cY 0, 72, .inl fto))], [(a 7, .inl (cY 1, 32, .inr (.inl fmnr1_1)))], [(a 8, .inl (cY 1, 25, .inr (.inl fwts1_2)))]] : List va_W).flatten H := hP
    have hD : va_D A ([mO a (nI n) (nI k) th, [(a 1, .inl (cY 0, 72, .inl fto))], [(a 7, .inl (cY 1, 32, .inr (.inl fmnr1_1)))], [(a 8, .inl (cY 1, 25, .inr (.inl fwts1_2)))]] : List va_W).flatten := hD
    refine lv_goto (tgt := 18) hx hb dX9_share_14 (by decide) ?_
    refine lv_lstore_n (lv' := [(3, .long (WR g n k)), (2, .int (bI (inR (nI i) (nI 0) (nI (n - 1))))), (0, .ref (a 0)), (1, .int (nI i))]) hx hb dX9_share_18 rfl hl (by decide) rfl (fun ls hl => ?_)
    refine lv_aload_n hx hb dX9_share_19 rfl (lv_at hl 2 rfl) ?_
    refine lv_iload_n hx hb dX9_share_20 rfl (lv_at hl 1 rfl) ?_
    refine b_if_ne (tgt := 28) hx hb dX9_share_21 (by decide) (fun h21 => ?_) (fun h21 => ?_)
    · -- t
      refine lv_lload_n hx hb dX9_share_28 rfl (lv_at hl 0 rfl) ?_
      refine lv_lconst (v := lN 0) hx hb dX9_share_29 (by decide) ?_
      refine W.lcmp hx hb dX9_share_30 ?_
      refine l_if_ne (tgt := 38) hx hb dX9_share_31 (by decide) (fun h31 => ?_) (fun h31 => ?_)
      · -- t
        refine lv_iconst (v := nI 0) hx hb dX9_share_38 (by decide) ?_
        refine ca_i (CL := [mO a (nI n) (nI k) th]) (va_runV (As := [.int (nI 0)]) (rest := []) ⟨hx, hb, hml, hown, hts⟩ (c_X9_can l D cY H.size a n k th 0 (by omega)) (cwV 1 hts gX9_share_X9_can rfl rfl rfl (by decide +kernel) ⟨Nat.le_of_ble_eq_true rfl, Nat.le_of_ble_eq_true rfl⟩) (b_preV hVK hP hD [0] rfl rfl 0 rfl rfl) rfl rfl hl.1 rfl (lv_room (Nat.le_of_ble_eq_true rfl)) dX9_share_39 ⟨Nat.le_refl _, Nat.le_refl _⟩) hP hD hS hA [0] rfl rfl (fun _ => rfl) (fun r39 uu H locs hq hP hD hS => ?_)
        subst hq
        have hP : va_P D vwCl ([mO a (nI n) (nI k) (nI 0), [(a 1, .inl (cY 0, 72, .inl fto))], [(a 7, .inl (cY 1, 32, .inr (.inl fmnr1_1)))], [(a 8, .inl (cY 1, 25, .inr (.inl fwts1_2)))]] : List va_W).flatten H := hP
        have hD : va_D A ([mO a (nI n) (nI k) (nI 0), [(a 1, .inl (cY 0, 72, .inl fto))], [(a 7, .inl (cY 1, 32, .inr (.inl fmnr1_1)))], [(a 8, .inl (cY 1, 25, .inr (.inl fwts1_2)))]] : List va_W).flatten := hD
        refine b_if_eq (tgt := 57) hx hb dX9_share_42 (by decide) (fun h42 => ?_) (fun h42 => ?_)
        · -- t
          exact absurd h42 (by decide)
        · -- f
          refine lv_aload_n hx hb dX9_share_45 rfl (lv_at hl 2 rfl) ?_
          refine lv_iload_n hx hb dX9_share_46 rfl (lv_at hl 3 rfl) ?_
          refine ca_l (CL := [mO a (nI n) (nI k) (nI 0), [(a 1, .inl (cY 0, 72, .inl fto))], [(a 7, .inl (cY 1, 32, .inr (.inl fmnr1_1)))], [(a 8, .inl (cY 1, 25, .inr (.inl fwts1_2)))]]) (va_runV (As := [.int (nI i)]) (rest := []) ⟨hx, hb, hml, hown, hts⟩ (c_X9_restOf l D cY H.size a n k (nI 0) fto fmnr1_1 fwts1_2 g i (by omega) (by omega) (by omega) (by omega) hG hgn (by omega)) (cwV 1 hts gX9_share_X9_restOf rfl rfl rfl (by decide +kernel) ⟨Nat.le_of_ble_eq_true rfl, Nat.le_of_ble_eq_true rfl⟩) (b_preV hVK hP hD [0, 1, 2, 3] rfl rfl 0 rfl rfl) rfl rfl hl.1 rfl (lv_room (Nat.le_of_ble_eq_true rfl)) dX9_share_47 ⟨Nat.le_refl _, Nat.le_refl _⟩) hP hD hS hA [0, 1, 2, 3] rfl rfl (fun _ => rfl) (fun r47 uu H locs hq hP hD hS => ?_)
          obtain ⟨fmnr1_3, fwts1_4⟩ := uu
          try dsimp only at hq
          subst hq
          have hP : va_P D vwCl ([mO a (nI n) (nI k) (nI 0), [(a 1, .inl (cY 0, 72, .inl fto))], [(a 7, .inl (cY 1, 32, .inr (.inl fmnr1_3)))], [(a 8, .inl (cY 1, 25, .inr (.inl fwts1_4)))]] : List va_W).flatten H := hP
          have hD : va_D A ([mO a (nI n) (nI k) (nI 0), [(a 1, .inl (cY 0, 72, .inl fto))], [(a 7, .inl (cY 1, 32, .inr (.inl fmnr1_3)))], [(a 8, .inl (cY 1, 25, .inr (.inl fwts1_4)))]] : List va_W).flatten := hD
          refine lv_l2f hx hb dX9_share_50 ?_
          refine lv_lload_n hx hb dX9_share_51 rfl (lv_at hl 0 rfl) ?_
          refine lv_l2f hx hb dX9_share_52 ?_
          refine lv_fdiv hx hb dX9_share_53 (fdiv_n hw0) ?_
          refine lv_goto (tgt := 58) hx hb dX9_share_54 (by decide) ?_
          exact r_f hx hb hr hlocks hP hD hS (fmnr1_3, fwts1_4) rfl (rfl) dX9_share_58
      · -- f
        exact absurd h31 hw0
    · -- f
      exact absurd (h21.symm.trans hAa) (by decide)

set_option maxHeartbeats 4000000 in
set_option maxRecDepth 100000 in
theorem c_X9_share_b2 (l : Launch) (D : va_G) (cY : Nat → ClassId) (sz : Nat) (a : Nat → Nat) (n : Nat) (k : Nat) (th : Int32) (fto : Nat → Int32) (fmnr : Nat → Int64) (fwts : Nat → Int64) (g : Nat → Nat → Nat) (i : Nat) (hn1 : 1 ≤ n) (hn6 : n ≤ 6) (hk1 : 1 ≤ k) (hk12 : k ≤ 12) (hG : ∀ i j, i < n → j < k → fto (12 * i + j) = nI (g i j)) (hgn : ∀ i j, i < n → j < k → g i j < n) (hi : i < n) (hbad : WR g n k = lN 0) : Met l yX9_share wsX9_share ({ frames := 5, cells := 0, slots := 0, locals := 200 }) (cP D cY [.ref (a 0), .int (nI i)] [mO a (nI n) (nI k) th, [(a 1, .inl (cY 0, 72, .inl fto))], [(a 7, .inl (cY 1, 32, .inr (.inl fmnr)))], [(a 8, .inl (cY 1, 25, .inr (.inl fwts)))]] sz) (qF (S := (Nat → Int64) × (Nat → Int64)) D cY (fun r uu => r = 0) (fun uu => [mO a (nI n) (nI k) (nI 2), [(a 1, .inl (cY 0, 72, .inl fto))], [(a 7, .inl (cY 1, 32, .inr (.inl uu.1)))], [(a 8, .inl (cY 1, 25, .inr (.inl uu.2)))]]) (va_A ([mO a (nI n) (nI k) th, [(a 1, .inl (cY 0, 72, .inl fto))], [(a 7, .inl (cY 1, 32, .inr (.inl fmnr)))], [(a 8, .inl (cY 1, 25, .inr (.inl fwts)))]] : List va_W).flatten sz)) 0 0 (va_A ([mO a (nI n) (nI k) th, [(a 1, .inl (cY 0, 72, .inl fto))], [(a 7, .inl (cY 1, 32, .inr (.inl fmnr)))], [(a 8, .inl (cY 1, 25, .inr (.inl fwts)))]] : List va_W).flatten sz) := by
  refine mtB (Qc := fun A => qF (S := (Nat → Int64) × (Nat → Int64)) D cY (fun r uu => r = 0) (fun uu => [mO a (nI n) (nI k) (nI 2), [(a 1, .inl (cY 0, 72, .inl fto))], [(a 7, .inl (cY 1, 32, .inr (.inl uu.1)))], [(a 8, .inl (cY 1, 25, .inr (.inl uu.2)))]]) A) (cc := cX9_share) (maxL := 5) (ret := (some .float)) (by decide) rfl (Nat.le_of_ble_eq_true rfl) ?_
  intro p e s m below meth c A ls hx hb hr hml hts hown hlocks hnm hsz hP hK hVK hD hS hA hl
  have hown : s.vm.findClass RX9 = some m.cls := hown
  have hl : lv_has ls 5 [(0, .ref (a 0)), (1, .int (nI i))] := hl
  have hP : va_P D vwCl ([mO a (nI n) (nI k) th, [(a 1, .inl (cY 0, 72, .inl fto))], [(a 7, .inl (cY 1, 32, .inr (.inl fmnr)))], [(a 8, .inl (cY 1, 25, .inr (.inl fwts)))]] : List va_W).flatten s.heap := hP
  have hD : va_D A ([mO a (nI n) (nI k) th, [(a 1, .inl (cY 0, 72, .inl fto))], [(a 7, .inl (cY 1, 32, .inr (.inl fmnr)))], [(a 8, .inl (cY 1, 25, .inr (.inl fwts)))]] : List va_W).flatten := hD
  have hAa : inR (nI i) (nI 0) (nI (n - 1)) = true := inR_t (by omega) (by omega) (by omega)
  refine lv_aload_n hx hb dX9_share_0 rfl (lv_at hl 0 rfl) ?_
  refine lv_iload_n hx hb dX9_share_1 rfl (lv_at hl 1 rfl) ?_
  refine ca_i (CL := [mO a (nI n) (nI k) th]) (va_runV (As := [.int (nI i)]) (rest := []) ⟨hx, hb, hml, hown, hts⟩ (c_X9_isState l D cY s.heap.size a n k th (nI i) (by omega)) (cwV 1 hts gX9_share_X9_isState rfl rfl rfl (by decide +kernel) ⟨Nat.le_of_ble_eq_true rfl, Nat.le_of_ble_eq_true rfl⟩) (b_preV hVK hP hD [0] rfl rfl 0 rfl rfl) rfl rfl hl.1 rfl (lv_room (Nat.le_of_ble_eq_true rfl)) dX9_share_2 ⟨Nat.le_refl _, Nat.le_refl _⟩) hP hD hS hA [0] rfl rfl (fun _ => rfl) (fun r2 uu H locs hq hP hD hS => ?_)
  subst hq
  have hP : va_P D vwCl ([mO a (nI n) (nI k) th, [(a 1, .inl (cY 0, 72, .inl fto))], [(a 7, .inl (cY 1, 32, .inr (.inl fmnr)))], [(a 8, .inl (cY 1, 25, .inr (.inl fwts)))]] : List va_W).flatten H := hP
  have hD : va_D A ([mO a (nI n) (nI k) th, [(a 1, .inl (cY 0, 72, .inl fto))], [(a 7, .inl (cY 1, 32, .inr (.inl fmnr)))], [(a 8, .inl (cY 1, 25, .inr (.inl fwts)))]] : List va_W).flatten := hD
  refine lv_istore_n (lv' := [(2, .int (bI (inR (nI i) (nI 0) (nI (n - 1))))), (0, .ref (a 0)), (1, .int (nI i))]) hx hb dX9_share_5 rfl hl (by decide) rfl (fun ls hl => ?_)
  refine lv_iload_n hx hb dX9_share_6 rfl (lv_at hl 0 rfl) ?_
  refine b_if_eq (tgt := 17) hx hb dX9_share_7 (by decide) (fun h7 => ?_) (fun h7 => ?_)
  · -- t
    exact absurd (h7.symm.trans hAa) (by decide)
  · -- f
    refine lv_aload_n hx hb dX9_share_10 rfl (lv_at hl 1 rfl) ?_
    refine ca_l (CL := [mO a (nI n) (nI k) th, [(a 1, .inl (cY 0, 72, .inl fto))], [(a 7, .inl (cY 1, 32, .inr (.inl fmnr)))], [(a 8, .inl (cY 1, 25, .inr (.inl fwts)))]]) (va_runV (As := []) (rest := []) ⟨hx, hb, hml, hown, hts⟩ (c_X9_wholeRest l D cY H.size a n k th fto fmnr fwts g (by omega) (by omega) (by omega) (by omega) hG hgn) (cwV 0 hts gX9_share_X9_wholeRest rfl rfl rfl (by decide +kernel) ⟨Nat.le_of_ble_eq_true rfl, Nat.le_of_ble_eq_true rfl⟩) (b_preV hVK hP hD [0, 1, 2, 3] rfl rfl 0 rfl rfl) rfl rfl hl.1 rfl (lv_room (Nat.le_of_ble_eq_true rfl)) dX9_share_11 ⟨Nat.le_refl _, Nat.le_refl _⟩) hP hD hS hA [0, 1, 2, 3] rfl rfl (fun _ => rfl) (fun r11 uu H locs hq hP hD hS => ?_)
    obtain ⟨fmnr1_1, fwts1_2⟩ := uu
    try dsimp only at hq
    subst hq
    have hP : va_P D vwCl ([mO a (nI n) (nI k) th, [(a 1, .inl (cY 0, 72, .inl fto))], [(a 7, .inl (cY 1, 32, .inr (.inl fmnr1_1)))], [(a 8, .inl (cY 1, 25, .inr (.inl fwts1_2)))]] : List va_W).flatten H := hP
    have hD : va_D A ([mO a (nI n) (nI k) th, [(a 1, .inl (cY 0, 72, .inl fto))], [(a 7, .inl (cY 1, 32, .inr (.inl fmnr1_1)))], [(a 8, .inl (cY 1, 25, .inr (.inl fwts1_2)))]] : List va_W).flatten := hD
    refine lv_goto (tgt := 18) hx hb dX9_share_14 (by decide) ?_
    refine lv_lstore_n (lv' := [(3, .long (WR g n k)), (2, .int (bI (inR (nI i) (nI 0) (nI (n - 1))))), (0, .ref (a 0)), (1, .int (nI i))]) hx hb dX9_share_18 rfl hl (by decide) rfl (fun ls hl => ?_)
    refine lv_aload_n hx hb dX9_share_19 rfl (lv_at hl 2 rfl) ?_
    refine lv_iload_n hx hb dX9_share_20 rfl (lv_at hl 1 rfl) ?_
    refine b_if_ne (tgt := 28) hx hb dX9_share_21 (by decide) (fun h21 => ?_) (fun h21 => ?_)
    · -- t
      refine lv_lload_n hx hb dX9_share_28 rfl (lv_at hl 0 rfl) ?_
      refine lv_lconst (v := lN 0) hx hb dX9_share_29 (by decide) ?_
      refine W.lcmp hx hb dX9_share_30 ?_
      refine l_if_ne (tgt := 38) hx hb dX9_share_31 (by decide) (fun h31 => ?_) (fun h31 => ?_)
      · -- t
        exact absurd hbad h31
      · -- f
        refine lv_iconst (v := nI 2) hx hb dX9_share_34 (by decide) ?_
        refine lv_goto (tgt := 39) hx hb dX9_share_35 (by decide) ?_
        refine ca_i (CL := [mO a (nI n) (nI k) th]) (va_runV (As := [.int (nI 2)]) (rest := []) ⟨hx, hb, hml, hown, hts⟩ (c_X9_can l D cY H.size a n k th 2 (by omega)) (cwV 1 hts gX9_share_X9_can rfl rfl rfl (by decide +kernel) ⟨Nat.le_of_ble_eq_true rfl, Nat.le_of_ble_eq_true rfl⟩) (b_preV hVK hP hD [0] rfl rfl 0 rfl rfl) rfl rfl hl.1 rfl (lv_room (Nat.le_of_ble_eq_true rfl)) dX9_share_39 ⟨Nat.le_refl _, Nat.le_refl _⟩) hP hD hS hA [0] rfl rfl (fun _ => rfl) (fun r39 uu H locs hq hP hD hS => ?_)
        subst hq
        have hP : va_P D vwCl ([mO a (nI n) (nI k) (nI 2), [(a 1, .inl (cY 0, 72, .inl fto))], [(a 7, .inl (cY 1, 32, .inr (.inl fmnr1_1)))], [(a 8, .inl (cY 1, 25, .inr (.inl fwts1_2)))]] : List va_W).flatten H := hP
        have hD : va_D A ([mO a (nI n) (nI k) (nI 2), [(a 1, .inl (cY 0, 72, .inl fto))], [(a 7, .inl (cY 1, 32, .inr (.inl fmnr1_1)))], [(a 8, .inl (cY 1, 25, .inr (.inl fwts1_2)))]] : List va_W).flatten := hD
        refine b_if_eq (tgt := 57) hx hb dX9_share_42 (by decide) (fun h42 => ?_) (fun h42 => ?_)
        · -- t
          refine f_c0 hx hb dX9_share_57 ?_
          exact r_f hx hb hr hlocks hP hD hS (fmnr1_1, fwts1_2) rfl (rfl) dX9_share_58
        · -- f
          exact absurd h42 (by decide)
    · -- f
      exact absurd (h21.symm.trans hAa) (by decide)

set_option maxHeartbeats 4000000 in
set_option maxRecDepth 100000 in
theorem c_X9_share_b1 (l : Launch) (D : va_G) (cY : Nat → ClassId) (sz : Nat) (a : Nat → Nat) (n : Nat) (k : Nat) (th : Int32) (x : Int32) (hn1 : 1 ≤ n) (hn6 : n ≤ 6) (hk1 : 1 ≤ k) (hk12 : k ≤ 12) (hbad : inR x (nI 0) (nI (n - 1)) = false) : Met l yX9_share wsX9_share ({ frames := 5, cells := 0, slots := 0, locals := 200 }) (cP D cY [.ref (a 0), .int x] [mO a (nI n) (nI k) th] sz) (qF (S := Unit) D cY (fun r uu => r = 0) (fun uu => [mO a (nI n) (nI k) (nI 1)]) (va_A ([mO a (nI n) (nI k) th] : List va_W).flatten sz)) 0 0 (va_A ([mO a (nI n) (nI k) th] : List va_W).flatten sz) := by
  refine mtB (Qc := fun A => qF (S := Unit) D cY (fun r uu => r = 0) (fun uu => [mO a (nI n) (nI k) (nI 1)]) A) (cc := cX9_share) (maxL := 5) (ret := (some .float)) (by decide) rfl (Nat.le_of_ble_eq_true rfl) ?_
  intro p e s m below meth c A ls hx hb hr hml hts hown hlocks hnm hsz hP hK hVK hD hS hA hl
  have hown : s.vm.findClass RX9 = some m.cls := hown
  have hl : lv_has ls 5 [(0, .ref (a 0)), (1, .int x)] := hl
  have hP : va_P D vwCl ([mO a (nI n) (nI k) th] : List va_W).flatten s.heap := hP
  have hD : va_D A ([mO a (nI n) (nI k) th] : List va_W).flatten := hD
  refine lv_aload_n hx hb dX9_share_0 rfl (lv_at hl 0 rfl) ?_
  refine lv_iload_n hx hb dX9_share_1 rfl (lv_at hl 1 rfl) ?_
  refine ca_i (CL := [mO a (nI n) (nI k) th]) (va_runV (As := [.int x]) (rest := []) ⟨hx, hb, hml, hown, hts⟩ (c_X9_isState l D cY s.heap.size a n k th x (by omega)) (cwV 1 hts gX9_share_X9_isState rfl rfl rfl (by decide +kernel) ⟨Nat.le_of_ble_eq_true rfl, Nat.le_of_ble_eq_true rfl⟩) (b_preV hVK hP hD [0] rfl rfl 0 rfl rfl) rfl rfl hl.1 rfl (lv_room (Nat.le_of_ble_eq_true rfl)) dX9_share_2 ⟨Nat.le_refl _, Nat.le_refl _⟩) hP hD hS hA [0] rfl rfl (fun _ => rfl) (fun r2 uu H locs hq hP hD hS => ?_)
  subst hq
  have hP : va_P D vwCl ([mO a (nI n) (nI k) th] : List va_W).flatten H := hP
  have hD : va_D A ([mO a (nI n) (nI k) th] : List va_W).flatten := hD
  refine lv_istore_n (lv' := [(2, .int (bI (inR x (nI 0) (nI (n - 1))))), (0, .ref (a 0)), (1, .int x)]) hx hb dX9_share_5 rfl hl (by decide) rfl (fun ls hl => ?_)
  refine lv_iload_n hx hb dX9_share_6 rfl (lv_at hl 0 rfl) ?_
  refine b_if_eq (tgt := 17) hx hb dX9_share_7 (by decide) (fun h7 => ?_) (fun h7 => ?_)
  · -- t
    refine lv_lconst (v := lN 0) hx hb dX9_share_17 (by decide) ?_
    refine lv_lstore_n (lv' := [(3, .long (lN 0)), (2, .int (bI (inR x (nI 0) (nI (n - 1))))), (0, .ref (a 0)), (1, .int x)]) hx hb dX9_share_18 rfl hl (by decide) rfl (fun ls hl => ?_)
    refine lv_aload_n hx hb dX9_share_19 rfl (lv_at hl 2 rfl) ?_
    refine lv_iload_n hx hb dX9_share_20 rfl (lv_at hl 1 rfl) ?_
    refine b_if_ne (tgt := 28) hx hb dX9_share_21 (by decide) (fun h21 => ?_) (fun h21 => ?_)
    · -- t
      exact absurd (h21.symm.trans hbad) (by decide)
    · -- f
      refine lv_iconst (v := nI 1) hx hb dX9_share_24 (by decide) ?_
      refine lv_goto (tgt := 39) hx hb dX9_share_25 (by decide) ?_
      refine ca_i (CL := [mO a (nI n) (nI k) th]) (va_runV (As := [.int (nI 1)]) (rest := []) ⟨hx, hb, hml, hown, hts⟩ (c_X9_can l D cY H.size a n k th 1 (by omega)) (cwV 1 hts gX9_share_X9_can rfl rfl rfl (by decide +kernel) ⟨Nat.le_of_ble_eq_true rfl, Nat.le_of_ble_eq_true rfl⟩) (b_preV hVK hP hD [0] rfl rfl 0 rfl rfl) rfl rfl hl.1 rfl (lv_room (Nat.le_of_ble_eq_true rfl)) dX9_share_39 ⟨Nat.le_refl _, Nat.le_refl _⟩) hP hD hS hA [0] rfl rfl (fun _ => rfl) (fun r39 uu H locs hq hP hD hS => ?_)
      subst hq
      have hP : va_P D vwCl ([mO a (nI n) (nI k) (nI 1)] : List va_W).flatten H := hP
      have hD : va_D A ([mO a (nI n) (nI k) (nI 1)] : List va_W).flatten := hD
      refine b_if_eq (tgt := 57) hx hb dX9_share_42 (by decide) (fun h42 => ?_) (fun h42 => ?_)
      · -- t
        refine f_c0 hx hb dX9_share_57 ?_
        exact r_f hx hb hr hlocks hP hD hS () rfl (rfl) dX9_share_58
      · -- f
        exact absurd h42 (by decide)
  · -- f
    exact absurd (h7.symm.trans hbad) (by decide)

set_option maxHeartbeats 4000000 in
set_option maxRecDepth 100000 in
theorem c_X8_share_ok (l : Launch) (D : va_G) (cY : Nat → ClassId) (sz : Nat) (b : Nat → Nat) (rr : Nat → Nat → Nat) (n : Nat) (k : Nat) (fW : Nat → Nat → Int32) (fRs : Nat → Int64) (fOt : Nat → Int32) (fMi : Nat → Int64) (g : Nat → Nat → Nat) (i : Nat) (hn1 : 1 ≤ n) (hn6 : n ≤ 6) (hk1 : 1 ≤ k) (hk12 : k ≤ 12) (hW : ∀ i j, i < n → j < n → fW i j = nI (cnt (g i) j k)) (hi : i < n) (hw0 : ¬ WR g n k = lN 0) : Met l yX8_share wsX8_share ({ frames := 5, cells := 0, slots := 0, locals := 200 }) (cP D cY [.ref (b 0), .int (nI i)] [hO b, cO b (nI n) (nI k), tO b, oQ (cY 2) (b 3) (rr 1) 6, gI (cY 0) (rr 1) 6 fW 6, [(b 12, .inl (cY 1, 6, .inr (.inl fRs)))], [(b 13, .inl (cY 0, 6, .inl fOt))], [(b 14, .inl (cY 1, 32, .inr (.inl fMi)))]] sz) (qF (S := (Nat → Int64) × (Nat → Int32) × (Nat → Int64)) D cY (fun r uu => r = FP.fdiv (FP.l2f (RV g n k i)) (FP.l2f (WR g n k))) (fun uu => [hO b, cO b (nI n) (nI k), tO b, oQ (cY 2) (b 3) (rr 1) 6, gI (cY 0) (rr 1) 6 fW 6, [(b 12, .inl (cY 1, 6, .inr (.inl uu.1)))], [(b 13, .inl (cY 0, 6, .inl uu.2.1))], [(b 14, .inl (cY 1, 32, .inr (.inl uu.2.2)))]]) (va_A ([hO b, cO b (nI n) (nI k), tO b, oQ (cY 2) (b 3) (rr 1) 6, gI (cY 0) (rr 1) 6 fW 6, [(b 12, .inl (cY 1, 6, .inr (.inl fRs)))], [(b 13, .inl (cY 0, 6, .inl fOt))], [(b 14, .inl (cY 1, 32, .inr (.inl fMi)))]] : List va_W).flatten sz)) 0 0 (va_A ([hO b, cO b (nI n) (nI k), tO b, oQ (cY 2) (b 3) (rr 1) 6, gI (cY 0) (rr 1) 6 fW 6, [(b 12, .inl (cY 1, 6, .inr (.inl fRs)))], [(b 13, .inl (cY 0, 6, .inl fOt))], [(b 14, .inl (cY 1, 32, .inr (.inl fMi)))]] : List va_W).flatten sz) := by
  refine mtB (Qc := fun A => qF (S := (Nat → Int64) × (Nat → Int32) × (Nat → Int64)) D cY (fun r uu => r = FP.fdiv (FP.l2f (RV g n k i)) (FP.l2f (WR g n k))) (fun uu => [hO b, cO b (nI n) (nI k), tO b, oQ (cY 2) (b 3) (rr 1) 6, gI (cY 0) (rr 1) 6 fW 6, [(b 12, .inl (cY 1, 6, .inr (.inl uu.1)))], [(b 13, .inl (cY 0, 6, .inl uu.2.1))], [(b 14, .inl (cY 1, 32, .inr (.inl uu.2.2)))]]) A) (cc := cX8_share) (maxL := 4) (ret := (some .float)) (by decide) rfl (Nat.le_of_ble_eq_true rfl) ?_
  intro p e s m below meth c A ls hx hb hr hml hts hown hlocks hnm hsz hP hK hVK hD hS hA hl
  have hown : s.vm.findClass RX8 = some m.cls := hown
  have hl : lv_has ls 4 [(0, .ref (b 0)), (1, .int (nI i))] := hl
  have hP : va_P D vwCl ([hO b, cO b (nI n) (nI k), tO b, oQ (cY 2) (b 3) (rr 1) 6, gI (cY 0) (rr 1) 6 fW 6, [(b 12, .inl (cY 1, 6, .inr (.inl fRs)))], [(b 13, .inl (cY 0, 6, .inl fOt))], [(b 14, .inl (cY 1, 32, .inr (.inl fMi)))]] : List va_W).flatten s.heap := hP
  have hD : va_D A ([hO b, cO b (nI n) (nI k), tO b, oQ (cY 2) (b 3) (rr 1) 6, gI (cY 0) (rr 1) 6 fW 6, [(b 12, .inl (cY 1, 6, .inr (.inl fRs)))], [(b 13, .inl (cY 0, 6, .inl fOt))], [(b 14, .inl (cY 1, 32, .inr (.inl fMi)))]] : List va_W).flatten := hD
  refine lv_aload_n hx hb dX8_share_0 rfl (lv_at hl 0 rfl) ?_
  refine lv_iload_n hx hb dX8_share_1 rfl (lv_at hl 1 rfl) ?_
  refine ca_v (CL := [hO b, cO b (nI n) (nI k)]) (va_runV (As := [.int (nI i)]) (rest := []) ⟨hx, hb, hml, hown, hts⟩ (c_X8_needState_ok l D cY s.heap.size b n k i (by omega) (by omega) (by omega) (by omega) (by omega)) (cwV 1 hts gX8_share_X8_needState rfl rfl rfl (by decide +kernel) ⟨Nat.le_of_ble_eq_true rfl, Nat.le_of_ble_eq_true rfl⟩) (b_preV hVK hP hD [0, 1] rfl rfl 0 rfl rfl) rfl rfl hl.1 rfl (lv_room (Nat.le_of_ble_eq_true rfl)) dX8_share_2 ⟨Nat.le_refl _, Nat.le_refl _⟩) hP hD hS hA [0, 1] rfl rfl (fun _ => rfl) (fun uu H locs hq hP hD hS => ?_)
  have hP : va_P D vwCl ([hO b, cO b (nI n) (nI k), tO b, oQ (cY 2) (b 3) (rr 1) 6, gI (cY 0) (rr 1) 6 fW 6, [(b 12, .inl (cY 1, 6, .inr (.inl fRs)))], [(b 13, .inl (cY 0, 6, .inl fOt))], [(b 14, .inl (cY 1, 32, .inr (.inl fMi)))]] : List va_W).flatten H := hP
  have hD : va_D A ([hO b, cO b (nI n) (nI k), tO b, oQ (cY 2) (b 3) (rr 1) 6, gI (cY 0) (rr 1) 6 fW 6, [(b 12, .inl (cY 1, 6, .inr (.inl fRs)))], [(b 13, .inl (cY 0, 6, .inl fOt))], [(b 14, .inl (cY 1, 32, .inr (.inl fMi)))]] : List va_W).flatten := hD
  refine lv_aload_n hx hb dX8_share_5 rfl (lv_at hl 0 rfl) ?_
  refine b_get (ci := 8) (v := .ref (b 11)) (C := RX8) (T := TX8) (N := 8) hx hb hts (by decide +kernel) hown hK hP 0 rfl rfl 4 (by decide) (hts (.fieldLink RX8 42 "ChanceHall" "trees" "LChanceHall$Trees;") (by decide +kernel)) (fun _ h9 => h9) rfl dX8_share_6 ?_
  refine ca_l (CL := [tO b, cO b (nI n) (nI k), oQ (cY 2) (b 3) (rr 1) 6, gI (cY 0) (rr 1) 6 fW 6, [(b 12, .inl (cY 1, 6, .inr (.inl fRs)))], [(b 13, .inl (cY 0, 6, .inl fOt))], [(b 14, .inl (cY 1, 32, .inr (.inl fMi)))]]) (va_runV (As := []) (rest := []) ⟨hx, hb, hml, hown, hts⟩ (c_X7_wholeRest l D cY H.size b rr n k fW fRs fOt fMi g (by omega) (by omega) (by omega) (by omega) hW) (cwV 0 hts gX8_share_X7_wholeRest rfl rfl rfl (by decide +kernel) ⟨Nat.le_of_ble_eq_true rfl, Nat.le_of_ble_eq_true rfl⟩) (b_preV hVK hP hD [2, 1, 3, 4, 5, 6, 7] rfl rfl 2 rfl rfl) rfl rfl hl.1 rfl (lv_room (Nat.le_of_ble_eq_true rfl)) dX8_share_9 ⟨Nat.le_refl _, Nat.le_refl _⟩) hP hD hS hA [2, 1, 3, 4, 5, 6, 7] rfl rfl (fun _ => rfl) (fun r9 uu H locs hq hP hD hS => ?_)
  obtain ⟨fRs1_1, fOt1_2, fMi1_3⟩ := uu
  try dsimp only at hq
  obtain ⟨rfl, q9⟩ := hq
  have hP : va_P D vwCl ([hO b, cO b (nI n) (nI k), tO b, oQ (cY 2) (b 3) (rr 1) 6, gI (cY 0) (rr 1) 6 fW 6, [(b 12, .inl (cY 1, 6, .inr (.inl fRs1_1)))], [(b 13, .inl (cY 0, 6, .inl fOt1_2))], [(b 14, .inl (cY 1, 32, .inr (.inl fMi1_3)))]] : List va_W).flatten H := hP
  have hD : va_D A ([hO b, cO b (nI n) (nI k), tO b, oQ (cY 2) (b 3) (rr 1) 6, gI (cY 0) (rr 1) 6 fW 6, [(b 12, .inl (cY 1, 6, .inr (.inl fRs1_1)))], [(b 13, .inl (cY 0, 6, .inl fOt1_2))], [(b 14, .inl (cY 1, 32, .inr (.inl fMi1_3)))]] : List va_W).flatten := hD
  refine lv_lstore_n (lv' := [(2, .long (WR g n k)), (0, .ref (b 0)), (1, .int (nI i))]) hx hb dX8_share_12 rfl hl (by decide) rfl (fun ls hl => ?_)
  refine lv_lload_n hx hb dX8_share_13 rfl (lv_at hl 0 rfl) ?_
  refine lv_lconst (v := lN 0) hx hb dX8_share_14 (by decide) ?_
  refine W.lcmp hx hb dX8_share_15 ?_
  refine l_if_ne (tgt := 29) hx hb dX8_share_16 (by decide) (fun h16 => ?_) (fun h16 => ?_)
  · -- t
    refine lv_aload_n hx hb dX8_share_29 rfl (lv_at hl 1 rfl) ?_
    refine b_get (ci := 8) (v := .ref (b 11)) (C := RX8) (T := TX8) (N := 8) hx hb hts (by decide +kernel) hown hK hP 0 rfl rfl 4 (by decide) (hts (.fieldLink RX8 42 "ChanceHall" "trees" "LChanceHall$Trees;") (by decide +kernel)) (fun _ h9 => h9) rfl dX8_share_30 ?_
    refine lv_iload_n hx hb dX8_share_33 rfl (lv_at hl 2 rfl) ?_
    refine ca_l (CL := [tO b, cO b (nI n) (nI k), oQ (cY 2) (b 3) (rr 1) 6, gI (cY 0) (rr 1) 6 fW 6, [(b 13, .inl (cY 0, 6, .inl fOt1_2))], [(b 14, .inl (cY 1, 32, .inr (.inl fMi1_3)))]]) (va_runV (As := [.int (nI i)]) (rest := []) ⟨hx, hb, hml, hown, hts⟩ (c_X7_restOf l D cY H.size b rr n k fW fOt1_2 fMi1_3 g i (by omega) (by omega) (by omega) (by omega) hW (by omega)) (cwV 1 hts gX8_share_X7_restOf rfl rfl rfl (by decide +kernel) ⟨Nat.le_of_ble_eq_true rfl, Nat.le_of_ble_eq_true rfl⟩) (b_preV hVK hP hD [2, 1, 3, 4, 6, 7] rfl rfl 2 rfl rfl) rfl rfl hl.1 rfl (lv_room (Nat.le_of_ble_eq_true rfl)) dX8_share_34 ⟨Nat.le_refl _, Nat.le_refl _⟩) hP hD hS hA [2, 1, 3, 4, 6, 7] rfl rfl (fun _ => rfl) (fun r34 uu H locs hq hP hD hS => ?_)
    obtain ⟨fOt1_4, fMi1_5⟩ := uu
    try dsimp only at hq
    subst hq
    have hP : va_P D vwCl ([hO b, cO b (nI n) (nI k), tO b, oQ (cY 2) (b 3) (rr 1) 6, gI (cY 0) (rr 1) 6 fW 6, [(b 12, .inl (cY 1, 6, .inr (.inl fRs1_1)))], [(b 13, .inl (cY 0, 6, .inl fOt1_4))], [(b 14, .inl (cY 1, 32, .inr (.inl fMi1_5)))]] : List va_W).flatten H := hP
    have hD : va_D A ([hO b, cO b (nI n) (nI k), tO b, oQ (cY 2) (b 3) (rr 1) 6, gI (cY 0) (rr 1) 6 fW 6, [(b 12, .inl (cY 1, 6, .inr (.inl fRs1_1)))], [(b 13, .inl (cY 0, 6, .inl fOt1_4))], [(b 14, .inl (cY 1, 32, .inr (.inl fMi1_5)))]] : List va_W).flatten := hD
    refine lv_l2f hx hb dX8_share_37 ?_
    refine lv_lload_n hx hb dX8_share_38 rfl (lv_at hl 0 rfl) ?_
    refine lv_l2f hx hb dX8_share_39 ?_
    refine lv_fdiv hx hb dX8_share_40 (fdiv_n hw0) ?_
    exact r_f hx hb hr hlocks hP hD hS (fRs1_1, fOt1_4, fMi1_5) rfl (rfl) dX8_share_41
  · -- f
    exact absurd h16 hw0

set_option maxHeartbeats 4000000 in
set_option maxRecDepth 100000 in
theorem c_L_share_ok (l : Launch) (D : va_G) (cY : Nat → ClassId) (sz : Nat) (b : Nat → Nat) (rr : Nat → Nat → Nat) (n : Nat) (k : Nat) (fW : Nat → Nat → Int32) (fRs : Nat → Int64) (fOt : Nat → Int32) (fMi : Nat → Int64) (g : Nat → Nat → Nat) (i : Nat) (oo : Nat) (fO : Nat → UInt64) (hn1 : 1 ≤ n) (hn6 : n ≤ 6) (hk1 : 1 ≤ k) (hk12 : k ≤ 12) (hW : ∀ i j, i < n → j < n → fW i j = nI (cnt (g i) j k)) (hi : i < n) (hw0 : ¬ WR g n k = lN 0) : vx_Met l yL_share wsL_share ({ frames := 6, cells := 0, slots := 0, locals := 240 }) (cPH D cY [.ref (b 0), .int (nI i), .ref oo] [hO b, cO b (nI n) (nI k), tO b, oQ (cY 2) (b 3) (rr 1) 6, gI (cY 0) (rr 1) 6 fW 6, [(b 12, .inl (cY 1, 6, .inr (.inl fRs)))], [(b 13, .inl (cY 0, 6, .inl fOt))], [(b 14, .inl (cY 1, 32, .inr (.inl fMi)))], [(oo, .inl (cY 4, 1, .inr (.inr (.inr (.inl fO)))))]] sz) (qI (S := (Nat → Int64) × (Nat → Int32) × (Nat → Int64)) D cY (fun r uu => r = nI 0) (fun uu => [hO b, cO b (nI n) (nI k), tO b, oQ (cY 2) (b 3) (rr 1) 6, gI (cY 0) (rr 1) 6 fW 6, [(b 12, .inl (cY 1, 6, .inr (.inl uu.1)))], [(b 13, .inl (cY 0, 6, .inl uu.2.1))], [(b 14, .inl (cY 1, 32, .inr (.inl uu.2.2)))], [(oo, .inl (cY 4, 1, .inr (.inr (.inr (.inl (vf_upd fO 0 (FP.f2d (FP.fdiv (FP.l2f (RV g n k i)) (FP.l2f (WR g n k))))))))))]]) (va_A ([hO b, cO b (nI n) (nI k), tO b, oQ (cY 2) (b 3) (rr 1) 6, gI (cY 0) (rr 1) 6 fW 6, [(b 12, .inl (cY 1, 6, .inr (.inl fRs)))], [(b 13, .inl (cY 0, 6, .inl fOt))], [(b 14, .inl (cY 1, 32, .inr (.inl fMi)))], [(oo, .inl (cY 4, 1, .inr (.inr (.inr (.inl fO)))))]] : List va_W).flatten sz)) (q0 (va_A ([hO b, cO b (nI n) (nI k), tO b, oQ (cY 2) (b 3) (rr 1) 6, gI (cY 0) (rr 1) 6 fW 6, [(b 12, .inl (cY 1, 6, .inr (.inl fRs)))], [(b 13, .inl (cY 0, 6, .inl fOt))], [(b 14, .inl (cY 1, 32, .inr (.inl fMi)))], [(oo, .inl (cY 4, 1, .inr (.inr (.inr (.inl fO)))))]] : List va_W).flatten sz)) 0 0 (va_A ([hO b, cO b (nI n) (nI k), tO b, oQ (cY 2) (b 3) (rr 1) 6, gI (cY 0) (rr 1) 6 fW 6, [(b 12, .inl (cY 1, 6, .inr (.inl fRs)))], [(b 13, .inl (cY 0, 6, .inl fOt))], [(b 14, .inl (cY 1, 32, .inr (.inl fMi)))], [(oo, .inl (cY 4, 1, .inr (.inr (.inr (.inl fO)))))]] : List va_W).flatten sz) := by
  refine mtH (Qc := fun A => qI (S := (Nat → Int64) × (Nat → Int32) × (Nat → Int64)) D cY (fun r uu => r = nI 0) (fun uu => [hO b, cO b (nI n) (nI k), tO b, oQ (cY 2) (b 3) (rr 1) 6, gI (cY 0) (rr 1) 6 fW 6, [(b 12, .inl (cY 1, 6, .inr (.inl uu.1)))], [(b 13, .inl (cY 0, 6, .inl uu.2.1))], [(b 14, .inl (cY 1, 32, .inr (.inl uu.2.2)))], [(oo, .inl (cY 4, 1, .inr (.inr (.inr (.inl (vf_upd fO 0 (FP.f2d (FP.fdiv (FP.l2f (RV g n k i)) (FP.l2f (WR g n k))))))))))]]) A) (cc := cL_share) (maxL := 4) (ret := (some .int)) (by decide) rfl (Nat.le_of_ble_eq_true rfl) ?_
  intro p e s m below meth c A ls hx hb hr hml hts hown hlocks hsz hP hK hVK hD hS hA hX hH htb hl
  have hown : s.vm.findClass RL = some m.cls := hown
  have hl : lv_has ls 4 [(0, .ref (b 0)), (1, .int (nI i)), (2, .ref oo)] := hl
  have hP : va_P D vwCl ([hO b, cO b (nI n) (nI k), tO b, oQ (cY 2) (b 3) (rr 1) 6, gI (cY 0) (rr 1) 6 fW 6, [(b 12, .inl (cY 1, 6, .inr (.inl fRs)))], [(b 13, .inl (cY 0, 6, .inl fOt))], [(b 14, .inl (cY 1, 32, .inr (.inl fMi)))], [(oo, .inl (cY 4, 1, .inr (.inr (.inr (.inl fO)))))]] : List va_W).flatten s.heap := hP
  have hD : va_D A ([hO b, cO b (nI n) (nI k), tO b, oQ (cY 2) (b 3) (rr 1) 6, gI (cY 0) (rr 1) 6 fW 6, [(b 12, .inl (cY 1, 6, .inr (.inl fRs)))], [(b 13, .inl (cY 0, 6, .inl fOt))], [(b 14, .inl (cY 1, 32, .inr (.inl fMi)))], [(oo, .inl (cY 4, 1, .inr (.inr (.inr (.inl fO)))))]] : List va_W).flatten := hD
  refine lv_aload_n hx hb dL_share_0 rfl (lv_at hl 2 rfl) ?_
  refine lv_iconst (v := nI 0) hx hb dL_share_1 (by decide) ?_
  refine lv_aload_n hx hb dL_share_2 rfl (lv_at hl 0 rfl) ?_
  refine lv_iload_n hx hb dL_share_3 rfl (lv_at hl 1 rfl) ?_
  refine ca_f (CL := [hO b, cO b (nI n) (nI k), tO b, oQ (cY 2) (b 3) (rr 1) 6, gI (cY 0) (rr 1) 6 fW 6, [(b 12, .inl (cY 1, 6, .inr (.inl fRs)))], [(b 13, .inl (cY 0, 6, .inl fOt))], [(b 14, .inl (cY 1, 32, .inr (.inl fMi)))]]) (va_runV (As := [.int (nI i)]) (rest := [.int (nI 0), .ref oo]) ⟨hx, hb, hml, hown, hts⟩ (c_X8_share_ok l D cY s.heap.size b rr n k fW fRs fOt fMi g i hn1 hn6 hk1 hk12 hW hi hw0) (cwV 1 hts gL_share_X8_share rfl rfl rfl (by decide +kernel) ⟨Nat.le_of_ble_eq_true rfl, Nat.le_of_ble_eq_true rfl⟩) (b_preV hVK hP hD [0, 1, 2, 3, 4, 5, 6, 7] rfl rfl 0 rfl rfl) rfl rfl hl.1 rfl (lv_room (Nat.le_of_ble_eq_true rfl)) dL_share_4 ⟨Nat.zero_le _, Nat.zero_le _⟩) hP hD hS hA [0, 1, 2, 3, 4, 5, 6, 7] rfl rfl (fun _ => rfl) (fun r4 uu H locs hq hP hD hS => ?_)
  obtain ⟨fRs1_1, fOt1_2, fMi1_3⟩ := uu
  try dsimp only at hq
  subst hq
  have hP : va_P D vwCl ([hO b, cO b (nI n) (nI k), tO b, oQ (cY 2) (b 3) (rr 1) 6, gI (cY 0) (rr 1) 6 fW 6, [(b 12, .inl (cY 1, 6, .inr (.inl fRs1_1)))], [(b 13, .inl (cY 0, 6, .inl fOt1_2))], [(b 14, .inl (cY 1, 32, .inr (.inl fMi1_3)))], [(oo, .inl (cY 4, 1, .inr (.inr (.inr (.inl fO)))))]] : List va_W).flatten H := hP
  have hD : va_D A ([hO b, cO b (nI n) (nI k), tO b, oQ (cY 2) (b 3) (rr 1) 6, gI (cY 0) (rr 1) 6 fW 6, [(b 12, .inl (cY 1, 6, .inr (.inl fRs1_1)))], [(b 13, .inl (cY 0, 6, .inl fOt1_2))], [(b 14, .inl (cY 1, 32, .inr (.inl fMi1_3)))], [(oo, .inl (cY 4, 1, .inr (.inr (.inr (.inl fO)))))]] : List va_W).flatten := hD
  refine lv_f2d hx hb dL_share_7 (f2d_n (fdiv_v hw0)) ?_
  refine b_dast hx hb hK hP hD hS 8 4 rfl rfl (by omega) (by omega) dL_share_8 (fun H locs hP hD hS => ?_)
  have hP : va_P D vwCl ([hO b, cO b (nI n) (nI k), tO b, oQ (cY 2) (b 3) (rr 1) 6, gI (cY 0) (rr 1) 6 fW 6, [(b 12, .inl (cY 1, 6, .inr (.inl fRs1_1)))], [(b 13, .inl (cY 0, 6, .inl fOt1_2))], [(b 14, .inl (cY 1, 32, .inr (.inl fMi1_3)))], [(oo, .inl (cY 4, 1, .inr (.inr (.inr (.inl (vf_upd fO 0 (FP.f2d (FP.fdiv (FP.l2f (RV g n k i)) (FP.l2f (WR g n k))))))))))]] : List va_W).flatten H := hP
  have hD : va_D A ([hO b, cO b (nI n) (nI k), tO b, oQ (cY 2) (b 3) (rr 1) 6, gI (cY 0) (rr 1) 6 fW 6, [(b 12, .inl (cY 1, 6, .inr (.inl fRs1_1)))], [(b 13, .inl (cY 0, 6, .inl fOt1_2))], [(b 14, .inl (cY 1, 32, .inr (.inl fMi1_3)))], [(oo, .inl (cY 4, 1, .inr (.inr (.inr (.inl (vf_upd fO 0 (FP.f2d (FP.fdiv (FP.l2f (RV g n k i)) (FP.l2f (WR g n k))))))))))]] : List va_W).flatten := hD
  refine lv_goto (tgt := 18) hx hb dL_share_9 (by decide) ?_
  refine lv_iconst (v := nI 0) hx hb dL_share_18 (by decide) ?_
  exact r_i hx hb hr hlocks hP hD hS (fRs1_1, fOt1_2, fMi1_3) rfl (rfl) dL_share_19

