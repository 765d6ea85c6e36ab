set_option maxHeartbeats 4000000 in
set_option maxRecDepth 100000 in
theorem c_X9_bits (l : Launch) (D : va_G) (cY : Nat → ClassId) (sz : Nat) (X : Nat) (hX : X < 64) : Met l yX9_bits wsX9_bits ({ frames := 0, cells := 0, slots := 0, locals := 0 }) (cP D cY [.int (nI X)] [] sz) (qI (S := Unit) D cY (fun r u => r = nI (bitsN X 6)) (fun u => []) (va_A ([] : List va_W).flatten sz)) 0 0 (va_A ([] : List va_W).flatten sz) := by
  refine mtB (Qc := fun A => qI (S := Unit) D cY (fun r u => r = nI (bitsN X 6)) (fun u => []) A) (cc := cX9_bits) (maxL := 3) (ret := (some .int)) (by decide) rfl (Nat.le_of_ble_eq_true rfl) ?_
  intro p e s m below meth c A ls hx hb hr hml hts hown hlocks hnm hsz hP hK hVK hD hS hA hl
  have hown : s.vm.findClass RX9 = some m.cls := hown
  have hl : lv_has ls 3 [(0, .int (nI X))] := hl
  have hP : va_P D vwCl ([] : List va_W).flatten s.heap := hP
  have hD : va_D A ([] : List va_W).flatten := hD
  refine lv_iconst (v := nI 0) hx hb dX9_bits_0 (by decide) ?_
  refine lv_istore_n (lv' := [(1, .int (nI 0)), (0, .int (nI X))]) hx hb dX9_bits_1 rfl hl (by decide) rfl (fun ls hl => ?_)
  refine lv_iconst (v := nI 0) hx hb dX9_bits_2 (by decide) ?_
  refine lv_istore_n (lv' := [(2, .int (nI 0)), (1, .int (nI 0)), (0, .int (nI X))]) hx hb dX9_bits_3 rfl hl (by decide) rfl (fun ls hl => ?_)
  have L4 : ∀ q : Nat, q ≤ 6 →  ∀ (H : Heap) (locs : List Loc), va_P D vwCl ([] : List va_W).flatten H → va_D A ([] : List va_W).flatten → va_S A s.heap H locs → ∀ (ls : Array Slot), lv_has ls 3 [(0, .int (nI X)), (1, .int (nI (bitsN X q))), (2, .int (nI q))] → W p l e ({ frames := 0, cells := 0, slots := 0, locals := 0 }) s m ([.int (nI X)] : List Value).toArray below meth c H locs 0 0 (MQ below (qI (S := Unit) D cY (fun r u => r = nI (bitsN X 6)) (fun u => []) A) ([.int (nI X)] : List Value).toArray s 0 0 A) (F0 m 4 ls []) := by
    refine lpW 6 ?_
    intro q bdq ih4   H locs hP hD hS ls hl
    refine lv_iload_n hx hb dX9_bits_4 rfl (lv_at hl 2 rfl) ?_
    refine lv_bipush (v := nI 6) hx hb dX9_bits_5 (by decide) ?_
    refine n_icmp_ge (tgt := 24) hx hb dX9_bits_7 (by decide) (by omega) (by omega) (fun h7 => ?_) (fun h7 => ?_)
    · -- t
      refine lv_iload_n hx hb dX9_bits_24 rfl (lv_at hl 1 rfl) ?_
      exact r_i hx hb hr hlocks hP hD hS () rfl (by (have e : q = 6 := by omega); subst e; rfl) dX9_bits_25
    · -- f
      refine lv_iload_n hx hb dX9_bits_10 rfl (lv_at hl 1 rfl) ?_
      refine lv_iload_n hx hb dX9_bits_11 rfl (lv_at hl 0 rfl) ?_
      refine lv_iload_n hx hb dX9_bits_12 rfl (lv_at hl 2 rfl) ?_
      refine lv_ishr hx hb dX9_bits_13 ?_
      refine eqi (x' := nI (X / 2 ^ q)) (nI_shr (by omega) (by omega)) ?_
      have hxd : X / 2 ^ q ≤ X := Nat.div_le_self _ _
      refine lv_iconst (v := nI 1) hx hb dX9_bits_14 (by decide) ?_
      refine lv_iand hx hb dX9_bits_15 ?_
      refine eqi (x' := nI ((X / 2 ^ q) &&& 1)) (nI_and _ _) ?_
      refine eqi (x' := nI (X / 2 ^ q % 2)) (congrArg nI (Nat.and_one_is_mod _)) ?_
      refine lv_iadd hx hb dX9_bits_16 ?_
      refine eqi (x' := nI (bitsN X q + X / 2 ^ q % 2)) (nI_add _ _) ?_
      refine lv_istore_n (lv' := [(1, .int (nI (bitsN X q + X / 2 ^ q % 2))), (0, .int (nI X)), (2, .int (nI q))]) hx hb dX9_bits_17 rfl hl (by decide) rfl (fun ls hl => ?_)
      refine lv_iinc (v := nI (q + 1)) (lv' := [(2, .int (nI (q + 1))), (1, .int (nI (bitsN X q + X / 2 ^ q % 2))), (0, .int (nI X))]) hx hb dX9_bits_18 hl (k := 2) rfl (nI_1 q) (by decide) rfl (fun ls hl => ?_)
      refine lv_goto (tgt := 4) hx hb dX9_bits_21 (by decide) ?_
      exact ih4 (by omega)   _ _ hP hD hS _ (lv_sub hl [2, 1, 0] rfl)
  exact L4 0 (by omega)   _ _ hP hD hS _ (lv_sub hl [2, 1, 0] rfl)

set_option maxHeartbeats 4000000 in
set_option maxRecDepth 100000 in
theorem c_X9_laysWeights (l : Launch) (D : va_G) (cY : Nat → ClassId) (sz : Nat) (a : Nat → Nat) (n : Nat) (k : Nat) (th : Int32) (fto : Nat → Int32) (fwts : Nat → Int64) (g : Nat → Nat → Nat) (r0 : Nat) (hn1 : 1 ≤ n) (hn6 : n ≤ 6) (hk1 : 1 ≤ k) (hk12 : k ≤ 12) (hG : ∀ i j, i < n → j < k → fto (12 * i + j) = nI (g i j)) (hgn : ∀ i j, i < n → j < k → g i j < n) (hr0 : r0 < n) : Met l yX9_laysWeights wsX9_laysWeights ({ frames := 2, cells := 0, slots := 0, locals := 80 }) (cP D cY [.ref (a 0), .int (nI r0)] [mO a (nI n) (nI k) th, [(a 1, .inl (cY 0, 72, .inl fto))], [(a 8, .inl (cY 1, 25, .inr (.inl fwts)))]] sz) (qV (S := (Nat → Int64)) D cY (fun u => ∀ r x, r < n - 1 → x < n - 1 → u (5 * r + x) = EN g k r0 r x) (fun u => [mO a (nI n) (nI k) th, [(a 1, .inl (cY 0, 72, .inl fto))], [(a 8, .inl (cY 1, 25, .inr (.inl u)))]]) (va_A ([mO a (nI n) (nI k) th, [(a 1, .inl (cY 0, 72, .inl fto))], [(a 8, .inl (cY 1, 25, .inr (.inl fwts)))]] : List va_W).flatten sz)) 0 0 (va_A ([mO a (nI n) (nI k) th, [(a 1, .inl (cY 0, 72, .inl fto))], [(a 8, .inl (cY 1, 25, .inr (.inl fwts)))]] : List va_W).flatten sz) := by
  refine mtB (Qc := fun A => qV (S := (Nat → Int64)) D cY (fun u => ∀ r x, r < n - 1 → x < n - 1 → u (5 * r + x) = EN g k r0 r x) (fun u => [mO a (nI n) (nI k) th, [(a 1, .inl (cY 0, 72, .inl fto))], [(a 8, .inl (cY 1, 25, .inr (.inl u)))]]) A) (cc := cX9_laysWeights) (maxL := 6) (ret := none) (by decide) rfl (Nat.le_of_ble_eq_true rfl) ?_
  intro p e s m below meth c A ls hx hb hr hml hts hown hlocks hnm hsz hP hK hVK hD hS hA hl
  have hown : s.vm.findClass RX9 = some m.cls := hown
  have hl : lv_has ls 6 [(0, .ref (a 0)), (1, .int (nI r0))] := hl
  have hP : va_P D vwCl ([mO a (nI n) (nI k) th, [(a 1, .inl (cY 0, 72, .inl fto))], [(a 8, .inl (cY 1, 25, .inr (.inl fwts)))]] : List va_W).flatten s.heap := hP
  have hD : va_D A ([mO a (nI n) (nI k) th, [(a 1, .inl (cY 0, 72, .inl fto))], [(a 8, .inl (cY 1, 25, .inr (.inl fwts)))]] : List va_W).flatten := hD
  have hMM : (n - 1) * (n - 1) ≤ 25 := Nat.mul_le_mul (show n - 1 ≤ 5 by omega) (show n - 1 ≤ 5 by omega)
  refine lv_aload_n hx hb dX9_laysWeights_0 rfl (lv_at hl 0 rfl) ?_
  refine b_get (ci := 9) (v := .int (nI n)) (C := RX9) (T := TX9) (N := 13) hx hb hts (by decide +kernel) hown hK hP 0 rfl rfl 0 (by decide) (hts (.fieldLink RX9 7 "ChanceHallModel" "states" "I") (by decide +kernel)) (fun _ h9 => h9) rfl dX9_laysWeights_1 ?_
  refine lv_iconst (v := nI 1) hx hb dX9_laysWeights_4 (by decide) ?_
  refine lv_isub hx hb dX9_laysWeights_5 ?_
  refine eqi (x' := nI (n - 1)) (pk_sub (by omega)) ?_
  refine lv_istore_n (lv' := [(2, .int (nI (n - 1))), (0, .ref (a 0)), (1, .int (nI r0))]) hx hb dX9_laysWeights_6 rfl hl (by decide) rfl (fun ls hl => ?_)
  refine lv_iconst (v := nI 0) hx hb dX9_laysWeights_7 (by decide) ?_
  refine lv_istore_n (lv' := [(3, .int (nI 0)), (2, .int (nI (n - 1))), (0, .ref (a 0)), (1, .int (nI r0))]) hx hb dX9_laysWeights_8 rfl hl (by decide) rfl (fun ls hl => ?_)
  have L9 : ∀ q : Nat, q ≤ (n - 1) * (n - 1) → ∀ (fW : Nat → Int64), (WI g k r0 (n - 1) q fW) → ∀ (H : Heap) (locs : List Loc), va_P D vwCl ([mO a (nI n) (nI k) th, [(a 1, .inl (cY 0, 72, .inl fto))], [(a 8, .inl (cY 1, 25, .inr (.inl fW)))]] : List va_W).flatten H → va_D A ([mO a (nI n) (nI k) th, [(a 1, .inl (cY 0, 72, .inl fto))], [(a 8, .inl (cY 1, 25, .inr (.inl fW)))]] : List va_W).flatten → va_S A s.heap H locs → ∀ (ls : Array Slot), lv_has ls 6 [(0, .ref (a 0)), (1, .int (nI r0)), (2, .int (nI (n - 1))), (3, .int (nI q))] → W p l e ({ frames := 2, cells := 0, slots := 0, locals := 80 }) s m ([.ref (a 0), .int (nI r0)] : List Value).toArray below meth c H locs 0 0 (MQ below (qV (S := (Nat → Int64)) D cY (fun u => ∀ r x, r < n - 1 → x < n - 1 → u (5 * r + x) = EN g k r0 r x) (fun u => [mO a (nI n) (nI k) th, [(a 1, .inl (cY 0, 72, .inl fto))], [(a 8, .inl (cY 1, 25, .inr (.inl u)))]]) A) ([.ref (a 0), .int (nI r0)] : List Value).toArray s 0 0 A) (F0 m 9 ls []) := by
    refine lpW ((n - 1) * (n - 1)) ?_
    intro q bdq ih9 fW hI H locs hP hD hS ls hl
    refine lv_iload_n hx hb dX9_laysWeights_9 rfl (lv_at hl 3 rfl) ?_
    refine lv_iload_n hx hb dX9_laysWeights_10 rfl (lv_at hl 2 rfl) ?_
    refine lv_iload_n hx hb dX9_laysWeights_11 rfl (lv_at hl 2 rfl) ?_
    refine lv_imul hx hb dX9_laysWeights_12 ?_
    refine eqi (x' := nI ((n - 1) * (n - 1))) (pk_mul _ _) ?_
    refine n_icmp_ge (tgt := 110) hx hb dX9_laysWeights_13 (by decide) (by omega) (by omega) (fun h13 => ?_) (fun h13 => ?_)
    · -- t
      exact r_v hx hb hr hlocks hP hD hS fW rfl (fun r x hr hx => WI_e (by (have e : q = (n - 1) * (n - 1) := by omega); rw [← e]; exact hI) r x hr hx) dX9_laysWeights_110
    · -- f
      have hM0 : 0 < n - 1 := by
        rcases Nat.eq_zero_or_pos (n - 1) with z | z
        · rw [z] at h13; omega
        · exact z
      have hq1 : q / (n - 1) < n - 1 := Nat.div_lt_of_lt_mul h13
      have hq2 : q % (n - 1) < n - 1 := Nat.mod_lt _ hM0
      have hoa := ot_lt hq1 hr0
      have hob := ot_lt hq2 hr0
      have hc1 := cnt_le (g (ot r0 (q / (n - 1)))) (ot r0 (q / (n - 1))) k
      have hc2 := cnt_le (g (ot r0 (q / (n - 1)))) (ot r0 (q % (n - 1))) k
      refine lv_iload_n hx hb dX9_laysWeights_16 rfl (lv_at hl 3 rfl) ?_
      refine lv_iload_n hx hb dX9_laysWeights_17 rfl (lv_at hl 2 rfl) ?_
      refine lv_idiv hx hb dX9_laysWeights_18 (nI_ne0 (by omega) (by omega)) ?_
      refine eqi (x' := nI (q / (n - 1))) (pk_div (by omega) (by omega) (by omega)) ?_
      refine lv_iload_n hx hb dX9_laysWeights_19 rfl (lv_at hl 1 rfl) ?_
      refine n_icmp_ge (tgt := 29) hx hb dX9_laysWeights_20 (by decide) (by omega) (by omega) (fun h20 => ?_) (fun h20 => ?_)
      · -- t
        refine lv_iload_n hx hb dX9_laysWeights_29 rfl (lv_at hl 3 rfl) ?_
        refine lv_iload_n hx hb dX9_laysWeights_30 rfl (lv_at hl 2 rfl) ?_
        refine lv_idiv hx hb dX9_laysWeights_31 (nI_ne0 (by omega) (by omega)) ?_
        refine eqi (x' := nI (q / (n - 1))) (pk_div (by omega) (by omega) (by omega)) ?_
        refine lv_iconst (v := nI 1) hx hb dX9_laysWeights_32 (by decide) ?_
        refine lv_iadd hx hb dX9_laysWeights_33 ?_
        refine eqi (x' := nI (q / (n - 1) + 1)) (nI_add _ _) ?_
        refine eqi (x' := nI (ot r0 (q / (n - 1)))) (congrArg nI (ot_b h20)) ?_
        refine lv_istore (lv' := [(4, .int (nI (ot r0 (q / (n - 1))))), (0, .ref (a 0)), (1, .int (nI r0)), (2, .int (nI (n - 1))), (3, .int (nI q))]) hx hb dX9_laysWeights_34 hl (by decide) rfl (fun ls hl => ?_)
        refine lv_iload_n hx hb dX9_laysWeights_36 rfl (lv_at hl 4 rfl) ?_
        refine lv_iload_n hx hb dX9_laysWeights_37 rfl (lv_at hl 3 rfl) ?_
        refine lv_irem hx hb dX9_laysWeights_38 (nI_ne0 (by omega) (by omega)) ?_
        refine eqi (x' := nI (q % (n - 1))) (pk_rem (by omega) (by omega) (by omega)) ?_
        refine lv_iload_n hx hb dX9_laysWeights_39 rfl (lv_at hl 2 rfl) ?_
        refine n_icmp_ge (tgt := 49) hx hb dX9_laysWeights_40 (by decide) (by omega) (by omega) (fun h40 => ?_) (fun h40 => ?_)
        · -- t
          refine lv_iload_n hx hb dX9_laysWeights_49 rfl (lv_at hl 4 rfl) ?_
          refine lv_iload_n hx hb dX9_laysWeights_50 rfl (lv_at hl 3 rfl) ?_
          refine lv_irem hx hb dX9_laysWeights_51 (nI_ne0 (by omega) (by omega)) ?_
          refine eqi (x' := nI (q % (n - 1))) (pk_rem (by omega) (by omega) (by omega)) ?_
          refine lv_iconst (v := nI 1) hx hb dX9_laysWeights_52 (by decide) ?_
          refine lv_iadd hx hb dX9_laysWeights_53 ?_
          refine eqi (x' := nI (q % (n - 1) + 1)) (nI_add _ _) ?_
          refine eqi (x' := nI (ot r0 (q % (n - 1)))) (congrArg nI (ot_b h40)) ?_
          refine lv_istore (lv' := [(5, .int (nI (ot r0 (q % (n - 1))))), (4, .int (nI (ot r0 (q / (n - 1))))), (0, .ref (a 0)), (1, .int (nI r0)), (2, .int (nI (n - 1))), (3, .int (nI q))]) hx hb dX9_laysWeights_54 hl (by decide) rfl (fun ls hl => ?_)
          refine lv_aload_n hx hb dX9_laysWeights_56 rfl (lv_at hl 2 rfl) ?_
          refine b_get (ci := 9) (v := .ref (a 8)) (C := RX9) (T := TX9) (N := 13) hx hb hts (by decide +kernel) hown hK hP 0 rfl rfl 9 (by decide) (hts (.fieldLink RX9 39 "ChanceHallModel" "weights" "[J") (by decide +kernel)) (fun _ h9 => h9) rfl dX9_laysWeights_57 ?_
          refine lv_iconst (v := nI 5) hx hb dX9_laysWeights_60 (by decide) ?_
          refine lv_iload_n hx hb dX9_laysWeights_61 rfl (lv_at hl 5 rfl) ?_
          refine lv_iload_n hx hb dX9_laysWeights_62 rfl (lv_at hl 4 rfl) ?_
          refine lv_idiv hx hb dX9_laysWeights_63 (nI_ne0 (by omega) (by omega)) ?_
          refine eqi (x' := nI (q / (n - 1))) (pk_div (by omega) (by omega) (by omega)) ?_
          refine lv_imul hx hb dX9_laysWeights_64 ?_
          refine eqi (x' := nI (5 * (q / (n - 1)))) (pk_mul _ _) ?_
          refine lv_iload_n hx hb dX9_laysWeights_65 rfl (lv_at hl 5 rfl) ?_
          refine lv_iload_n hx hb dX9_laysWeights_66 rfl (lv_at hl 4 rfl) ?_
          refine lv_irem hx hb dX9_laysWeights_67 (nI_ne0 (by omega) (by omega)) ?_
          refine eqi (x' := nI (q % (n - 1))) (pk_rem (by omega) (by omega) (by omega)) ?_
          refine lv_iadd hx hb dX9_laysWeights_68 ?_
          refine eqi (x' := nI (5 * (q / (n - 1)) + (q % (n - 1)))) (nI_add _ _) ?_
          refine lv_iload hx hb dX9_laysWeights_69 (lv_at hl 1 rfl) ?_
          refine lv_iload hx hb dX9_laysWeights_71 (lv_at hl 0 rfl) ?_
          refine n_icmp_ne (tgt := 93) hx hb dX9_laysWeights_73 (by decide) (by omega) (by omega) (fun h73 => ?_) (fun h73 => ?_)
          · -- t
            refine lv_aload_n hx hb dX9_laysWeights_93 rfl (lv_at hl 2 rfl) ?_
            refine lv_iload hx hb dX9_laysWeights_94 (lv_at hl 1 rfl) ?_
            refine lv_iload hx hb dX9_laysWeights_96 (lv_at hl 0 rfl) ?_
            refine ca_i (CL := [mO a (nI n) (nI k) th, [(a 1, .inl (cY 0, 72, .inl fto))]]) (va_runV (As := [.int (nI (ot r0 (q / (n - 1)))), .int (nI (ot r0 (q % (n - 1))))]) (rest := [.int (nI (5 * (q / (n - 1)) + (q % (n - 1)))), .ref (a 8)]) ⟨hx, hb, hml, hown, hts⟩ (c_X9_weigh l D cY H.size a n k th fto g (ot r0 (q / (n - 1))) (ot r0 (q % (n - 1))) (by omega) (by omega) (by omega) (by omega) hG hgn (by omega) (by omega)) (cwV 2 hts gX9_laysWeights_X9_weigh rfl rfl rfl (by decide +kernel) ⟨Nat.le_of_ble_eq_true rfl, Nat.le_of_ble_eq_true rfl⟩) (b_preV hVK hP hD [0, 1] rfl rfl 0 rfl rfl) rfl rfl hl.1 rfl (lv_room (Nat.le_of_ble_eq_true rfl)) dX9_laysWeights_98 ⟨Nat.le_refl _, Nat.le_refl _⟩) hP hD hS hA [0, 1] rfl rfl (fun _ => rfl) (fun r98 uu H locs hq hP hD hS => ?_)
            subst hq
            have hP : va_P D vwCl ([mO a (nI n) (nI k) th, [(a 1, .inl (cY 0, 72, .inl fto))], [(a 8, .inl (cY 1, 25, .inr (.inl fW)))]] : List va_W).flatten H := hP
            have hD : va_D A ([mO a (nI n) (nI k) th, [(a 1, .inl (cY 0, 72, .inl fto))], [(a 8, .inl (cY 1, 25, .inr (.inl fW)))]] : List va_W).flatten := hD
            refine lv_ineg hx hb dX9_laysWeights_101 ?_
            refine lv_i2l (v := -lN (cnt (g (ot r0 (q / (n - 1)))) (ot r0 (q % (n - 1))) k)) hx hb dX9_laysWeights_102 (ng_l _ (by omega)) ?_
            refine b_last hx hb hK hP hD hS 2 1 rfl rfl (by omega) (by decide) dX9_laysWeights_103 (fun H locs hP hD hS => ?_)
            have hP : va_P D vwCl ([mO a (nI n) (nI k) th, [(a 1, .inl (cY 0, 72, .inl fto))], [(a 8, .inl (cY 1, 25, .inr (.inl (vp_updL fW (5 * (q / (n - 1)) + (q % (n - 1))) (-lN (cnt (g (ot r0 (q / (n - 1)))) (ot r0 (q % (n - 1))) k))))))]] : List va_W).flatten H := hP
            have hD : va_D A ([mO a (nI n) (nI k) th, [(a 1, .inl (cY 0, 72, .inl fto))], [(a 8, .inl (cY 1, 25, .inr (.inl (vp_updL fW (5 * (q / (n - 1)) + (q % (n - 1))) (-lN (cnt (g (ot r0 (q / (n - 1)))) (ot r0 (q % (n - 1))) k))))))]] : List va_W).flatten := hD
            refine lv_iinc (v := nI (q + 1)) (lv' := [(3, .int (nI (q + 1))), (5, .int (nI (ot r0 (q % (n - 1))))), (4, .int (nI (ot r0 (q / (n - 1))))), (0, .ref (a 0)), (1, .int (nI r0)), (2, .int (nI (n - 1)))]) hx hb dX9_laysWeights_104 hl (k := 5) rfl (nI_1 q) (by decide) rfl (fun ls hl => ?_)
            refine lv_goto (tgt := 9) hx hb dX9_laysWeights_107 (by decide) ?_
            exact ih9 (by omega) (vp_updL fW (5 * (q / (n - 1)) + (q % (n - 1))) (-lN (cnt (g (ot r0 (q / (n - 1)))) (ot r0 (q % (n - 1))) k))) (WI_s (by omega) (by omega) hI (by first | exact (if_pos h73).symm | exact (if_neg h73).symm)) _ _ hP hD hS _ (lv_sub hl [3, 4, 5, 0] rfl)
          · -- f
            have h73c := h73
            refine lv_aload_n hx hb dX9_laysWeights_76 rfl (lv_at hl 2 rfl) ?_
            refine b_get (ci := 9) (v := .int (nI k)) (C := RX9) (T := TX9) (N := 13) hx hb hts (by decide +kernel) hown hK hP 0 rfl rfl 1 (by decide) (hts (.fieldLink RX9 13 "ChanceHallModel" "slots" "I") (by decide +kernel)) (fun _ h9 => h9) rfl dX9_laysWeights_77 ?_
            refine lv_aload_n hx hb dX9_laysWeights_80 rfl (lv_at hl 2 rfl) ?_
            refine lv_iload hx hb dX9_laysWeights_81 (lv_at hl 1 rfl) ?_
            refine lv_iload hx hb dX9_laysWeights_83 (lv_at hl 1 rfl) ?_
            refine ca_i (CL := [mO a (nI n) (nI k) th, [(a 1, .inl (cY 0, 72, .inl fto))]]) (va_runV (As := [.int (nI (ot r0 (q / (n - 1)))), .int (nI (ot r0 (q / (n - 1))))]) (rest := [.int (nI k), .int (nI (5 * (q / (n - 1)) + (q % (n - 1)))), .ref (a 8)]) ⟨hx, hb, hml, hown, hts⟩ (c_X9_weigh l D cY H.size a n k th fto g (ot r0 (q / (n - 1))) (ot r0 (q / (n - 1))) (by omega) (by omega) (by omega) (by omega) hG hgn (by omega) (by omega)) (cwV 2 hts gX9_laysWeights_X9_weigh rfl rfl rfl (by decide +kernel) ⟨Nat.le_of_ble_eq_true rfl, Nat.le_of_ble_eq_true rfl⟩) (b_preV hVK hP hD [0, 1] rfl rfl 0 rfl rfl) rfl rfl hl.1 rfl (lv_room (Nat.le_of_ble_eq_true rfl)) dX9_laysWeights_85 ⟨Nat.le_refl _, Nat.le_refl _⟩) hP hD hS hA [0, 1] rfl rfl (fun _ => rfl) (fun r85 uu H locs hq hP hD hS => ?_)
            subst hq
            have hP : va_P D vwCl ([mO a (nI n) (nI k) th, [(a 1, .inl (cY 0, 72, .inl fto))], [(a 8, .inl (cY 1, 25, .inr (.inl fW)))]] : List va_W).flatten H := hP
            have hD : va_D A ([mO a (nI n) (nI k) th, [(a 1, .inl (cY 0, 72, .inl fto))], [(a 8, .inl (cY 1, 25, .inr (.inl fW)))]] : List va_W).flatten := hD
            refine lv_isub hx hb dX9_laysWeights_88 ?_
            refine eqi (x' := nI (k - (cnt (g (ot r0 (q / (n - 1)))) (ot r0 (q / (n - 1))) k))) (pk_sub (by omega)) ?_
            refine lv_i2l (v := lN (k - (cnt (g (ot r0 (q / (n - 1)))) (ot r0 (q / (n - 1))) k))) hx hb dX9_laysWeights_89 (nI_l (by omega)) ?_
            refine eql (x' := lN (k - cnt (g (ot r0 (q / (n - 1)))) (ot r0 (q % (n - 1))) k)) (by rw [← h73]) ?_
            refine lv_goto (tgt := 103) hx hb dX9_laysWeights_90 (by decide) ?_
            refine b_last hx hb hK hP hD hS 2 1 rfl rfl (by omega) (by decide) dX9_laysWeights_103 (fun H locs hP hD hS => ?_)
            have hP : va_P D vwCl ([mO a (nI n) (nI k) th, [(a 1, .inl (cY 0, 72, .inl fto))], [(a 8, .inl (cY 1, 25, .inr (.inl (vp_updL fW (5 * (q / (n - 1)) + (q % (n - 1))) (lN (k - cnt (g (ot r0 (q / (n - 1)))) (ot r0 (q % (n - 1))) k))))))]] : List va_W).flatten H := hP
            have hD : va_D A ([mO a (nI n) (nI k) th, [(a 1, .inl (cY 0, 72, .inl fto))], [(a 8, .inl (cY 1, 25, .inr (.inl (vp_updL fW (5 * (q / (n - 1)) + (q % (n - 1))) (lN (k - cnt (g (ot r0 (q / (n - 1)))) (ot r0 (q % (n - 1))) k))))))]] : List va_W).flatten := hD
            refine lv_iinc (v := nI (q + 1)) (lv' := [(3, .int (nI (q + 1))), (5, .int (nI (ot r0 (q % (n - 1))))), (4, .int (nI (ot r0 (q / (n - 1))))), (0, .ref (a 0)), (1, .int (nI r0)), (2, .int (nI (n - 1)))]) hx hb dX9_laysWeights_104 hl (k := 5) rfl (nI_1 q) (by decide) rfl (fun ls hl => ?_)
            refine lv_goto (tgt := 9) hx hb dX9_laysWeights_107 (by decide) ?_
            exact ih9 (by omega) (vp_updL fW (5 * (q / (n - 1)) + (q % (n - 1))) (lN (k - cnt (g (ot r0 (q / (n - 1)))) (ot r0 (q % (n - 1))) k))) (WI_s (by omega) (by omega) hI (by first | exact (if_pos h73).symm | exact (if_neg h73).symm)) _ _ hP hD hS _ (lv_sub hl [3, 4, 5, 0] rfl)
        · -- f
          refine lv_iload_n hx hb dX9_laysWeights_43 rfl (lv_at hl 4 rfl) ?_
          refine lv_iload_n hx hb dX9_laysWeights_44 rfl (lv_at hl 3 rfl) ?_
          refine lv_irem hx hb dX9_laysWeights_45 (nI_ne0 (by omega) (by omega)) ?_
          refine eqi (x' := nI (q % (n - 1))) (pk_rem (by omega) (by omega) (by omega)) ?_
          refine lv_goto (tgt := 54) hx hb dX9_laysWeights_46 (by decide) ?_
          refine eqi (x' := nI (ot r0 (q % (n - 1)))) (congrArg nI (ot_s h40)) ?_
          refine lv_istore (lv' := [(5, .int (nI (ot r0 (q % (n - 1))))), (4, .int (nI (ot r0 (q / (n - 1))))), (0, .ref (a 0)), (1, .int (nI r0)), (2, .int (nI (n - 1))), (3, .int (nI q))]) hx hb dX9_laysWeights_54 hl (by decide) rfl (fun ls hl => ?_)
          refine lv_aload_n hx hb dX9_laysWeights_56 rfl (lv_at hl 2 rfl) ?_
          refine b_get (ci := 9) (v := .ref (a 8)) (C := RX9) (T := TX9) (N := 13) hx hb hts (by decide +kernel) hown hK hP 0 rfl rfl 9 (by decide) (hts (.fieldLink RX9 39 "ChanceHallModel" "weights" "[J") (by decide +kernel)) (fun _ h9 => h9) rfl dX9_laysWeights_57 ?_
          refine lv_iconst (v := nI 5) hx hb dX9_laysWeights_60 (by decide) ?_
          refine lv_iload_n hx hb dX9_laysWeights_61 rfl (lv_at hl 5 rfl) ?_
          refine lv_iload_n hx hb dX9_laysWeights_62 rfl (lv_at hl 4 rfl) ?_
          refine lv_idiv hx hb dX9_laysWeights_63 (nI_ne0 (by omega) (by omega)) ?_
          refine eqi (x' := nI (q / (n - 1))) (pk_div (by omega) (by omega) (by omega)) ?_
          refine lv_imul hx hb dX9_laysWeights_64 ?_
          refine eqi (x' := nI (5 * (q / (n - 1)))) (pk_mul _ _) ?_
          refine lv_iload_n hx hb dX9_laysWeights_65 rfl (lv_at hl 5 rfl) ?_
          refine lv_iload_n hx hb dX9_laysWeights_66 rfl (lv_at hl 4 rfl) ?_
          refine lv_irem hx hb dX9_laysWeights_67 (nI_ne0 (by omega) (by omega)) ?_
          refine eqi (x' := nI (q % (n - 1))) (pk_rem (by omega) (by omega) (by omega)) ?_
          refine lv_iadd hx hb dX9_laysWeights_68 ?_
          refine eqi (x' := nI (5 * (q / (n - 1)) + (q % (n - 1)))) (nI_add _ _) ?_
          refine lv_iload hx hb dX9_laysWeights_69 (lv_at hl 1 rfl) ?_
          refine lv_iload hx hb dX9_laysWeights_71 (lv_at hl 0 rfl) ?_
          refine n_icmp_ne (tgt := 93) hx hb dX9_laysWeights_73 (by decide) (by omega) (by omega) (fun h73 => ?_) (fun h73 => ?_)
          · -- t
            refine lv_aload_n hx hb dX9_laysWeights_93 rfl (lv_at hl 2 rfl) ?_
            refine lv_iload hx hb dX9_laysWeights_94 (lv_at hl 1 rfl) ?_
            refine lv_iload hx hb dX9_laysWeights_96 (lv_at hl 0 rfl) ?_
            refine ca_i (CL := [mO a (nI n) (nI k) th, [(a 1, .inl (cY 0, 72, .inl fto))]]) (va_runV (As := [.int (nI (ot r0 (q / (n - 1)))), .int (nI (ot r0 (q % (n - 1))))]) (rest := [.int (nI (5 * (q / (n - 1)) + (q % (n - 1)))), .ref (a 8)]) ⟨hx, hb, hml, hown, hts⟩ (c_X9_weigh l D cY H.size a n k th fto g (ot r0 (q / (n - 1))) (ot r0 (q % (n - 1))) (by omega) (by omega) (by omega) (by omega) hG hgn (by omega) (by omega)) (cwV 2 hts gX9_laysWeights_X9_weigh rfl rfl rfl (by decide +kernel) ⟨Nat.le_of_ble_eq_true rfl, Nat.le_of_ble_eq_true rfl⟩) (b_preV hVK hP hD [0, 1] rfl rfl 0 rfl rfl) rfl rfl hl.1 rfl (lv_room (Nat.le_of_ble_eq_true rfl)) dX9_laysWeights_98 ⟨Nat.le_refl _, Nat.le_refl _⟩) hP hD hS hA [0, 1] rfl rfl (fun _ => rfl) (fun r98 uu H locs hq hP hD hS => ?_)
            subst hq
            have hP : va_P D vwCl ([mO a (nI n) (nI k) th, [(a 1, .inl (cY 0, 72, .inl fto))], [(a 8, .inl (cY 1, 25, .inr (.inl fW)))]] : List va_W).flatten H := hP
            have hD : va_D A ([mO a (nI n) (nI k) th, [(a 1, .inl (cY 0, 72, .inl fto))], [(a 8, .inl (cY 1, 25, .inr (.inl fW)))]] : List va_W).flatten := hD
            refine lv_ineg hx hb dX9_laysWeights_101 ?_
            refine lv_i2l (v := -lN (cnt (g (ot r0 (q / (n - 1)))) (ot r0 (q % (n - 1))) k)) hx hb dX9_laysWeights_102 (ng_l _ (by omega)) ?_
            refine b_last hx hb hK hP hD hS 2 1 rfl rfl (by omega) (by decide) dX9_laysWeights_103 (fun H locs hP hD hS => ?_)
            have hP : va_P D vwCl ([mO a (nI n) (nI k) th, [(a 1, .inl (cY 0, 72, .inl fto))], [(a 8, .inl (cY 1, 25, .inr (.inl (vp_updL fW (5 * (q / (n - 1)) + (q % (n - 1))) (-lN (cnt (g (ot r0 (q / (n - 1)))) (ot r0 (q % (n - 1))) k))))))]] : List va_W).flatten H := hP
            have hD : va_D A ([mO a (nI n) (nI k) th, [(a 1, .inl (cY 0, 72, .inl fto))], [(a 8, .inl (cY 1, 25, .inr (.inl (vp_updL fW (5 * (q / (n - 1)) + (q % (n - 1))) (-lN (cnt (g (ot r0 (q / (n - 1)))) (ot r0 (q % (n - 1))) k))))))]] : List va_W).flatten := hD
            refine lv_iinc (v := nI (q + 1)) (lv' := [(3, .int (nI (q + 1))), (5, .int (nI (ot r0 (q % (n - 1))))), (4, .int (nI (ot r0 (q / (n - 1))))), (0, .ref (a 0)), (1, .int (nI r0)), (2, .int (nI (n - 1)))]) hx hb dX9_laysWeights_104 hl (k := 5) rfl (nI_1 q) (by decide) rfl (fun ls hl => ?_)
            refine lv_goto (tgt := 9) hx hb dX9_laysWeights_107 (by decide) ?_
            exact ih9 (by omega) (vp_updL fW (5 * (q / (n - 1)) + (q % (n - 1))) (-lN (cnt (g (ot r0 (q / (n - 1)))) (ot r0 (q % (n - 1))) k))) (WI_s (by omega) (by omega) hI (by first | exact (if_pos h73).symm | exact (if_neg h73).symm)) _ _ hP hD hS _ (lv_sub hl [3, 4, 5, 0] rfl)
          · -- f
            have h73c := h73
            refine lv_aload_n hx hb dX9_laysWeights_76 rfl (lv_at hl 2 rfl) ?_
            refine b_get (ci := 9) (v := .int (nI k)) (C := RX9) (T := TX9) (N := 13) hx hb hts (by decide +kernel) hown hK hP 0 rfl rfl 1 (by decide) (hts (.fieldLink RX9 13 "ChanceHallModel" "slots" "I") (by decide +kernel)) (fun _ h9 => h9) rfl dX9_laysWeights_77 ?_
            refine lv_aload_n hx hb dX9_laysWeights_80 rfl (lv_at hl 2 rfl) ?_
            refine lv_iload hx hb dX9_laysWeights_81 (lv_at hl 1 rfl) ?_
            refine lv_iload hx hb dX9_laysWeights_83 (lv_at hl 1 rfl) ?_
            refine ca_i (CL := [mO a (nI n) (nI k) th, [(a 1, .inl (cY 0, 72, .inl fto))]]) (va_runV (As := [.int (nI (ot r0 (q / (n - 1)))), .int (nI (ot r0 (q / (n - 1))))]) (rest := [.int (nI k), .int (nI (5 * (q / (n - 1)) + (q % (n - 1)))), .ref (a 8)]) ⟨hx, hb, hml, hown, hts⟩ (c_X9_weigh l D cY H.size a n k th fto g (ot r0 (q / (n - 1))) (ot r0 (q / (n - 1))) (by omega) (by omega) (by omega) (by omega) hG hgn (by omega) (by omega)) (cwV 2 hts gX9_laysWeights_X9_weigh rfl rfl rfl (by decide +kernel) ⟨Nat.le_of_ble_eq_true rfl, Nat.le_of_ble_eq_true rfl⟩) (b_preV hVK hP hD [0, 1] rfl rfl 0 rfl rfl) rfl rfl hl.1 rfl (lv_room (Nat.le_of_ble_eq_true rfl)) dX9_laysWeights_85 ⟨Nat.le_refl _, Nat.le_refl _⟩) hP hD hS hA [0, 1] rfl rfl (fun _ => rfl) (fun r85 uu H locs hq hP hD hS => ?_)
            subst hq
            have hP : va_P D vwCl ([mO a (nI n) (nI k) th, [(a 1, .inl (cY 0, 72, .inl fto))], [(a 8, .inl (cY 1, 25, .inr (.inl fW)))]] : List va_W).flatten H := hP
            have hD : va_D A ([mO a (nI n) (nI k) th, [(a 1, .inl (cY 0, 72, .inl fto))], [(a 8, .inl (cY 1, 25, .inr (.inl fW)))]] : List va_W).flatten := hD
            refine lv_isub hx hb dX9_laysWeights_88 ?_
            refine eqi (x' := nI (k - (cnt (g (ot r0 (q / (n - 1)))) (ot r0 (q / (n - 1))) k))) (pk_sub (by omega)) ?_
            refine lv_i2l (v := lN (k - (cnt (g (ot r0 (q / (n - 1)))) (ot r0 (q / (n - 1))) k))) hx hb dX9_laysWeights_89 (nI_l (by omega)) ?_
            refine eql (x' := lN (k - cnt (g (ot r0 (q / (n - 1)))) (ot r0 (q % (n - 1))) k)) (by rw [← h73]) ?_
            refine lv_goto (tgt := 103) hx hb dX9_laysWeights_90 (by decide) ?_
            refine b_last hx hb hK hP hD hS 2 1 rfl rfl (by omega) (by decide) dX9_laysWeights_103 (fun H locs hP hD hS => ?_)
            have hP : va_P D vwCl ([mO a (nI n) (nI k) th, [(a 1, .inl (cY 0, 72, .inl fto))], [(a 8, .inl (cY 1, 25, .inr (.inl (vp_updL fW (5 * (q / (n - 1)) + (q % (n - 1))) (lN (k - cnt (g (ot r0 (q / (n - 1)))) (ot r0 (q % (n - 1))) k))))))]] : List va_W).flatten H := hP
            have hD : va_D A ([mO a (nI n) (nI k) th, [(a 1, .inl (cY 0, 72, .inl fto))], [(a 8, .inl (cY 1, 25, .inr (.inl (vp_updL fW (5 * (q / (n - 1)) + (q % (n - 1))) (lN (k - cnt (g (ot r0 (q / (n - 1)))) (ot r0 (q % (n - 1))) k))))))]] : List va_W).flatten := hD
            refine lv_iinc (v := nI (q + 1)) (lv' := [(3, .int (nI (q + 1))), (5, .int (nI (ot r0 (q % (n - 1))))), (4, .int (nI (ot r0 (q / (n - 1))))), (0, .ref (a 0)), (1, .int (nI r0)), (2, .int (nI (n - 1)))]) hx hb dX9_laysWeights_104 hl (k := 5) rfl (nI_1 q) (by decide) rfl (fun ls hl => ?_)
            refine lv_goto (tgt := 9) hx hb dX9_laysWeights_107 (by decide) ?_
            exact ih9 (by omega) (vp_updL fW (5 * (q / (n - 1)) + (q % (n - 1))) (lN (k - cnt (g (ot r0 (q / (n - 1)))) (ot r0 (q % (n - 1))) k))) (WI_s (by omega) (by omega) hI (by first | exact (if_pos h73).symm | exact (if_neg h73).symm)) _ _ hP hD hS _ (lv_sub hl [3, 4, 5, 0] rfl)
      · -- f
        refine lv_iload_n hx hb dX9_laysWeights_23 rfl (lv_at hl 3 rfl) ?_
        refine lv_iload_n hx hb dX9_laysWeights_24 rfl (lv_at hl 2 rfl) ?_
        refine lv_idiv hx hb dX9_laysWeights_25 (nI_ne0 (by omega) (by omega)) ?_
        refine eqi (x' := nI (q / (n - 1))) (pk_div (by omega) (by omega) (by omega)) ?_
        refine lv_goto (tgt := 34) hx hb dX9_laysWeights_26 (by decide) ?_
        refine eqi (x' := nI (ot r0 (q / (n - 1)))) (congrArg nI (ot_s h20)) ?_
        refine lv_istore (lv' := [(4, .int (nI (ot r0 (q / (n - 1))))), (0, .ref (a 0)), (1, .int (nI r0)), (2, .int (nI (n - 1))), (3, .int (nI q))]) hx hb dX9_laysWeights_34 hl (by decide) rfl (fun ls hl => ?_)
        refine lv_iload_n hx hb dX9_laysWeights_36 rfl (lv_at hl 4 rfl) ?_
        refine lv_iload_n hx hb dX9_laysWeights_37 rfl (lv_at hl 3 rfl) ?_
        refine lv_irem hx hb dX9_laysWeights_38 (nI_ne0 (by omega) (by omega)) ?_
        refine eqi (x' := nI (q % (n - 1))) (pk_rem (by omega) (by omega) (by omega)) ?_
        refine lv_iload_n hx hb dX9_laysWeights_39 rfl (lv_at hl 2 rfl) ?_
        refine n_icmp_ge (tgt := 49) hx hb dX9_laysWeights_40 (by decide) (by omega) (by omega) (fun h40 => ?_) (fun h40 => ?_)
        · -- t
          refine lv_iload_n hx hb dX9_laysWeights_49 rfl (lv_at hl 4 rfl) ?_
          refine lv_iload_n hx hb dX9_laysWeights_50 rfl (lv_at hl 3 rfl) ?_
          refine lv_irem hx hb dX9_laysWeights_51 (nI_ne0 (by omega) (by omega)) ?_
          refine eqi (x' := nI (q % (n - 1))) (pk_rem (by omega) (by omega) (by omega)) ?_
          refine lv_iconst (v := nI 1) hx hb dX9_laysWeights_52 (by decide) ?_
          refine lv_iadd hx hb dX9_laysWeights_53 ?_
          refine eqi (x' := nI (q % (n - 1) + 1)) (nI_add _ _) ?_
          refine eqi (x' := nI (ot r0 (q % (n - 1)))) (congrArg nI (ot_b h40)) ?_
          refine lv_istore (lv' := [(5, .int (nI (ot r0 (q % (n - 1))))), (4, .int (nI (ot r0 (q / (n - 1))))), (0, .ref (a 0)), (1, .int (nI r0)), (2, .int (nI (n - 1))), (3, .int (nI q))]) hx hb dX9_laysWeights_54 hl (by decide) rfl (fun ls hl => ?_)
          refine lv_aload_n hx hb dX9_laysWeights_56 rfl (lv_at hl 2 rfl) ?_
          refine b_get (ci := 9) (v := .ref (a 8)) (C := RX9) (T := TX9) (N := 13) hx hb hts (by decide +kernel) hown hK hP 0 rfl rfl 9 (by decide) (hts (.fieldLink RX9 39 "ChanceHallModel" "weights" "[J") (by decide +kernel)) (fun _ h9 => h9) rfl dX9_laysWeights_57 ?_
          refine lv_iconst (v := nI 5) hx hb dX9_laysWeights_60 (by decide) ?_
          refine lv_iload_n hx hb dX9_laysWeights_61 rfl (lv_at hl 5 rfl) ?_
          refine lv_iload_n hx hb dX9_laysWeights_62 rfl (lv_at hl 4 rfl) ?_
          refine lv_idiv hx hb dX9_laysWeights_63 (nI_ne0 (by omega) (by omega)) ?_
          refine eqi (x' := nI (q / (n - 1))) (pk_div (by omega) (by omega) (by omega)) ?_
          refine lv_imul hx hb dX9_laysWeights_64 ?_
          refine eqi (x' := nI (5 * (q / (n - 1)))) (pk_mul _ _) ?_
          refine lv_iload_n hx hb dX9_laysWeights_65 rfl (lv_at hl 5 rfl) ?_
          refine lv_iload_n hx hb dX9_laysWeights_66 rfl (lv_at hl 4 rfl) ?_
          refine lv_irem hx hb dX9_laysWeights_67 (nI_ne0 (by omega) (by omega)) ?_
          refine eqi (x' := nI (q % (n - 1))) (pk_rem (by omega) (by omega) (by omega)) ?_
          refine lv_iadd hx hb dX9_laysWeights_68 ?_
          refine eqi (x' := nI (5 * (q / (n - 1)) + (q % (n - 1)))) (nI_add _ _) ?_
          refine lv_iload hx hb dX9_laysWeights_69 (lv_at hl 1 rfl) ?_
          refine lv_iload hx hb dX9_laysWeights_71 (lv_at hl 0 rfl) ?_
          refine n_icmp_ne (tgt := 93) hx hb dX9_laysWeights_73 (by decide) (by omega) (by omega) (fun h73 => ?_) (fun h73 => ?_)
          · -- t
            refine lv_aload_n hx hb dX9_laysWeights_93 rfl (lv_at hl 2 rfl) ?_
            refine lv_iload hx hb dX9_laysWeights_94 (lv_at hl 1 rfl) ?_
            refine lv_iload hx hb dX9_laysWeights_96 (lv_at hl 0 rfl) ?_
            refine ca_i (CL := [mO a (nI n) (nI k) th, [(a 1, .inl (cY 0, 72, .inl fto))]]) (va_runV (As := [.int (nI (ot r0 (q / (n - 1)))), .int (nI (ot r0 (q % (n - 1))))]) (rest := [.int (nI (5 * (q / (n - 1)) + (q % (n - 1)))), .ref (a 8)]) ⟨hx, hb, hml, hown, hts⟩ (c_X9_weigh l D cY H.size a n k th fto g (ot r0 (q / (n - 1))) (ot r0 (q % (n - 1))) (by omega) (by omega) (by omega) (by omega) hG hgn (by omega) (by omega)) (cwV 2 hts gX9_laysWeights_X9_weigh rfl rfl rfl (by decide +kernel) ⟨Nat.le_of_ble_eq_true rfl, Nat.le_of_ble_eq_true rfl⟩) (b_preV hVK hP hD [0, 1] rfl rfl 0 rfl rfl) rfl rfl hl.1 rfl (lv_room (Nat.le_of_ble_eq_true rfl)) dX9_laysWeights_98 ⟨Nat.le_refl _, Nat.le_refl _⟩) hP hD hS hA [0, 1] rfl rfl (fun _ => rfl) (fun r98 uu H locs hq hP hD hS => ?_)
            subst hq
            have hP : va_P D vwCl ([mO a (nI n) (nI k) th, [(a 1, .inl (cY 0, 72, .inl fto))], [(a 8, .inl (cY 1, 25, .inr (.inl fW)))]] : List va_W).flatten H := hP
            have hD : va_D A ([mO a (nI n) (nI k) th, [(a 1, .inl (cY 0, 72, .inl fto))], [(a 8, .inl (cY 1, 25, .inr (.inl fW)))]] : List va_W).flatten := hD
            refine lv_ineg hx hb dX9_laysWeights_101 ?_
            refine lv_i2l (v := -lN (cnt (g (ot r0 (q / (n - 1)))) (ot r0 (q % (n - 1))) k)) hx hb dX9_laysWeights_102 (ng_l _ (by omega)) ?_
            refine b_last hx hb hK hP hD hS 2 1 rfl rfl (by omega) (by decide) dX9_laysWeights_103 (fun H locs hP hD hS => ?_)
            have hP : va_P D vwCl ([mO a (nI n) (nI k) th, [(a 1, .inl (cY 0, 72, .inl fto))], [(a 8, .inl (cY 1, 25, .inr (.inl (vp_updL fW (5 * (q / (n - 1)) + (q % (n - 1))) (-lN (cnt (g (ot r0 (q / (n - 1)))) (ot r0 (q % (n - 1))) k))))))]] : List va_W).flatten H := hP
            have hD : va_D A ([mO a (nI n) (nI k) th, [(a 1, .inl (cY 0, 72, .inl fto))], [(a 8, .inl (cY 1, 25, .inr (.inl (vp_updL fW (5 * (q / (n - 1)) + (q % (n - 1))) (-lN (cnt (g (ot r0 (q / (n - 1)))) (ot r0 (q % (n - 1))) k))))))]] : List va_W).flatten := hD
            refine lv_iinc (v := nI (q + 1)) (lv' := [(3, .int (nI (q + 1))), (5, .int (nI (ot r0 (q % (n - 1))))), (4, .int (nI (ot r0 (q / (n - 1))))), (0, .ref (a 0)), (1, .int (nI r0)), (2, .int (nI (n - 1)))]) hx hb dX9_laysWeights_104 hl (k := 5) rfl (nI_1 q) (by decide) rfl (fun ls hl => ?_)
            refine lv_goto (tgt := 9) hx hb dX9_laysWeights_107 (by decide) ?_
            exact ih9 (by omega) (vp_updL fW (5 * (q / (n - 1)) + (q % (n - 1))) (-lN (cnt (g (ot r0 (q / (n - 1)))) (ot r0 (q % (n - 1))) k))) (WI_s (by omega) (by omega) hI (by first | exact (if_pos h73).symm | exact (if_neg h73).symm)) _ _ hP hD hS _ (lv_sub hl [3, 4, 5, 0] rfl)
          · -- f
            have h73c := h73
            refine lv_aload_n hx hb dX9_laysWeights_76 rfl (lv_at hl 2 rfl) ?_
            refine b_get (ci := 9) (v := .int (nI k)) (C := RX9) (T := TX9) (N := 13) hx hb hts (by decide +kernel) hown hK hP 0 rfl rfl 1 (by decide) (hts (.fieldLink RX9 13 "ChanceHallModel" "slots" "I") (by decide +kernel)) (fun _ h9 => h9) rfl dX9_laysWeights_77 ?_
            refine lv_aload_n hx hb dX9_laysWeights_80 rfl (lv_at hl 2 rfl) ?_
            refine lv_iload hx hb dX9_laysWeights_81 (lv_at hl 1 rfl) ?_
            refine lv_iload hx hb dX9_laysWeights_83 (lv_at hl 1 rfl) ?_
            refine ca_i (CL := [mO a (nI n) (nI k) th, [(a 1, .inl (cY 0, 72, .inl fto))]]) (va_runV (As := [.int (nI (ot r0 (q / (n - 1)))), .int (nI (ot r0 (q / (n - 1))))]) (rest := [.int (nI k), .int (nI (5 * (q / (n - 1)) + (q % (n - 1)))), .ref (a 8)]) ⟨hx, hb, hml, hown, hts⟩ (c_X9_weigh l D cY H.size a n k th fto g (ot r0 (q / (n - 1))) (ot r0 (q / (n - 1))) (by omega) (by omega) (by omega) (by omega) hG hgn (by omega) (by omega)) (cwV 2 hts gX9_laysWeights_X9_weigh rfl rfl rfl (by decide +kernel) ⟨Nat.le_of_ble_eq_true rfl, Nat.le_of_ble_eq_true rfl⟩) (b_preV hVK hP hD [0, 1] rfl rfl 0 rfl rfl) rfl rfl hl.1 rfl (lv_room (Nat.le_of_ble_eq_true rfl)) dX9_laysWeights_85 ⟨Nat.le_refl _, Nat.le_refl _⟩) hP hD hS hA [0, 1] rfl rfl (fun _ => rfl) (fun r85 uu H locs hq hP hD hS => ?_)
            subst hq
            have hP : va_P D vwCl ([mO a (nI n) (nI k) th, [(a 1, .inl (cY 0, 72, .inl fto))], [(a 8, .inl (cY 1, 25, .inr (.inl fW)))]] : List va_W).flatten H := hP
            have hD : va_D A ([mO a (nI n) (nI k) th, [(a 1, .inl (cY 0, 72, .inl fto))], [(a 8, .inl (cY 1, 25, .inr (.inl fW)))]] : List va_W).flatten := hD
            refine lv_isub hx hb dX9_laysWeights_88 ?_
            refine eqi (x' := nI (k - (cnt (g (ot r0 (q / (n - 1)))) (ot r0 (q / (n - 1))) k))) (pk_sub (by omega)) ?_
            refine lv_i2l (v := lN (k - (cnt (g (ot r0 (q / (n - 1)))) (ot r0 (q / (n - 1))) k))) hx hb dX9_laysWeights_89 (nI_l (by omega)) ?_
            refine eql (x' := lN (k - cnt (g (ot r0 (q / (n - 1)))) (ot r0 (q % (n - 1))) k)) (by rw [← h73]) ?_
            refine lv_goto (tgt := 103) hx hb dX9_laysWeights_90 (by decide) ?_
            refine b_last hx hb hK hP hD hS 2 1 rfl rfl (by omega) (by decide) dX9_laysWeights_103 (fun H locs hP hD hS => ?_)
            have hP : va_P D vwCl ([mO a (nI n) (nI k) th, [(a 1, .inl (cY 0, 72, .inl fto))], [(a 8, .inl (cY 1, 25, .inr (.inl (vp_updL fW (5 * (q / (n - 1)) + (q % (n - 1))) (lN (k - cnt (g (ot r0 (q / (n - 1)))) (ot r0 (q % (n - 1))) k))))))]] : List va_W).flatten H := hP
            have hD : va_D A ([mO a (nI n) (nI k) th, [(a 1, .inl (cY 0, 72, .inl fto))], [(a 8, .inl (cY 1, 25, .inr (.inl (vp_updL fW (5 * (q / (n - 1)) + (q % (n - 1))) (lN (k - cnt (g (ot r0 (q / (n - 1)))) (ot r0 (q % (n - 1))) k))))))]] : List va_W).flatten := hD
            refine lv_iinc (v := nI (q + 1)) (lv' := [(3, .int (nI (q + 1))), (5, .int (nI (ot r0 (q % (n - 1))))), (4, .int (nI (ot r0 (q / (n - 1))))), (0, .ref (a 0)), (1, .int (nI r0)), (2, .int (nI (n - 1)))]) hx hb dX9_laysWeights_104 hl (k := 5) rfl (nI_1 q) (by decide) rfl (fun ls hl => ?_)
            refine lv_goto (tgt := 9) hx hb dX9_laysWeights_107 (by decide) ?_
            exact ih9 (by omega) (vp_updL fW (5 * (q / (n - 1)) + (q % (n - 1))) (lN (k - cnt (g (ot r0 (q / (n - 1)))) (ot r0 (q % (n - 1))) k))) (WI_s (by omega) (by omega) hI (by first | exact (if_pos h73).symm | exact (if_neg h73).symm)) _ _ hP hD hS _ (lv_sub hl [3, 4, 5, 0] rfl)
        · -- f
          refine lv_iload_n hx hb dX9_laysWeights_43 rfl (lv_at hl 4 rfl) ?_
          refine lv_iload_n hx hb dX9_laysWeights_44 rfl (lv_at hl 3 rfl) ?_
          refine lv_irem hx hb dX9_laysWeights_45 (nI_ne0 (by omega) (by omega)) ?_
          refine eqi (x' := nI (q % (n - 1))) (pk_rem (by omega) (by omega) (by omega)) ?_
          refine lv_goto (tgt := 54) hx hb dX9_laysWeights_46 (by decide) ?_
          refine eqi (x' := nI (ot r0 (q % (n - 1)))) (congrArg nI (ot_s h40)) ?_
          refine lv_istore (lv' := [(5, .int (nI (ot r0 (q % (n - 1))))), (4, .int (nI (ot r0 (q / (n - 1))))), (0, .ref (a 0)), (1, .int (nI r0)), (2, .int (nI (n - 1))), (3, .int (nI q))]) hx hb dX9_laysWeights_54 hl (by decide) rfl (fun ls hl => ?_)
          refine lv_aload_n hx hb dX9_laysWeights_56 rfl (lv_at hl 2 rfl) ?_
          refine b_get (ci := 9) (v := .ref (a 8)) (C := RX9) (T := TX9) (N := 13) hx hb hts (by decide +kernel) hown hK hP 0 rfl rfl 9 (by decide) (hts (.fieldLink RX9 39 "ChanceHallModel" "weights" "[J") (by decide +kernel)) (fun _ h9 => h9) rfl dX9_laysWeights_57 ?_
          refine lv_iconst (v := nI 5) hx hb dX9_laysWeights_60 (by decide) ?_
          refine lv_iload_n hx hb dX9_laysWeights_61 rfl (lv_at hl 5 rfl) ?_
          refine lv_iload_n hx hb dX9_laysWeights_62 rfl (lv_at hl 4 rfl) ?_
          refine lv_idiv hx hb dX9_laysWeights_63 (nI_ne0 (by omega) (by omega)) ?_
          refine eqi (x' := nI (q / (n - 1))) (pk_div (by omega) (by omega) (by omega)) ?_
          refine lv_imul hx hb dX9_laysWeights_64 ?_
          refine eqi (x' := nI (5 * (q / (n - 1)))) (pk_mul _ _) ?_
          refine lv_iload_n hx hb dX9_laysWeights_65 rfl (lv_at hl 5 rfl) ?_
          refine lv_iload_n hx hb dX9_laysWeights_66 rfl (lv_at hl 4 rfl) ?_
          refine lv_irem hx hb dX9_laysWeights_67 (nI_ne0 (by omega) (by omega)) ?_
          refine eqi (x' := nI (q % (n - 1))) (pk_rem (by omega) (by omega) (by omega)) ?_
          refine lv_iadd hx hb dX9_laysWeights_68 ?_
          refine eqi (x' := nI (5 * (q / (n - 1)) + (q % (n - 1)))) (nI_add _ _) ?_
          refine lv_iload hx hb dX9_laysWeights_69 (lv_at hl 1 rfl) ?_
          refine lv_iload hx hb dX9_laysWeights_71 (lv_at hl 0 rfl) ?_
          refine n_icmp_ne (tgt := 93) hx hb dX9_laysWeights_73 (by decide) (by omega) (by omega) (fun h73 => ?_) (fun h73 => ?_)
          · -- t
            refine lv_aload_n hx hb dX9_laysWeights_93 rfl (lv_at hl 2 rfl) ?_
            refine lv_iload hx hb dX9_laysWeights_94 (lv_at hl 1 rfl) ?_
            refine lv_iload hx hb dX9_laysWeights_96 (lv_at hl 0 rfl) ?_
            refine ca_i (CL := [mO a (nI n) (nI k) th, [(a 1, .inl (cY 0, 72, .inl fto))]]) (va_runV (As := [.int (nI (ot r0 (q / (n - 1)))), .int (nI (ot r0 (q % (n - 1))))]) (rest := [.int (nI (5 * (q / (n - 1)) + (q % (n - 1)))), .ref (a 8)]) ⟨hx, hb, hml, hown, hts⟩ (c_X9_weigh l D cY H.size a n k th fto g (ot r0 (q / (n - 1))) (ot r0 (q % (n - 1))) (by omega) (by omega) (by omega) (by omega) hG hgn (by omega) (by omega)) (cwV 2 hts gX9_laysWeights_X9_weigh rfl rfl rfl (by decide +kernel) ⟨Nat.le_of_ble_eq_true rfl, Nat.le_of_ble_eq_true rfl⟩) (b_preV hVK hP hD [0, 1] rfl rfl 0 rfl rfl) rfl rfl hl.1 rfl (lv_room (Nat.le_of_ble_eq_true rfl)) dX9_laysWeights_98 ⟨Nat.le_refl _, Nat.le_refl _⟩) hP hD hS hA [0, 1] rfl rfl (fun _ => rfl) (fun r98 uu H locs hq hP hD hS => ?_)
            subst hq
            have hP : va_P D vwCl ([mO a (nI n) (nI k) th, [(a 1, .inl (cY 0, 72, .inl fto))], [(a 8, .inl (cY 1, 25, .inr (.inl fW)))]] : List va_W).flatten H := hP
            have hD : va_D A ([mO a (nI n) (nI k) th, [(a 1, .inl (cY 0, 72, .inl fto))], [(a 8, .inl (cY 1, 25, .inr (.inl fW)))]] : List va_W).flatten := hD
            refine lv_ineg hx hb dX9_laysWeights_101 ?_
            refine lv_i2l (v := -lN (cnt (g (ot r0 (q / (n - 1)))) (ot r0 (q % (n - 1))) k)) hx hb dX9_laysWeights_102 (ng_l _ (by omega)) ?_
            refine b_last hx hb hK hP hD hS 2 1 rfl rfl (by omega) (by decide) dX9_laysWeights_103 (fun H locs hP hD hS => ?_)
            have hP : va_P D vwCl ([mO a (nI n) (nI k) th, [(a 1, .inl (cY 0, 72, .inl fto))], [(a 8, .inl (cY 1, 25, .inr (.inl (vp_updL fW (5 * (q / (n - 1)) + (q % (n - 1))) (-lN (cnt (g (ot r0 (q / (n - 1)))) (ot r0 (q % (n - 1))) k))))))]] : List va_W).flatten H := hP
            have hD : va_D A ([mO a (nI n) (nI k) th, [(a 1, .inl (cY 0, 72, .inl fto))], [(a 8, .inl (cY 1, 25, .inr (.inl (vp_updL fW (5 * (q / (n - 1)) + (q % (n - 1))) (-lN (cnt (g (ot r0 (q / (n - 1)))) (ot r0 (q % (n - 1))) k))))))]] : List va_W).flatten := hD
            refine lv_iinc (v := nI (q + 1)) (lv' := [(3, .int (nI (q + 1))), (5, .int (nI (ot r0 (q % (n - 1))))), (4, .int (nI (ot r0 (q / (n - 1))))), (0, .ref (a 0)), (1, .int (nI r0)), (2, .int (nI (n - 1)))]) hx hb dX9_laysWeights_104 hl (k := 5) rfl (nI_1 q) (by decide) rfl (fun ls hl => ?_)
            refine lv_goto (tgt := 9) hx hb dX9_laysWeights_107 (by decide) ?_
            exact ih9 (by omega) (vp_updL fW (5 * (q / (n - 1)) + (q % (n - 1))) (-lN (cnt (g (ot r0 (q / (n - 1)))) (ot r0 (q % (n - 1))) k))) (WI_s (by omega) (by omega) hI (by first | exact (if_pos h73).symm | exact (if_neg h73).symm)) _ _ hP hD hS _ (lv_sub hl [3, 4, 5, 0] rfl)
          · -- f
            have h73c := h73
            refine lv_aload_n hx hb dX9_laysWeights_76 rfl (lv_at hl 2 rfl) ?_
            refine b_get (ci := 9) (v := .int (nI k)) (C := RX9) (T := TX9) (N := 13) hx hb hts (by decide +kernel) hown hK hP 0 rfl rfl 1 (by decide) (hts (.fieldLink RX9 13 "ChanceHallModel" "slots" "I") (by decide +kernel)) (fun _ h9 => h9) rfl dX9_laysWeights_77 ?_
            refine lv_aload_n hx hb dX9_laysWeights_80 rfl (lv_at hl 2 rfl) ?_
            refine lv_iload hx hb dX9_laysWeights_81 (lv_at hl 1 rfl) ?_
            refine lv_iload hx hb dX9_laysWeights_83 (lv_at hl 1 rfl) ?_
            refine ca_i (CL := [mO a (nI n) (nI k) th, [(a 1, .inl (cY 0, 72, .inl fto))]]) (va_runV (As := [.int (nI (ot r0 (q / (n - 1)))), .int (nI (ot r0 (q / (n - 1))))]) (rest := [.int (nI k), .int (nI (5 * (q / (n - 1)) + (q % (n - 1)))), .ref (a 8)]) ⟨hx, hb, hml, hown, hts⟩ (c_X9_weigh l D cY H.size a n k th fto g (ot r0 (q / (n - 1))) (ot r0 (q / (n - 1))) (by omega) (by omega) (by omega) (by omega) hG hgn (by omega) (by omega)) (cwV 2 hts gX9_laysWeights_X9_weigh rfl rfl rfl (by decide +kernel) ⟨Nat.le_of_ble_eq_true rfl, Nat.le_of_ble_eq_true rfl⟩) (b_preV hVK hP hD [0, 1] rfl rfl 0 rfl rfl) rfl rfl hl.1 rfl (lv_room (Nat.le_of_ble_eq_true rfl)) dX9_laysWeights_85 ⟨Nat.le_refl _, Nat.le_refl _⟩) hP hD hS hA [0, 1] rfl rfl (fun _ => rfl) (fun r85 uu H locs hq hP hD hS => ?_)
            subst hq
            have hP : va_P D vwCl ([mO a (nI n) (nI k) th, [(a 1, .inl (cY 0, 72, .inl fto))], [(a 8, .inl (cY 1, 25, .inr (.inl fW)))]] : List va_W).flatten H := hP
            have hD : va_D A ([mO a (nI n) (nI k) th, [(a 1, .inl (cY 0, 72, .inl fto))], [(a 8, .inl (cY 1, 25, .inr (.inl fW)))]] : List va_W).flatten := hD
            refine lv_isub hx hb dX9_laysWeights_88 ?_
            refine eqi (x' := nI (k - (cnt (g (ot r0 (q / (n - 1)))) (ot r0 (q / (n - 1))) k))) (pk_sub (by omega)) ?_
            refine lv_i2l (v := lN (k - (cnt (g (ot r0 (q / (n - 1)))) (ot r0 (q / (n - 1))) k))) hx hb dX9_laysWeights_89 (nI_l (by omega)) ?_
            refine eql (x' := lN (k - cnt (g (ot r0 (q / (n - 1)))) (ot r0 (q % (n - 1))) k)) (by rw [← h73]) ?_
            refine lv_goto (tgt := 103) hx hb dX9_laysWeights_90 (by decide) ?_
            refine b_last hx hb hK hP hD hS 2 1 rfl rfl (by omega) (by decide) dX9_laysWeights_103 (fun H locs hP hD hS => ?_)
            have hP : va_P D vwCl ([mO a (nI n) (nI k) th, [(a 1, .inl (cY 0, 72, .inl fto))], [(a 8, .inl (cY 1, 25, .inr (.inl (vp_updL fW (5 * (q / (n - 1)) + (q % (n - 1))) (lN (k - cnt (g (ot r0 (q / (n - 1)))) (ot r0 (q % (n - 1))) k))))))]] : List va_W).flatten H := hP
            have hD : va_D A ([mO a (nI n) (nI k) th, [(a 1, .inl (cY 0, 72, .inl fto))], [(a 8, .inl (cY 1, 25, .inr (.inl (vp_updL fW (5 * (q / (n - 1)) + (q % (n - 1))) (lN (k - cnt (g (ot r0 (q / (n - 1)))) (ot r0 (q % (n - 1))) k))))))]] : List va_W).flatten := hD
            refine lv_iinc (v := nI (q + 1)) (lv' := [(3, .int (nI (q + 1))), (5, .int (nI (ot r0 (q % (n - 1))))), (4, .int (nI (ot r0 (q / (n - 1))))), (0, .ref (a 0)), (1, .int (nI r0)), (2, .int (nI (n - 1)))]) hx hb dX9_laysWeights_104 hl (k := 5) rfl (nI_1 q) (by decide) rfl (fun ls hl => ?_)
            refine lv_goto (tgt := 9) hx hb dX9_laysWeights_107 (by decide) ?_
            exact ih9 (by omega) (vp_updL fW (5 * (q / (n - 1)) + (q % (n - 1))) (lN (k - cnt (g (ot r0 (q / (n - 1)))) (ot r0 (q % (n - 1))) k))) (WI_s (by omega) (by omega) hI (by first | exact (if_pos h73).symm | exact (if_neg h73).symm)) _ _ hP hD hS _ (lv_sub hl [3, 4, 5, 0] rfl)
  exact L9 0 (by omega) fwts WI_0 _ _ hP hD hS _ (lv_sub hl [2, 3, 1, 0] rfl)

set_option maxHeartbeats 4000000 in
set_option maxRecDepth 100000 in
theorem c_X9_restOf (l : Launch) (D : va_G) (cY : Nat → ClassId) (sz : Nat) (a : Nat → Nat) (n : Nat) (k : Nat) (th : Int32) (fto : Nat → Int32) (fmnr : Nat → Int64) (fwts : Nat → Int64) (g : Nat → Nat → Nat) (r0 : Nat) (hn1 : 1 ≤ n) (hn6 : n ≤ 6) (hk1 : 1 ≤ k) (hk12 : k ≤ 12) (hG : ∀ i j, i < n → j < k → fto (12 * i + j) = nI (g i j)) (hgn : ∀ i j, i < n → j < k → g i j < n) (hr0 : r0 < n) : Met l yX9_restOf wsX9_restOf ({ frames := 3, cells := 0, slots := 0, locals := 120 }) (cP D cY [.ref (a 0), .int (nI r0)] [mO a (nI n) (nI k) th, [(a 1, .inl (cY 0, 72, .inl fto))], [(a 7, .inl (cY 1, 32, .inr (.inl fmnr)))], [(a 8, .inl (cY 1, 25, .inr (.inl fwts)))]] sz) (qL (S := (Nat → Int64) × (Nat → Int64)) D cY (fun r u => r = RV g n k r0) (fun u => [mO a (nI n) (nI k) th, [(a 1, .inl (cY 0, 72, .inl fto))], [(a 7, .inl (cY 1, 32, .inr (.inl u.1)))], [(a 8, .inl (cY 1, 25, .inr (.inl u.2)))]]) (va_A ([mO a (nI n) (nI k) th, [(a 1, .inl (cY 0, 72, .inl fto))], [(a 7, .inl (cY 1, 32, .inr (.inl fmnr)))], [(a 8, .inl (cY 1, 25, .inr (.inl fwts)))]] : List va_W).flatten sz)) 0 0 (va_A ([mO a (nI n) (nI k) th, [(a 1, .inl (cY 0, 72, .inl fto))], [(a 7, .inl (cY 1, 32, .inr (.inl fmnr)))], [(a 8, .inl (cY 1, 25, .inr (.inl fwts)))]] : List va_W).flatten sz) := by
  refine mtB (Qc := fun A => qL (S := (Nat → Int64) × (Nat → Int64)) D cY (fun r u => r = RV g n k r0) (fun u => [mO a (nI n) (nI k) th, [(a 1, .inl (cY 0, 72, .inl fto))], [(a 7, .inl (cY 1, 32, .inr (.inl u.1)))], [(a 8, .inl (cY 1, 25, .inr (.inl u.2)))]]) A) (cc := cX9_restOf) (maxL := 8) (ret := (some .long)) (by decide) rfl (Nat.le_of_ble_eq_true rfl) ?_
  intro p e s m below meth c A ls hx hb hr hml hts hown hlocks hnm hsz hP hK hVK hD hS hA hl
  have hown : s.vm.findClass RX9 = some m.cls := hown
  have hl : lv_has ls 8 [(0, .ref (a 0)), (1, .int (nI r0))] := hl
  have hP : va_P D vwCl ([mO a (nI n) (nI k) th, [(a 1, .inl (cY 0, 72, .inl fto))], [(a 7, .inl (cY 1, 32, .inr (.inl fmnr)))], [(a 8, .inl (cY 1, 25, .inr (.inl fwts)))]] : List va_W).flatten s.heap := hP
  have hD : va_D A ([mO a (nI n) (nI k) th, [(a 1, .inl (cY 0, 72, .inl fto))], [(a 7, .inl (cY 1, 32, .inr (.inl fmnr)))], [(a 8, .inl (cY 1, 25, .inr (.inl fwts)))]] : List va_W).flatten := hD
  have h2M : 2 ^ (n - 1) ≤ 32 := Nat.le_trans (Nat.pow_le_pow_right (by decide) (show n - 1 ≤ 5 by omega)) (by decide)
  have h2m : 1 ≤ 2 ^ (n - 1) := Nat.one_le_two_pow
  refine lv_aload_n hx hb dX9_restOf_0 rfl (lv_at hl 0 rfl) ?_
  refine b_get (ci := 9) (v := .int (nI n)) (C := RX9) (T := TX9) (N := 13) hx hb hts (by decide +kernel) hown hK hP 0 rfl rfl 0 (by decide) (hts (.fieldLink RX9 7 "ChanceHallModel" "states" "I") (by decide +kernel)) (fun _ h9 => h9) rfl dX9_restOf_1 ?_
  refine lv_iconst (v := nI 1) hx hb dX9_restOf_4 (by decide) ?_
  refine lv_isub hx hb dX9_restOf_5 ?_
  refine eqi (x' := nI (n - 1)) (pk_sub (by omega)) ?_
  refine lv_istore_n (lv' := [(2, .int (nI (n - 1))), (0, .ref (a 0)), (1, .int (nI r0))]) hx hb dX9_restOf_6 rfl hl (by decide) rfl (fun ls hl => ?_)
  refine lv_aload_n hx hb dX9_restOf_7 rfl (lv_at hl 1 rfl) ?_
  refine lv_iload_n hx hb dX9_restOf_8 rfl (lv_at hl 2 rfl) ?_
  refine ca_v (CL := [mO a (nI n) (nI k) th, [(a 1, .inl (cY 0, 72, .inl fto))], [(a 8, .inl (cY 1, 25, .inr (.inl fwts)))]]) (va_runV (As := [.int (nI r0)]) (rest := []) ⟨hx, hb, hml, hown, hts⟩ (c_X9_laysWeights l D cY s.heap.size a n k th fto fwts g r0 (by omega) (by omega) (by omega) (by omega) hG hgn (by omega)) (cwV 1 hts gX9_restOf_X9_laysWeights rfl rfl rfl (by decide +kernel) ⟨Nat.le_of_ble_eq_true rfl, Nat.le_of_ble_eq_true rfl⟩) (b_preV hVK hP hD [0, 1, 3] rfl rfl 0 rfl rfl) rfl rfl hl.1 rfl (lv_room (Nat.le_of_ble_eq_true rfl)) dX9_restOf_9 ⟨Nat.le_refl _, Nat.le_refl _⟩) hP hD hS hA [0, 1, 3] rfl rfl (fun _ => rfl) (fun uu H locs hq hP hD hS => ?_)
  obtain ⟨fwts1_1, rfl⟩ : ∃ z, z = uu := ⟨_, rfl⟩
  try dsimp only at hq
  have q9 := hq
  have hP : va_P D vwCl ([mO a (nI n) (nI k) th, [(a 1, .inl (cY 0, 72, .inl fto))], [(a 7, .inl (cY 1, 32, .inr (.inl fmnr)))], [(a 8, .inl (cY 1, 25, .inr (.inl fwts1_1)))]] : List va_W).flatten H := hP
  have hD : va_D A ([mO a (nI n) (nI k) th, [(a 1, .inl (cY 0, 72, .inl fto))], [(a 7, .inl (cY 1, 32, .inr (.inl fmnr)))], [(a 8, .inl (cY 1, 25, .inr (.inl fwts1_1)))]] : List va_W).flatten := hD
  refine lv_aload_n hx hb dX9_restOf_12 rfl (lv_at hl 1 rfl) ?_
  refine b_get (ci := 9) (v := .ref (a 7)) (C := RX9) (T := TX9) (N := 13) hx hb hts (by decide +kernel) hown hK hP 0 rfl rfl 8 (by decide) (hts (.fieldLink RX9 36 "ChanceHallModel" "minor" "[J") (by decide +kernel)) (fun _ h9 => h9) rfl dX9_restOf_13 ?_
  refine lv_iconst (v := nI 0) hx hb dX9_restOf_16 (by decide) ?_
  refine lv_lconst (v := lN 1) hx hb dX9_restOf_17 (by decide) ?_
  refine b_last hx hb hK hP hD hS 2 1 rfl rfl (by omega) (by decide) dX9_restOf_18 (fun H locs hP hD hS => ?_)
  have hP : va_P D vwCl ([mO a (nI n) (nI k) th, [(a 1, .inl (cY 0, 72, .inl fto))], [(a 7, .inl (cY 1, 32, .inr (.inl (vp_updL fmnr 0 (lN 1)))))], [(a 8, .inl (cY 1, 25, .inr (.inl fwts1_1)))]] : List va_W).flatten H := hP
  have hD : va_D A ([mO a (nI n) (nI k) th, [(a 1, .inl (cY 0, 72, .inl fto))], [(a 7, .inl (cY 1, 32, .inr (.inl (vp_updL fmnr 0 (lN 1)))))], [(a 8, .inl (cY 1, 25, .inr (.inl fwts1_1)))]] : List va_W).flatten := hD
  refine lv_iconst (v := nI 1) hx hb dX9_restOf_19 (by decide) ?_
  refine lv_istore_n (lv' := [(3, .int (nI 1)), (2, .int (nI (n - 1))), (0, .ref (a 0)), (1, .int (nI r0))]) hx hb dX9_restOf_20 rfl hl (by decide) rfl (fun ls hl => ?_)
  have L21 : ∀ X : Nat, X ≤ 2 ^ (n - 1) → ∀ (fM : Nat → Int64), (MI (EN g k r0) (n - 1) X fM) → (1 ≤ X) → ∀ (H : Heap) (locs : List Loc), va_P D vwCl ([mO a (nI n) (nI k) th, [(a 1, .inl (cY 0, 72, .inl fto))], [(a 7, .inl (cY 1, 32, .inr (.inl fM)))], [(a 8, .inl (cY 1, 25, .inr (.inl fwts1_1)))]] : List va_W).flatten H → va_D A ([mO a (nI n) (nI k) th, [(a 1, .inl (cY 0, 72, .inl fto))], [(a 7, .inl (cY 1, 32, .inr (.inl fM)))], [(a 8, .inl (cY 1, 25, .inr (.inl fwts1_1)))]] : List va_W).flatten → va_S A s.heap H locs → ∀ (ls : Array Slot), lv_has ls 8 [(0, .ref (a 0)), (1, .int (nI r0)), (2, .int (nI (n - 1))), (3, .int (nI X))] → W p l e ({ frames := 3, cells := 0, slots := 0, locals := 120 }) s m ([.ref (a 0), .int (nI r0)] : List Value).toArray below meth c H locs 0 0 (MQ below (qL (S := (Nat → Int64) × (Nat → Int64)) D cY (fun r u => r = RV g n k r0) (fun u => [mO a (nI n) (nI k) th, [(a 1, .inl (cY 0, 72, .inl fto))], [(a 7, .inl (cY 1, 32, .inr (.inl u.1)))], [(a 8, .inl (cY 1, 25, .inr (.inl u.2)))]]) A) ([.ref (a 0), .int (nI r0)] : List Value).toArray s 0 0 A) (F0 m 21 ls []) := by
    refine lpW (2 ^ (n - 1)) ?_
    intro X bdX ih21 fM hI hX1 H locs hP hD hS ls hl
    refine lv_iload_n hx hb dX9_restOf_21 rfl (lv_at hl 3 rfl) ?_
    refine lv_iconst (v := nI 1) hx hb dX9_restOf_22 (by decide) ?_
    refine lv_iload_n hx hb dX9_restOf_23 rfl (lv_at hl 2 rfl) ?_
    refine lv_ishl hx hb dX9_restOf_24 ?_
    refine eqi (x' := nI (2 ^ (n - 1))) (nI_shl1 (by omega)) ?_
    refine n_icmp_ge (tgt := 133) hx hb dX9_restOf_25 (by decide) (by omega) (by omega) (fun h25 => ?_) (fun h25 => ?_)
    · -- t
      refine lv_aload_n hx hb dX9_restOf_133 rfl (lv_at hl 0 rfl) ?_
      refine b_get (ci := 9) (v := .ref (a 7)) (C := RX9) (T := TX9) (N := 13) hx hb hts (by decide +kernel) hown hK hP 0 rfl rfl 8 (by decide) (hts (.fieldLink RX9 36 "ChanceHallModel" "minor" "[J") (by decide +kernel)) (fun _ h9 => h9) rfl dX9_restOf_134 ?_
      refine lv_iconst (v := nI 1) hx hb dX9_restOf_137 (by decide) ?_
      refine lv_iload_n hx hb dX9_restOf_138 rfl (lv_at hl 2 rfl) ?_
      refine lv_ishl hx hb dX9_restOf_139 ?_
      refine eqi (x' := nI (2 ^ (n - 1))) (nI_shl1 (by omega)) ?_
      refine lv_iconst (v := nI 1) hx hb dX9_restOf_140 (by decide) ?_
      refine lv_isub hx hb dX9_restOf_141 ?_
      refine eqi (x' := nI ((2 ^ (n - 1)) - 1)) (pk_sub (by omega)) ?_
      refine b_lald hx hb hK hP 2 1 rfl rfl (by omega) (by decide) dX9_restOf_142 ?_
      refine eql (x' := mv (EN g k r0) (n - 1) (2 ^ (n - 1) - 1)) (hI _ (by omega)) ?_
      exact r_l hx hb hr hlocks hP hD hS (fM, fwts1_1) rfl (rfl) dX9_restOf_143
    · -- f
      refine lv_iload_n hx hb dX9_restOf_28 rfl (lv_at hl 3 rfl) ?_
      refine ca_i (CL := []) (va_runS (As := [.int (nI X)]) (rest := []) ⟨hx, hb, hml, hown, hts⟩ (c_X9_bits l D cY H.size X (by omega)) (va_cwS 1 hts gX9_restOf_X9_bits rfl rfl rfl (by decide +kernel) ⟨Nat.le_of_ble_eq_true rfl, Nat.le_of_ble_eq_true rfl⟩) (b_preS hVK hP hD [] rfl rfl) rfl rfl hl.1 rfl (lv_room (Nat.le_of_ble_eq_true rfl)) dX9_restOf_29 ⟨Nat.le_refl _, Nat.le_refl _⟩) hP hD hS hA [] rfl rfl (fun _ => rfl) (fun r29 uu H locs hq hP hD hS => ?_)
      subst hq
      have hP : va_P D vwCl ([mO a (nI n) (nI k) th, [(a 1, .inl (cY 0, 72, .inl fto))], [(a 7, .inl (cY 1, 32, .inr (.inl fM)))], [(a 8, .inl (cY 1, 25, .inr (.inl fwts1_1)))]] : List va_W).flatten H := hP
      have hD : va_D A ([mO a (nI n) (nI k) th, [(a 1, .inl (cY 0, 72, .inl fto))], [(a 7, .inl (cY 1, 32, .inr (.inl fM)))], [(a 8, .inl (cY 1, 25, .inr (.inl fwts1_1)))]] : List va_W).flatten := hD
      have hbp := bitsN_pos X (by omega) (by omega)
      have hbm := bitsN_M (n - 1) (by omega) X (by omega) h25
      refine lv_iconst (v := nI 1) hx hb dX9_restOf_32 (by decide) ?_
      refine lv_isub hx hb dX9_restOf_33 ?_
      refine eqi (x' := nI ((bitsN X 6) - 1)) (pk_sub (by omega)) ?_
      refine lv_istore (lv' := [(4, .int (nI ((bitsN X 6) - 1))), (0, .ref (a 0)), (1, .int (nI r0)), (2, .int (nI (n - 1))), (3, .int (nI X))]) hx hb dX9_restOf_34 hl (by decide) rfl (fun ls hl => ?_)
      refine lv_aload_n hx hb dX9_restOf_36 rfl (lv_at hl 1 rfl) ?_
      refine b_get (ci := 9) (v := .ref (a 7)) (C := RX9) (T := TX9) (N := 13) hx hb hts (by decide +kernel) hown hK hP 0 rfl rfl 8 (by decide) (hts (.fieldLink RX9 36 "ChanceHallModel" "minor" "[J") (by decide +kernel)) (fun _ h9 => h9) rfl dX9_restOf_37 ?_
      refine lv_iload_n hx hb dX9_restOf_40 rfl (lv_at hl 4 rfl) ?_
      refine lv_lconst (v := lN 0) hx hb dX9_restOf_41 (by decide) ?_
      refine b_last hx hb hK hP hD hS 2 1 rfl rfl (by omega) (by decide) dX9_restOf_42 (fun H locs hP hD hS => ?_)
      have hP : va_P D vwCl ([mO a (nI n) (nI k) th, [(a 1, .inl (cY 0, 72, .inl fto))], [(a 7, .inl (cY 1, 32, .inr (.inl (vp_updL fM X (lN 0)))))], [(a 8, .inl (cY 1, 25, .inr (.inl fwts1_1)))]] : List va_W).flatten H := hP
      have hD : va_D A ([mO a (nI n) (nI k) th, [(a 1, .inl (cY 0, 72, .inl fto))], [(a 7, .inl (cY 1, 32, .inr (.inl (vp_updL fM X (lN 0)))))], [(a 8, .inl (cY 1, 25, .inr (.inl fwts1_1)))]] : List va_W).flatten := hD
      refine lv_iconst (v := nI 0) hx hb dX9_restOf_43 (by decide) ?_
      refine lv_istore (lv' := [(5, .int (nI 0)), (4, .int (nI ((bitsN X 6) - 1))), (0, .ref (a 0)), (1, .int (nI r0)), (2, .int (nI (n - 1))), (3, .int (nI X))]) hx hb dX9_restOf_44 hl (by decide) rfl (fun ls hl => ?_)
      have L46 : ∀ y : Nat, y ≤ n - 1 → ∀ (fW : Nat → Int64), (NI (EN g k r0) (n - 1) X y fW) → ∀ (H : Heap) (locs : List Loc), va_P D vwCl ([mO a (nI n) (nI k) th, [(a 1, .inl (cY 0, 72, .inl fto))], [(a 7, .inl (cY 1, 32, .inr (.inl fW)))], [(a 8, .inl (cY 1, 25, .inr (.inl fwts1_1)))]] : List va_W).flatten H → va_D A ([mO a (nI n) (nI k) th, [(a 1, .inl (cY 0, 72, .inl fto))], [(a 7, .inl (cY 1, 32, .inr (.inl fW)))], [(a 8, .inl (cY 1, 25, .inr (.inl fwts1_1)))]] : List va_W).flatten → va_S A s.heap H locs → ∀ (ls : Array Slot), lv_has ls 8 [(0, .ref (a 0)), (1, .int (nI r0)), (2, .int (nI (n - 1))), (3, .int (nI X)), (4, .int (nI ((bitsN X 6) - 1))), (5, .int (nI y))] → W p l e ({ frames := 3, cells := 0, slots := 0, locals := 120 }) s m ([.ref (a 0), .int (nI r0)] : List Value).toArray below meth c H locs 0 0 (MQ below (qL (S := (Nat → Int64) × (Nat → Int64)) D cY (fun r u => r = RV g n k r0) (fun u => [mO a (nI n) (nI k) th, [(a 1, .inl (cY 0, 72, .inl fto))], [(a 7, .inl (cY 1, 32, .inr (.inl u.1)))], [(a 8, .inl (cY 1, 25, .inr (.inl u.2)))]]) A) ([.ref (a 0), .int (nI r0)] : List Value).toArray s 0 0 A) (F0 m 46 ls []) := by
        refine lpW (n - 1) ?_
        intro y bdy ih46 fW hJ H locs hP hD hS ls hl
        refine lv_iload hx hb dX9_restOf_46 (lv_at hl 5 rfl) ?_
        refine lv_iload_n hx hb dX9_restOf_48 rfl (lv_at hl 2 rfl) ?_
        refine n_icmp_ge (tgt := 127) hx hb dX9_restOf_49 (by decide) (by omega) (by omega) (fun h49 => ?_) (fun h49 => ?_)
        · -- t
          refine lv_iinc (v := nI (X + 1)) (lv' := [(3, .int (nI (X + 1))), (0, .ref (a 0)), (1, .int (nI r0)), (2, .int (nI (n - 1))), (4, .int (nI ((bitsN X 6) - 1))), (5, .int (nI y))]) hx hb dX9_restOf_127 hl (k := 3) rfl (nI_1 X) (by decide) rfl (fun ls hl => ?_)
          refine lv_goto (tgt := 21) hx hb dX9_restOf_130 (by decide) ?_
          exact ih21 (by omega) fW (NI_e (by (have e : y = n - 1 := by omega); rw [← e]; rw [← e] at hJ; exact hJ) (by omega) (by omega) (by omega)) (by omega) _ _ hP hD hS _ (lv_sub hl [1, 2, 3, 0] rfl)
        · -- f
          refine lv_iload_n hx hb dX9_restOf_52 rfl (lv_at hl 3 rfl) ?_
          refine lv_iload hx hb dX9_restOf_53 (lv_at hl 5 rfl) ?_
          refine lv_ishr hx hb dX9_restOf_55 ?_
          refine eqi (x' := nI (X / 2 ^ y)) (nI_shr (by omega) (by omega)) ?_
          have hxd : X / 2 ^ y ≤ X := Nat.div_le_self _ _
          refine lv_iconst (v := nI 1) hx hb dX9_restOf_56 (by decide) ?_
          refine lv_iand hx hb dX9_restOf_57 ?_
          refine eqi (x' := nI ((X / 2 ^ y) &&& 1)) (nI_and _ _) ?_
          refine eqi (x' := nI (X / 2 ^ y % 2)) (congrArg nI (Nat.and_one_is_mod _)) ?_
          refine lv_iconst (v := nI 1) hx hb dX9_restOf_58 (by decide) ?_
          refine n_icmp_ne (tgt := 121) hx hb dX9_restOf_59 (by decide) (by omega) (by omega) (fun h59 => ?_) (fun h59 => ?_)
          · -- t
            refine lv_iinc (v := nI (y + 1)) (lv' := [(5, .int (nI (y + 1))), (0, .ref (a 0)), (1, .int (nI r0)), (2, .int (nI (n - 1))), (3, .int (nI X)), (4, .int (nI ((bitsN X 6) - 1)))]) hx hb dX9_restOf_121 hl (k := 5) rfl (nI_1 y) (by decide) rfl (fun ls hl => ?_)
            refine lv_goto (tgt := 46) hx hb dX9_restOf_124 (by decide) ?_
            exact ih46 (by omega) fW (by first | exact NI_n hJ h59 | exact NI_s hJ (mtm_p h59 h108 hbyE) | exact NI_s hJ (mtm_n h59 h108 hbyE)) _ _ hP hD hS _ (lv_sub hl [1, 2, 3, 4, 5, 0] rfl)
          · -- f
            refine lv_aload_n hx hb dX9_restOf_62 rfl (lv_at hl 0 rfl) ?_
            refine b_get (ci := 9) (v := .ref (a 8)) (C := RX9) (T := TX9) (N := 13) hx hb hts (by decide +kernel) hown hK hP 0 rfl rfl 9 (by decide) (hts (.fieldLink RX9 39 "ChanceHallModel" "weights" "[J") (by decide +kernel)) (fun _ h9 => h9) rfl dX9_restOf_63 ?_
            refine lv_iconst (v := nI 5) hx hb dX9_restOf_66 (by decide) ?_
            refine lv_iload hx hb dX9_restOf_67 (lv_at hl 4 rfl) ?_
            refine lv_imul hx hb dX9_restOf_69 ?_
            refine eqi (x' := nI (5 * ((bitsN X 6) - 1))) (pk_mul _ _) ?_
            refine lv_iload hx hb dX9_restOf_70 (lv_at hl 5 rfl) ?_
            refine lv_iadd hx hb dX9_restOf_72 ?_
            refine eqi (x' := nI (5 * ((bitsN X 6) - 1) + y)) (nI_add _ _) ?_
            refine b_lald hx hb hK hP 3 1 rfl rfl (by omega) (by decide) dX9_restOf_73 ?_
            refine eql (x' := EN g k r0 (bitsN X 6 - 1) y) (q9 _ _ (by omega) (by omega)) ?_
            refine lv_aload_n hx hb dX9_restOf_74 rfl (lv_at hl 0 rfl) ?_
            refine b_get (ci := 9) (v := .ref (a 7)) (C := RX9) (T := TX9) (N := 13) hx hb hts (by decide +kernel) hown hK hP 0 rfl rfl 8 (by decide) (hts (.fieldLink RX9 36 "ChanceHallModel" "minor" "[J") (by decide +kernel)) (fun _ h9 => h9) rfl dX9_restOf_75 ?_
            refine lv_iload_n hx hb dX9_restOf_78 rfl (lv_at hl 3 rfl) ?_
            refine lv_iconst (v := nI 1) hx hb dX9_restOf_79 (by decide) ?_
            refine lv_iload hx hb dX9_restOf_80 (lv_at hl 5 rfl) ?_
            refine lv_ishl hx hb dX9_restOf_82 ?_
            refine eqi (x' := nI (2 ^ y)) (nI_shl1 (by omega)) ?_
            refine lv_iconst (v := (-1)) hx hb dX9_restOf_83 (by decide) ?_
            refine lv_ixor hx hb dX9_restOf_84 ?_
            refine lv_iand hx hb dX9_restOf_85 ?_
            refine eqi (x' := nI (X - 2 ^ y)) (clr_b y (by omega) X (by omega) h59) ?_
            have hcl := clr_le y (by omega) X (by omega) h59
            have h2y : 0 < 2 ^ y := Nat.two_pow_pos y
            refine b_lald hx hb hK hP 2 1 rfl rfl (by omega) (by decide) dX9_restOf_86 ?_
            refine eql (x' := mv (EN g k r0) (n - 1) (X - 2 ^ y)) (hJ.1 _ (by omega)) ?_
            refine lv_lmul hx hb dX9_restOf_87 ?_
            have hbyE : EN g k r0 (bitsN X 6 - 1) y * mv (EN g k r0) (n - 1) (X - 2 ^ y) = EN g k r0 (bitsN X 6 - 1) y * mv (EN g k r0) (n - 1) (X - 2 ^ y) := rfl
            refine lv_lstore (lv' := [(6, .long ((EN g k r0 (bitsN X 6 - 1) y) * (mv (EN g k r0) (n - 1) (X - 2 ^ y)))), (0, .ref (a 0)), (1, .int (nI r0)), (2, .int (nI (n - 1))), (3, .int (nI X)), (4, .int (nI ((bitsN X 6) - 1))), (5, .int (nI y))]) hx hb dX9_restOf_88 hl (by decide) rfl (fun ls hl => ?_)
            refine lv_aload_n hx hb dX9_restOf_90 rfl (lv_at hl 1 rfl) ?_
            refine b_get (ci := 9) (v := .ref (a 7)) (C := RX9) (T := TX9) (N := 13) hx hb hts (by decide +kernel) hown hK hP 0 rfl rfl 8 (by decide) (hts (.fieldLink RX9 36 "ChanceHallModel" "minor" "[J") (by decide +kernel)) (fun _ h9 => h9) rfl dX9_restOf_91 ?_
            refine lv_iload_n hx hb dX9_restOf_94 rfl (lv_at hl 4 rfl) ?_
            refine lv_dup2_11 hx hb dX9_restOf_95 rfl rfl ?_
            refine b_lald hx hb hK hP 2 1 rfl rfl (by omega) (by decide) dX9_restOf_96 ?_
            refine lv_iload_n hx hb dX9_restOf_97 rfl (lv_at hl 4 rfl) ?_
            refine lv_iload hx hb dX9_restOf_98 (lv_at hl 6 rfl) ?_
            refine lv_iconst (v := nI 1) hx hb dX9_restOf_100 (by decide) ?_
            refine lv_iadd hx hb dX9_restOf_101 ?_
            refine eqi (x' := nI (y + 1)) (nI_add _ _) ?_
            refine lv_ishr hx hb dX9_restOf_102 ?_
            refine eqi (x' := nI (X / 2 ^ (y + 1))) (nI_shr (by omega) (by omega)) ?_
            have hxe : X / 2 ^ (y + 1) ≤ X := Nat.div_le_self _ _
            refine ca_i (CL := []) (va_runS (As := [.int (nI (X / 2 ^ (y + 1)))]) (rest := [.long (fW X), .int (nI X), .ref (a 7)]) ⟨hx, hb, hml, hown, hts⟩ (c_X9_bits l D cY H.size (X / 2 ^ (y + 1)) (by omega)) (va_cwS 1 hts gX9_restOf_X9_bits rfl rfl rfl (by decide +kernel) ⟨Nat.le_of_ble_eq_true rfl, Nat.le_of_ble_eq_true rfl⟩) (b_preS hVK hP hD [] rfl rfl) rfl rfl hl.1 rfl (lv_room (Nat.le_of_ble_eq_true rfl)) dX9_restOf_103 ⟨Nat.le_refl _, Nat.le_refl _⟩) hP hD hS hA [] rfl rfl (fun _ => rfl) (fun r103 uu H locs hq hP hD hS => ?_)
            subst hq
            have hP : va_P D vwCl ([mO a (nI n) (nI k) th, [(a 1, .inl (cY 0, 72, .inl fto))], [(a 7, .inl (cY 1, 32, .inr (.inl fW)))], [(a 8, .inl (cY 1, 25, .inr (.inl fwts1_1)))]] : List va_W).flatten H := hP
            have hD : va_D A ([mO a (nI n) (nI k) th, [(a 1, .inl (cY 0, 72, .inl fto))], [(a 7, .inl (cY 1, 32, .inr (.inl fW)))], [(a 8, .inl (cY 1, 25, .inr (.inl fwts1_1)))]] : List va_W).flatten := hD
            have hbe := bitsN_le (X / 2 ^ (y + 1)) 6
            refine lv_iconst (v := nI 2) hx hb dX9_restOf_106 (by decide) ?_
            refine lv_irem hx hb dX9_restOf_107 (nI_ne0 (by omega) (by omega)) ?_
            refine eqi (x' := nI ((bitsN (X / 2 ^ (y + 1)) 6) % 2)) (pk_rem (by omega) (by omega) (by omega)) ?_
            refine n_if_ne (tgt := 116) hx hb dX9_restOf_108 (by decide) (by omega) (fun h108 => ?_) (fun h108 => ?_)
            · -- t
              refine lv_lload hx hb dX9_restOf_116 (lv_at hl 0 rfl) ?_
              refine lv_lneg hx hb dX9_restOf_118 ?_
              refine lv_ladd hx hb dX9_restOf_119 ?_
              refine b_last hx hb hK hP hD hS 2 1 rfl rfl (by omega) (by decide) dX9_restOf_120 (fun H locs hP hD hS => ?_)
              have hP : va_P D vwCl ([mO a (nI n) (nI k) th, [(a 1, .inl (cY 0, 72, .inl fto))], [(a 7, .inl (cY 1, 32, .inr (.inl (vp_updL fW X ((fW X) + (-((EN g k r0 (bitsN X 6 - 1) y) * (mv (EN g k r0) (n - 1) (X - 2 ^ y)))))))))], [(a 8, .inl (cY 1, 25, .inr (.inl fwts1_1)))]] : List va_W).flatten H := hP
              have hD : va_D A ([mO a (nI n) (nI k) th, [(a 1, .inl (cY 0, 72, .inl fto))], [(a 7, .inl (cY 1, 32, .inr (.inl (vp_updL fW X ((fW X) + (-((EN g k r0 (bitsN X 6 - 1) y) * (mv (EN g k r0) (n - 1) (X - 2 ^ y)))))))))], [(a 8, .inl (cY 1, 25, .inr (.inl fwts1_1)))]] : List va_W).flatten := hD
              refine lv_iinc (v := nI (y + 1)) (lv' := [(5, .int (nI (y + 1))), (6, .long ((EN g k r0 (bitsN X 6 - 1) y) * (mv (EN g k r0) (n - 1) (X - 2 ^ y)))), (0, .ref (a 0)), (1, .int (nI r0)), (2, .int (nI (n - 1))), (3, .int (nI X)), (4, .int (nI ((bitsN X 6) - 1)))]) hx hb dX9_restOf_121 hl (k := 6) rfl (nI_1 y) (by decide) rfl (fun ls hl => ?_)
              refine lv_goto (tgt := 46) hx hb dX9_restOf_124 (by decide) ?_
              exact ih46 (by omega) (vp_updL fW X ((fW X) + (-((EN g k r0 (bitsN X 6 - 1) y) * (mv (EN g k r0) (n - 1) (X - 2 ^ y)))))) (by first | exact NI_n hJ h59 | exact NI_s hJ (mtm_p h59 h108 hbyE) | exact NI_s hJ (mtm_n h59 h108 hbyE)) _ _ hP hD hS _ (lv_sub hl [2, 3, 4, 5, 6, 0] rfl)
            · -- f
              refine lv_lload hx hb dX9_restOf_111 (lv_at hl 0 rfl) ?_
              refine lv_goto (tgt := 119) hx hb dX9_restOf_113 (by decide) ?_
              refine lv_ladd hx hb dX9_restOf_119 ?_
              refine b_last hx hb hK hP hD hS 2 1 rfl rfl (by omega) (by decide) dX9_restOf_120 (fun H locs hP hD hS => ?_)
              have hP : va_P D vwCl ([mO a (nI n) (nI k) th, [(a 1, .inl (cY 0, 72, .inl fto))], [(a 7, .inl (cY 1, 32, .inr (.inl (vp_updL fW X ((fW X) + ((EN g k r0 (bitsN X 6 - 1) y) * (mv (EN g k r0) (n - 1) (X - 2 ^ y))))))))], [(a 8, .inl (cY 1, 25, .inr (.inl fwts1_1)))]] : List va_W).flatten H := hP
              have hD : va_D A ([mO a (nI n) (nI k) th, [(a 1, .inl (cY 0, 72, .inl fto))], [(a 7, .inl (cY 1, 32, .inr (.inl (vp_updL fW X ((fW X) + ((EN g k r0 (bitsN X 6 - 1) y) * (mv (EN g k r0) (n - 1) (X - 2 ^ y))))))))], [(a 8, .inl (cY 1, 25, .inr (.inl fwts1_1)))]] : List va_W).flatten := hD
              refine lv_iinc (v := nI (y + 1)) (lv' := [(5, .int (nI (y + 1))), (6, .long ((EN g k r0 (bitsN X 6 - 1) y) * (mv (EN g k r0) (n - 1) (X - 2 ^ y)))), (0, .ref (a 0)), (1, .int (nI r0)), (2, .int (nI (n - 1))), (3, .int (nI X)), (4, .int (nI ((bitsN X 6) - 1)))]) hx hb dX9_restOf_121 hl (k := 6) rfl (nI_1 y) (by decide) rfl (fun ls hl => ?_)
              refine lv_goto (tgt := 46) hx hb dX9_restOf_124 (by decide) ?_
              exact ih46 (by omega) (vp_updL fW X ((fW X) + ((EN g k r0 (bitsN X 6 - 1) y) * (mv (EN g k r0) (n - 1) (X - 2 ^ y))))) (by first | exact NI_n hJ h59 | exact NI_s hJ (mtm_p h59 h108 hbyE) | exact NI_s hJ (mtm_n h59 h108 hbyE)) _ _ hP hD hS _ (lv_sub hl [2, 3, 4, 5, 6, 0] rfl)
      exact L46 0 (by omega) (vp_updL fM X (lN 0)) (NI_0 hI) _ _ hP hD hS _ (lv_sub hl [2, 3, 4, 5, 1, 0] rfl)
  exact L21 1 (by omega) (vp_updL fmnr 0 (lN 1)) MI_1 (by omega) _ _ hP hD hS _ (lv_sub hl [2, 3, 1, 0] rfl)

set_option maxHeartbeats 4000000 in
set_option maxRecDepth 100000 in
theorem c_X9_wholeRest (l : Launch) (D : va_G) (cY : Nat → ClassId) (sz : Nat) (a : Nat → Nat) (n : Nat) (k : Nat) (th : Int32) (fto : Nat → Int32) (fmnr : Nat → Int64) (fwts : Nat → Int64) (g : Nat → Nat → Nat) (hn1 : 1 ≤ n) (hn6 : n ≤ 6) (hk1 : 1 ≤ k) (hk12 : k ≤ 12) (hG : ∀ i j, i < n → j < k → fto (12 * i + j) = nI (g i j)) (hgn : ∀ i j, i < n → j < k → g i j < n) : Met l yX9_wholeRest wsX9_wholeRest ({ frames := 4, cells := 0, slots := 0, locals := 160 }) (cP D cY [.ref (a 0)] [mO a (nI n) (nI k) th, [(a 1, .inl (cY 0, 72, .inl fto))], [(a 7, .inl (cY 1, 32, .inr (.inl fmnr)))], [(a 8, .inl (cY 1, 25, .inr (.inl fwts)))]] sz) (qL (S := (Nat → Int64) × (Nat → Int64)) D cY (fun r u => r = WR g n k) (fun u => [mO a (nI n) (nI k) th, [(a 1, .inl (cY 0, 72, .inl fto))], [(a 7, .inl (cY 1, 32, .inr (.inl u.1)))], [(a 8, .inl (cY 1, 25, .inr (.inl u.2)))]]) (va_A ([mO a (nI n) (nI k) th, [(a 1, .inl (cY 0, 72, .inl fto))], [(a 7, .inl (cY 1, 32, .inr (.inl fmnr)))], [(a 8, .inl (cY 1, 25, .inr (.inl fwts)))]] : List va_W).flatten sz)) 0 0 (va_A ([mO a (nI n) (nI k) th, [(a 1, .inl (cY 0, 72, .inl fto))], [(a 7, .inl (cY 1, 32, .inr (.inl fmnr)))], [(a 8, .inl (cY 1, 25, .inr (.inl fwts)))]] : List va_W).flatten sz) := by
  refine mtB (Qc := fun A => qL (S := (Nat → Int64) × (Nat → Int64)) D cY (fun r u => r = WR g n k) (fun u => [mO a (nI n) (nI k) th, [(a 1, .inl (cY 0, 72, .inl fto))], [(a 7, .inl (cY 1, 32, .inr (.inl u.1)))], [(a 8, .inl (cY 1, 25, .inr (.inl u.2)))]]) A) (cc := cX9_wholeRest) (maxL := 4) (ret := (some .long)) (by decide) rfl (Nat.le_of_ble_eq_true rfl) ?_
  intro p e s m below meth c A ls hx hb hr hml hts hown hlocks hnm hsz hP hK hVK hD hS hA hl
  have hown : s.vm.findClass RX9 = some m.cls := hown
  have hl : lv_has ls 4 [(0, .ref (a 0))] := hl
  have hP : va_P D vwCl ([mO a (nI n) (nI k) th, [(a 1, .inl (cY 0, 72, .inl fto))], [(a 7, .inl (cY 1, 32, .inr (.inl fmnr)))], [(a 8, .inl (cY 1, 25, .inr (.inl fwts)))]] : List va_W).flatten s.heap := hP
  have hD : va_D A ([mO a (nI n) (nI k) th, [(a 1, .inl (cY 0, 72, .inl fto))], [(a 7, .inl (cY 1, 32, .inr (.inl fmnr)))], [(a 8, .inl (cY 1, 25, .inr (.inl fwts)))]] : List va_W).flatten := hD
  refine lv_lconst (v := lN 0) hx hb dX9_wholeRest_0 (by decide) ?_
  refine lv_lstore_n (lv' := [(1, .long (lN 0)), (0, .ref (a 0))]) hx hb dX9_wholeRest_1 rfl hl (by decide) rfl (fun ls hl => ?_)
  refine lv_iconst (v := nI 0) hx hb dX9_wholeRest_2 (by decide) ?_
  refine lv_istore_n (lv' := [(3, .int (nI 0)), (1, .long (lN 0)), (0, .ref (a 0))]) hx hb dX9_wholeRest_3 rfl hl (by decide) rfl (fun ls hl => ?_)
  have L4 : ∀ q : Nat, q ≤ n → ∀ (fM : Nat → Int64) (fW : Nat → Int64), ∀ (H : Heap) (locs : List Loc), va_P D vwCl ([mO a (nI n) (nI k) th, [(a 1, .inl (cY 0, 72, .inl fto))], [(a 7, .inl (cY 1, 32, .inr (.inl fM)))], [(a 8, .inl (cY 1, 25, .inr (.inl fW)))]] : List va_W).flatten H → va_D A ([mO a (nI n) (nI k) th, [(a 1, .inl (cY 0, 72, .inl fto))], [(a 7, .inl (cY 1, 32, .inr (.inl fM)))], [(a 8, .inl (cY 1, 25, .inr (.inl fW)))]] : List va_W).flatten → va_S A s.heap H locs → ∀ (ls : Array Slot), lv_has ls 4 [(0, .ref (a 0)), (1, .long (sumL (RV g n k) q)), (3, .int (nI q))] → W p l e ({ frames := 4, cells := 0, slots := 0, locals := 160 }) s m ([.ref (a 0)] : List Value).toArray below meth c H locs 0 0 (MQ below (qL (S := (Nat → Int64) × (Nat → Int64)) D cY (fun r u => r = WR g n k) (fun u => [mO a (nI n) (nI k) th, [(a 1, .inl (cY 0, 72, .inl fto))], [(a 7, .inl (cY 1, 32, .inr (.inl u.1)))], [(a 8, .inl (cY 1, 25, .inr (.inl u.2)))]]) A) ([.ref (a 0)] : List Value).toArray s 0 0 A) (F0 m 4 ls []) := by
    refine lpW n ?_
    intro q bdq ih4 fM fW  H locs hP hD hS ls hl
    refine lv_iload_n hx hb dX9_wholeRest_4 rfl (lv_at hl 2 rfl) ?_
    refine lv_aload_n hx hb dX9_wholeRest_5 rfl (lv_at hl 0 rfl) ?_
    refine b_get (ci := 9) (v := .int (nI n)) (C := RX9) (T := TX9) (N := 13) hx hb hts (by decide +kernel) hown hK hP 0 rfl rfl 0 (by decide) (hts (.fieldLink RX9 7 "ChanceHallModel" "states" "I") (by decide +kernel)) (fun _ h9 => h9) rfl dX9_wholeRest_6 ?_
    refine n_icmp_ge (tgt := 26) hx hb dX9_wholeRest_9 (by decide) (by omega) (by omega) (fun h9 => ?_) (fun h9 => ?_)
    · -- t
      refine lv_lload_n hx hb dX9_wholeRest_26 rfl (lv_at hl 1 rfl) ?_
      exact r_l hx hb hr hlocks hP hD hS (fM, fW) rfl (by (have e : q = n := by omega); subst e; rfl) dX9_wholeRest_27
    · -- f
      refine lv_lload_n hx hb dX9_wholeRest_12 rfl (lv_at hl 1 rfl) ?_
      refine lv_aload_n hx hb dX9_wholeRest_13 rfl (lv_at hl 0 rfl) ?_
      refine lv_iload_n hx hb dX9_wholeRest_14 rfl (lv_at hl 2 rfl) ?_
      refine ca_l (CL := [mO a (nI n) (nI k) th, [(a 1, .inl (cY 0, 72, .inl fto))], [(a 7, .inl (cY 1, 32, .inr (.inl fM)))], [(a 8, .inl (cY 1, 25, .inr (.inl fW)))]]) (va_runV (As := [.int (nI q)]) (rest := [.long (sumL (RV g n k) q)]) ⟨hx, hb, hml, hown, hts⟩ (c_X9_restOf l D cY H.size a n k th fto fM fW g q (by omega) (by omega) (by omega) (by omega) hG hgn (by omega)) (cwV 1 hts gX9_wholeRest_X9_restOf rfl rfl rfl (by decide +kernel) ⟨Nat.le_of_ble_eq_true rfl, Nat.le_of_ble_eq_true rfl⟩) (b_preV hVK hP hD [0, 1, 2, 3] rfl rfl 0 rfl rfl) rfl rfl hl.1 rfl (lv_room (Nat.le_of_ble_eq_true rfl)) dX9_wholeRest_15 ⟨Nat.le_refl _, Nat.le_refl _⟩) hP hD hS hA [0, 1, 2, 3] rfl rfl (fun _ => rfl) (fun r15 uu H locs hq hP hD hS => ?_)
      obtain ⟨fmnr1_1, fwts1_2⟩ := uu
      try dsimp only at hq
      subst hq
      have hP : va_P D vwCl ([mO a (nI n) (nI k) th, [(a 1, .inl (cY 0, 72, .inl fto))], [(a 7, .inl (cY 1, 32, .inr (.inl fmnr1_1)))], [(a 8, .inl (cY 1, 25, .inr (.inl fwts1_2)))]] : List va_W).flatten H := hP
      have hD : va_D A ([mO a (nI n) (nI k) th, [(a 1, .inl (cY 0, 72, .inl fto))], [(a 7, .inl (cY 1, 32, .inr (.inl fmnr1_1)))], [(a 8, .inl (cY 1, 25, .inr (.inl fwts1_2)))]] : List va_W).flatten := hD
      refine lv_ladd hx hb dX9_wholeRest_18 ?_
      refine lv_lstore_n (lv' := [(1, .long ((sumL (RV g n k) q) + (RV g n k q))), (0, .ref (a 0)), (3, .int (nI q))]) hx hb dX9_wholeRest_19 rfl hl (by decide) rfl (fun ls hl => ?_)
      refine lv_iinc (v := nI (q + 1)) (lv' := [(3, .int (nI (q + 1))), (1, .long ((sumL (RV g n k) q) + (RV g n k q))), (0, .ref (a 0))]) hx hb dX9_wholeRest_20 hl (k := 2) rfl (nI_1 q) (by decide) rfl (fun ls hl => ?_)
      refine lv_goto (tgt := 4) hx hb dX9_wholeRest_23 (by decide) ?_
      exact ih4 (by omega) fmnr1_1 fwts1_2  _ _ hP hD hS _ (lv_sub hl [2, 1, 0] rfl)
  exact L4 0 (by omega) fmnr fwts  _ _ hP hD hS _ (lv_sub hl [2, 1, 0] rfl)

set_option maxHeartbeats 4000000 in
set_option maxRecDepth 100000 in
theorem c_X9_placeOf (l : Launch) (D : va_G) (cY : Nat → ClassId) (sz : Nat) (a : Nat → Nat) (n : Nat) (k : Nat) (th : Int32) (fto : Nat → Int32) (fmnr : Nat → Int64) (fwts : Nat → Int64) (g : Nat → Nat → Nat) (i : Nat) (hn1 : 1 ≤ n) (hn6 : n ≤ 6) (hk1 : 1 ≤ k) (hk12 : k ≤ 12) (hG : ∀ i j, i < n → j < k → fto (12 * i + j) = nI (g i j)) (hgn : ∀ i j, i < n → j < k → g i j < n) (hi : i < n) : Met l yX9_placeOf wsX9_placeOf ({ frames := 4, cells := 0, slots := 0, locals := 160 }) (cP D cY [.ref (a 0), .int (nI i)] [mO a (nI n) (nI k) th, [(a 1, .inl (cY 0, 72, .inl fto))], [(a 7, .inl (cY 1, 32, .inr (.inl fmnr)))], [(a 8, .inl (cY 1, 25, .inr (.inl fwts)))]] sz) (qI (S := (Nat → Int64) × (Nat → Int64)) D cY (fun r u => r = nI (plc (RV g n k) i n)) (fun u => [mO a (nI n) (nI k) th, [(a 1, .inl (cY 0, 72, .inl fto))], [(a 7, .inl (cY 1, 32, .inr (.inl u.1)))], [(a 8, .inl (cY 1, 25, .inr (.inl u.2)))]]) (va_A ([mO a (nI n) (nI k) th, [(a 1, .inl (cY 0, 72, .inl fto))], [(a 7, .inl (cY 1, 32, .inr (.inl fmnr)))], [(a 8, .inl (cY 1, 25, .inr (.inl fwts)))]] : List va_W).flatten sz)) 0 0 (va_A ([mO a (nI n) (nI k) th, [(a 1, .inl (cY 0, 72, .inl fto))], [(a 7, .inl (cY 1, 32, .inr (.inl fmnr)))], [(a 8, .inl (cY 1, 25, .inr (.inl fwts)))]] : List va_W).flatten sz) := by
  refine mtB (Qc := fun A => qI (S := (Nat → Int64) × (Nat → Int64)) D cY (fun r u => r = nI (plc (RV g n k) i n)) (fun u => [mO a (nI n) (nI k) th, [(a 1, .inl (cY 0, 72, .inl fto))], [(a 7, .inl (cY 1, 32, .inr (.inl u.1)))], [(a 8, .inl (cY 1, 25, .inr (.inl u.2)))]]) A) (cc := cX9_placeOf) (maxL := 8) (ret := (some .int)) (by decide) rfl (Nat.le_of_ble_eq_true rfl) ?_
  intro p e s m below meth c A ls hx hb hr hml hts hown hlocks hnm hsz hP hK hVK hD hS hA hl
  have hown : s.vm.findClass RX9 = some m.cls := hown
  have hl : lv_has ls 8 [(0, .ref (a 0)), (1, .int (nI i))] := hl
  have hP : va_P D vwCl ([mO a (nI n) (nI k) th, [(a 1, .inl (cY 0, 72, .inl fto))], [(a 7, .inl (cY 1, 32, .inr (.inl fmnr)))], [(a 8, .inl (cY 1, 25, .inr (.inl fwts)))]] : List va_W).flatten s.heap := hP
  have hD : va_D A ([mO a (nI n) (nI k) th, [(a 1, .inl (cY 0, 72, .inl fto))], [(a 7, .inl (cY 1, 32, .inr (.inl fmnr)))], [(a 8, .inl (cY 1, 25, .inr (.inl fwts)))]] : List va_W).flatten := hD
  refine lv_iconst (v := nI 0) hx hb dX9_placeOf_0 (by decide) ?_
  refine lv_istore_n (lv' := [(2, .int (nI 0)), (0, .ref (a 0)), (1, .int (nI i))]) hx hb dX9_placeOf_1 rfl hl (by decide) rfl (fun ls hl => ?_)
  refine lv_aload_n hx hb dX9_placeOf_2 rfl (lv_at hl 1 rfl) ?_
  refine lv_iload_n hx hb dX9_placeOf_3 rfl (lv_at hl 2 rfl) ?_
  refine ca_l (CL := [mO a (nI n) (nI k) th, [(a 1, .inl (cY 0, 72, .inl fto))], [(a 7, .inl (cY 1, 32, .inr (.inl fmnr)))], [(a 8, .inl (cY 1, 25, .inr (.inl fwts)))]]) (va_runV (As := [.int (nI i)]) (rest := []) ⟨hx, hb, hml, hown, hts⟩ (c_X9_restOf l D cY s.heap.size a n k th fto fmnr fwts g i (by omega) (by omega) (by omega) (by omega) hG hgn (by omega)) (cwV 1 hts gX9_placeOf_X9_restOf rfl rfl rfl (by decide +kernel) ⟨Nat.le_of_ble_eq_true rfl, Nat.le_of_ble_eq_true rfl⟩) (b_preV hVK hP hD [0, 1, 2, 3] rfl rfl 0 rfl rfl) rfl rfl hl.1 rfl (lv_room (Nat.le_of_ble_eq_true rfl)) dX9_placeOf_4 ⟨Nat.le_refl _, Nat.le_refl _⟩) hP hD hS hA [0, 1, 2, 3] rfl rfl (fun _ => rfl) (fun r4 uu H locs hq hP hD hS => ?_)
  obtain ⟨fmnr1_1, fwts1_2⟩ := uu
  try dsimp only at hq
  subst hq
  have hP : va_P D vwCl ([mO a (nI n) (nI k) th, [(a 1, .inl (cY 0, 72, .inl fto))], [(a 7, .inl (cY 1, 32, .inr (.inl fmnr1_1)))], [(a 8, .inl (cY 1, 25, .inr (.inl fwts1_2)))]] : List va_W).flatten H := hP
  have hD : va_D A ([mO a (nI n) (nI k) th, [(a 1, .inl (cY 0, 72, .inl fto))], [(a 7, .inl (cY 1, 32, .inr (.inl fmnr1_1)))], [(a 8, .inl (cY 1, 25, .inr (.inl fwts1_2)))]] : List va_W).flatten := hD
  refine lv_lstore_n (lv' := [(3, .long (RV g n k i)), (2, .int (nI 0)), (0, .ref (a 0)), (1, .int (nI i))]) hx hb dX9_placeOf_7 rfl hl (by decide) rfl (fun ls hl => ?_)
  refine lv_iconst (v := nI 0) hx hb dX9_placeOf_8 (by decide) ?_
  refine lv_istore (lv' := [(5, .int (nI 0)), (3, .long (RV g n k i)), (2, .int (nI 0)), (0, .ref (a 0)), (1, .int (nI i))]) hx hb dX9_placeOf_9 hl (by decide) rfl (fun ls hl => ?_)
  have L11 : ∀ q : Nat, q ≤ n → ∀ (fM : Nat → Int64) (fW : Nat → Int64), ∀ (H : Heap) (locs : List Loc), va_P D vwCl ([mO a (nI n) (nI k) th, [(a 1, .inl (cY 0, 72, .inl fto))], [(a 7, .inl (cY 1, 32, .inr (.inl fM)))], [(a 8, .inl (cY 1, 25, .inr (.inl fW)))]] : List va_W).flatten H → va_D A ([mO a (nI n) (nI k) th, [(a 1, .inl (cY 0, 72, .inl fto))], [(a 7, .inl (cY 1, 32, .inr (.inl fM)))], [(a 8, .inl (cY 1, 25, .inr (.inl fW)))]] : List va_W).flatten → va_S A s.heap H locs → ∀ (ls : Array Slot), lv_has ls 8 [(0, .ref (a 0)), (1, .int (nI i)), (2, .int (nI (plc (RV g n k) i q))), (3, .long (RV g n k i)), (5, .int (nI q))] → W p l e ({ frames := 4, cells := 0, slots := 0, locals := 160 }) s m ([.ref (a 0), .int (nI i)] : List Value).toArray below meth c H locs 0 0 (MQ below (qI (S := (Nat → Int64) × (Nat → Int64)) D cY (fun r u => r = nI (plc (RV g n k) i n)) (fun u => [mO a (nI n) (nI k) th, [(a 1, .inl (cY 0, 72, .inl fto))], [(a 7, .inl (cY 1, 32, .inr (.inl u.1)))], [(a 8, .inl (cY 1, 25, .inr (.inl u.2)))]]) A) ([.ref (a 0), .int (nI i)] : List Value).toArray s 0 0 A) (F0 m 11 ls []) := by
    refine lpW n ?_
    intro q bdq ih11 fM fW  H locs hP hD hS ls hl
    refine lv_iload hx hb dX9_placeOf_11 (lv_at hl 4 rfl) ?_
    refine lv_aload_n hx hb dX9_placeOf_13 rfl (lv_at hl 0 rfl) ?_
    refine b_get (ci := 9) (v := .int (nI n)) (C := RX9) (T := TX9) (N := 13) hx hb hts (by decide +kernel) hown hK hP 0 rfl rfl 0 (by decide) (hts (.fieldLink RX9 7 "ChanceHallModel" "states" "I") (by decide +kernel)) (fun _ h9 => h9) rfl dX9_placeOf_14 ?_
    refine n_icmp_ge (tgt := 62) hx hb dX9_placeOf_17 (by decide) (by omega) (by omega) (fun h17 => ?_) (fun h17 => ?_)
    · -- t
      refine lv_iload_n hx hb dX9_placeOf_62 rfl (lv_at hl 2 rfl) ?_
      exact r_i hx hb hr hlocks hP hD hS (fM, fW) rfl (by (have e : q = n := by omega); subst e; rfl) dX9_placeOf_63
    · -- f
      refine lv_aload_n hx hb dX9_placeOf_20 rfl (lv_at hl 0 rfl) ?_
      refine lv_iload hx hb dX9_placeOf_21 (lv_at hl 4 rfl) ?_
      refine ca_l (CL := [mO a (nI n) (nI k) th, [(a 1, .inl (cY 0, 72, .inl fto))], [(a 7, .inl (cY 1, 32, .inr (.inl fM)))], [(a 8, .inl (cY 1, 25, .inr (.inl fW)))]]) (va_runV (As := [.int (nI q)]) (rest := []) ⟨hx, hb, hml, hown, hts⟩ (c_X9_restOf l D cY H.size a n k th fto fM fW g q (by omega) (by omega) (by omega) (by omega) hG hgn (by omega)) (cwV 1 hts gX9_placeOf_X9_restOf rfl rfl rfl (by decide +kernel) ⟨Nat.le_of_ble_eq_true rfl, Nat.le_of_ble_eq_true rfl⟩) (b_preV hVK hP hD [0, 1, 2, 3] rfl rfl 0 rfl rfl) rfl rfl hl.1 rfl (lv_room (Nat.le_of_ble_eq_true rfl)) dX9_placeOf_23 ⟨Nat.le_refl _, Nat.le_refl _⟩) hP hD hS hA [0, 1, 2, 3] rfl rfl (fun _ => rfl) (fun r23 uu H locs hq hP hD hS => ?_)
      obtain ⟨fmnr1_3, fwts1_4⟩ := uu
      try dsimp only at hq
      subst hq
      have hP : va_P D vwCl ([mO a (nI n) (nI k) th, [(a 1, .inl (cY 0, 72, .inl fto))], [(a 7, .inl (cY 1, 32, .inr (.inl fmnr1_3)))], [(a 8, .inl (cY 1, 25, .inr (.inl fwts1_4)))]] : List va_W).flatten H := hP
      have hD : va_D A ([mO a (nI n) (nI k) th, [(a 1, .inl (cY 0, 72, .inl fto))], [(a 7, .inl (cY 1, 32, .inr (.inl fmnr1_3)))], [(a 8, .inl (cY 1, 25, .inr (.inl fwts1_4)))]] : List va_W).flatten := hD
      refine lv_lstore (lv' := [(6, .long (RV g n k q)), (0, .ref (a 0)), (1, .int (nI i)), (2, .int (nI (plc (RV g n k) i q))), (3, .long (RV g n k i)), (5, .int (nI q))]) hx hb dX9_placeOf_26 hl (by decide) rfl (fun ls hl => ?_)
      refine lv_iload_n hx hb dX9_placeOf_28 rfl (lv_at hl 3 rfl) ?_
      refine lv_lload hx hb dX9_placeOf_29 (lv_at hl 0 rfl) ?_
      refine lv_lload_n hx hb dX9_placeOf_31 rfl (lv_at hl 4 rfl) ?_
      refine W.lcmp hx hb dX9_placeOf_32 ?_
      refine l_if_gt (tgt := 49) hx hb dX9_placeOf_33 (by decide) (fun h33 => ?_) (fun h33 => ?_)
      · -- t
        refine lv_iconst (v := nI 1) hx hb dX9_placeOf_49 (by decide) ?_
        refine lv_goto (tgt := 54) hx hb dX9_placeOf_50 (by decide) ?_
        refine lv_iadd hx hb dX9_placeOf_54 ?_
        refine eqi (x' := nI (plc (RV g n k) i q + 1)) (nI_add _ _) ?_
        refine eqi (x' := nI (plc (RV g n k) i (q + 1))) (congrArg nI (by first | exact plc_t (or_1 (dec_t h33)) | exact plc_t (or_2 (and_tt (dec_t h40) h46)) | exact plc_f (or_ff (dec_f h33) (and_f2 (by omega))) | exact plc_f (or_ff (dec_f h33) (and_f1 (dec_f h40))))) ?_
        refine lv_istore_n (lv' := [(2, .int (nI (plc (RV g n k) i (q + 1)))), (6, .long (RV g n k q)), (0, .ref (a 0)), (1, .int (nI i)), (3, .long (RV g n k i)), (5, .int (nI q))]) hx hb dX9_placeOf_55 rfl hl (by decide) rfl (fun ls hl => ?_)
        refine lv_iinc (v := nI (q + 1)) (lv' := [(5, .int (nI (q + 1))), (2, .int (nI (plc (RV g n k) i (q + 1)))), (6, .long (RV g n k q)), (0, .ref (a 0)), (1, .int (nI i)), (3, .long (RV g n k i))]) hx hb dX9_placeOf_56 hl (k := 5) rfl (nI_1 q) (by decide) rfl (fun ls hl => ?_)
        refine lv_goto (tgt := 11) hx hb dX9_placeOf_59 (by decide) ?_
        exact ih11 (by omega) fmnr1_3 fwts1_4  _ _ hP hD hS _ (lv_sub hl [3, 4, 1, 5, 0] rfl)
      · -- f
        refine lv_lload hx hb dX9_placeOf_36 (lv_at hl 0 rfl) ?_
        refine lv_lload_n hx hb dX9_placeOf_38 rfl (lv_at hl 4 rfl) ?_
        refine W.lcmp hx hb dX9_placeOf_39 ?_
        refine l_if_ne (tgt := 53) hx hb dX9_placeOf_40 (by decide) (fun h40 => ?_) (fun h40 => ?_)
        · -- t
          refine lv_iconst (v := nI 0) hx hb dX9_placeOf_53 (by decide) ?_
          refine lv_iadd hx hb dX9_placeOf_54 ?_
          refine eqi (x' := nI (plc (RV g n k) i q)) (nI_add _ _) ?_
          refine eqi (x' := nI (plc (RV g n k) i (q + 1))) (congrArg nI (by first | exact plc_t (or_1 (dec_t h33)) | exact plc_t (or_2 (and_tt (dec_t h40) h46)) | exact plc_f (or_ff (dec_f h33) (and_f2 (by omega))) | exact plc_f (or_ff (dec_f h33) (and_f1 (dec_f h40))))) ?_
          refine lv_istore_n (lv' := [(2, .int (nI (plc (RV g n k) i (q + 1)))), (6, .long (RV g n k q)), (0, .ref (a 0)), (1, .int (nI i)), (3, .long (RV g n k i)), (5, .int (nI q))]) hx hb dX9_placeOf_55 rfl hl (by decide) rfl (fun ls hl => ?_)
          refine lv_iinc (v := nI (q + 1)) (lv' := [(5, .int (nI (q + 1))), (2, .int (nI (plc (RV g n k) i (q + 1)))), (6, .long (RV g n k q)), (0, .ref (a 0)), (1, .int (nI i)), (3, .long (RV g n k i))]) hx hb dX9_placeOf_56 hl (k := 5) rfl (nI_1 q) (by decide) rfl (fun ls hl => ?_)
          refine lv_goto (tgt := 11) hx hb dX9_placeOf_59 (by decide) ?_
          exact ih11 (by omega) fmnr1_3 fwts1_4  _ _ hP hD hS _ (lv_sub hl [3, 4, 1, 5, 0] rfl)
        · -- f
          refine lv_iload hx hb dX9_placeOf_43 (lv_at hl 5 rfl) ?_
          refine lv_iload_n hx hb dX9_placeOf_45 rfl (lv_at hl 2 rfl) ?_
          refine n_icmp_ge (tgt := 53) hx hb dX9_placeOf_46 (by decide) (by omega) (by omega) (fun h46 => ?_) (fun h46 => ?_)
          · -- t
            refine lv_iconst (v := nI 0) hx hb dX9_placeOf_53 (by decide) ?_
            refine lv_iadd hx hb dX9_placeOf_54 ?_
            refine eqi (x' := nI (plc (RV g n k) i q)) (nI_add _ _) ?_
            refine eqi (x' := nI (plc (RV g n k) i (q + 1))) (congrArg nI (by first | exact plc_t (or_1 (dec_t h33)) | exact plc_t (or_2 (and_tt (dec_t h40) h46)) | exact plc_f (or_ff (dec_f h33) (and_f2 (by omega))) | exact plc_f (or_ff (dec_f h33) (and_f1 (dec_f h40))))) ?_
            refine lv_istore_n (lv' := [(2, .int (nI (plc (RV g n k) i (q + 1)))), (6, .long (RV g n k q)), (0, .ref (a 0)), (1, .int (nI i)), (3, .long (RV g n k i)), (5, .int (nI q))]) hx hb dX9_placeOf_55 rfl hl (by decide) rfl (fun ls hl => ?_)
            refine lv_iinc (v := nI (q + 1)) (lv' := [(5, .int (nI (q + 1))), (2, .int (nI (plc (RV g n k) i (q + 1)))), (6, .long (RV g n k q)), (0, .ref (a 0)), (1, .int (nI i)), (3, .long (RV g n k i))]) hx hb dX9_placeOf_56 hl (k := 5) rfl (nI_1 q) (by decide) rfl (fun ls hl => ?_)
            refine lv_goto (tgt := 11) hx hb dX9_placeOf_59 (by decide) ?_
            exact ih11 (by omega) fmnr1_3 fwts1_4  _ _ hP hD hS _ (lv_sub hl [3, 4, 1, 5, 0] rfl)
          · -- f
            refine lv_iconst (v := nI 1) hx hb dX9_placeOf_49 (by decide) ?_
            refine lv_goto (tgt := 54) hx hb dX9_placeOf_50 (by decide) ?_
            refine lv_iadd hx hb dX9_placeOf_54 ?_
            refine eqi (x' := nI (plc (RV g n k) i q + 1)) (nI_add _ _) ?_
            refine eqi (x' := nI (plc (RV g n k) i (q + 1))) (congrArg nI (by first | exact plc_t (or_1 (dec_t h33)) | exact plc_t (or_2 (and_tt (dec_t h40) h46)) | exact plc_f (or_ff (dec_f h33) (and_f2 (by omega))) | exact plc_f (or_ff (dec_f h33) (and_f1 (dec_f h40))))) ?_
            refine lv_istore_n (lv' := [(2, .int (nI (plc (RV g n k) i (q + 1)))), (6, .long (RV g n k q)), (0, .ref (a 0)), (1, .int (nI i)), (3, .long (RV g n k i)), (5, .int (nI q))]) hx hb dX9_placeOf_55 rfl hl (by decide) rfl (fun ls hl => ?_)
            refine lv_iinc (v := nI (q + 1)) (lv' := [(5, .int (nI (q + 1))), (2, .int (nI (plc (RV g n k) i (q + 1)))), (6, .long (RV g n k q)), (0, .ref (a 0)), (1, .int (nI i)), (3, .long (RV g n k i))]) hx hb dX9_placeOf_56 hl (k := 5) rfl (nI_1 q) (by decide) rfl (fun ls hl => ?_)
            refine lv_goto (tgt := 11) hx hb dX9_placeOf_59 (by decide) ?_
            exact ih11 (by omega) fmnr1_3 fwts1_4  _ _ hP hD hS _ (lv_sub hl [3, 4, 1, 5, 0] rfl)
  exact L11 0 (by omega) fmnr1_1 fwts1_2  _ _ hP hD hS _ (lv_sub hl [3, 4, 2, 1, 0] rfl)

set_option maxHeartbeats 4000000 in
set_option maxRecDepth 100000 in
theorem c_X9_drawn (l : Launch) (D : va_G) (cY : Nat → ClassId) (sz : Nat) (x : Nat) (hx1 : x < 65521) : Met l yX9_drawn wsX9_drawn ({ frames := 0, cells := 0, slots := 0, locals := 0 }) (cP D cY [.int (nI x)] [] sz) (qI (S := Unit) D cY (fun r u => r = nI (sd x)) (fun u => []) (va_A ([] : List va_W).flatten sz)) 0 0 (va_A ([] : List va_W).flatten sz) := by
  refine mtB (Qc := fun A => qI (S := Unit) D cY (fun r u => r = nI (sd x)) (fun u => []) A) (cc := cX9_drawn) (maxL := 1) (ret := (some .int)) (by decide) rfl (Nat.le_of_ble_eq_true rfl) ?_
  intro p e s m below meth c A ls hx hb hr hml hts hown hlocks hnm hsz hP hK hVK hD hS hA hl
  have hown : s.vm.findClass RX9 = some m.cls := hown
  have hl : lv_has ls 1 [(0, .int (nI x))] := hl
  have hP : va_P D vwCl ([] : List va_W).flatten s.heap := hP
  have hD : va_D A ([] : List va_W).flatten := hD
  refine lv_sipush (v := nI 7919) hx hb dX9_drawn_0 (by decide) ?_
  refine lv_iload_n hx hb dX9_drawn_3 rfl (lv_at hl 0 rfl) ?_
  refine lv_imul hx hb dX9_drawn_4 ?_
  refine eqi (x' := nI (7919 * x)) (pk_mul _ _) ?_
  refine lv_sipush (v := nI 12345) hx hb dX9_drawn_5 (by decide) ?_
  refine lv_iadd hx hb dX9_drawn_8 ?_
  refine eqi (x' := nI (7919 * x + 12345)) (nI_add _ _) ?_
  refine lv_ldc (v := 65521) hx hb hown (hts (.constant RX9 151 65521) (by decide +kernel)) dX9_drawn_9 ?_
  refine eqi (x' := nI 65521) (by decide) ?_
  refine lv_irem hx hb dX9_drawn_11 (nI_ne0 (by omega) (by omega)) ?_
  refine eqi (x' := nI ((7919 * x + 12345) % 65521)) (pk_rem (by omega) (by omega) (by omega)) ?_
  exact r_i hx hb hr hlocks hP hD hS () rfl (rfl) dX9_drawn_12

set_option maxHeartbeats 4000000 in
set_option maxRecDepth 100000 in
theorem c_X9_isSeed (l : Launch) (D : va_G) (cY : Nat → ClassId) (sz : Nat) (x : Int32)  : Met l yX9_isSeed wsX9_isSeed ({ frames := 1, cells := 0, slots := 0, locals := 40 }) (cP D cY [.int x] [] sz) (qI (S := Unit) D cY (fun r u => r = bI (inR x (nI 0) (nI 65520))) (fun u => []) (va_A ([] : List va_W).flatten sz)) 0 0 (va_A ([] : List va_W).flatten sz) := by
  refine mtB (Qc := fun A => qI (S := Unit) D cY (fun r u => r = bI (inR x (nI 0) (nI 65520))) (fun u => []) A) (cc := cX9_isSeed) (maxL := 1) (ret := (some .boolean)) (by decide) rfl (Nat.le_of_ble_eq_true rfl) ?_
  intro p e s m below meth c A ls hx hb hr hml hts hown hlocks hnm hsz hP hK hVK hD hS hA hl
  have hown : s.vm.findClass RX9 = some m.cls := hown
  have hl : lv_has ls 1 [(0, .int x)] := hl
  have hP : va_P D vwCl ([] : List va_W).flatten s.heap := hP
  have hD : va_D A ([] : List va_W).flatten := hD
  refine lv_iload_n hx hb dX9_isSeed_0 rfl (lv_at hl 0 rfl) ?_
  refine lv_iconst (v := nI 0) hx hb dX9_isSeed_1 (by decide) ?_
  refine lv_ldc (v := 65520) hx hb hown (hts (.constant RX9 152 65520) (by decide +kernel)) dX9_isSeed_2 ?_
  refine eqi (x' := nI 65520) (by decide) ?_
  refine ca_i (CL := []) (va_runS (As := [.int x, .int (nI 0), .int (nI 65520)]) (rest := []) ⟨hx, hb, hml, hown, hts⟩ (c_X9_isIn l D cY s.heap.size x (nI 0) (nI 65520)) (va_cwS 3 hts gX9_isSeed_X9_isIn rfl rfl rfl (by decide +kernel) ⟨Nat.le_of_ble_eq_true rfl, Nat.le_of_ble_eq_true rfl⟩) (b_preS hVK hP hD [] rfl rfl) rfl rfl hl.1 rfl (lv_room (Nat.le_of_ble_eq_true rfl)) dX9_isSeed_4 ⟨Nat.le_refl _, Nat.le_refl _⟩) hP hD hS hA [] rfl rfl (fun _ => rfl) (fun r4 uu H locs hq hP hD hS => ?_)
  subst hq
  have hP : va_P D vwCl ([] : List va_W).flatten H := hP
  have hD : va_D A ([] : List va_W).flatten := hD
  exact r_z hx hb hr hlocks hP hD hS () rfl (rfl) dX9_isSeed_7

set_option maxHeartbeats 4000000 in
set_option maxRecDepth 100000 in
theorem c_X9_walk (l : Launch) (D : va_G) (cY : Nat → ClassId) (sz : Nat) (a : Nat → Nat) (n : Nat) (k : Nat) (th : Int32) (fto : Nat → Int32) (g : Nat → Nat → Nat) (i : Nat) (x : Nat) (t : Nat) (hn1 : 1 ≤ n) (hn6 : n ≤ 6) (hk1 : 1 ≤ k) (hk12 : k ≤ 12) (hG : ∀ i j, i < n → j < k → fto (12 * i + j) = nI (g i j)) (hgn : ∀ i j, i < n → j < k → g i j < n) (hi : i < n) (hx1 : x < 65521) (ht : t ≤ 1000) : Met l yX9_walk wsX9_walk ({ frames := 2, cells := 0, slots := 0, locals := 80 }) (cP D cY [.ref (a 0), .int (nI i), .int (nI x), .int (nI t)] [mO a (nI n) (nI k) th, [(a 1, .inl (cY 0, 72, .inl fto))]] sz) (qI (S := Unit) D cY (fun r u => r = nI (wk g k i x t)) (fun u => [mO a (nI n) (nI k) (nI 0), [(a 1, .inl (cY 0, 72, .inl fto))]]) (va_A ([mO a (nI n) (nI k) th, [(a 1, .inl (cY 0, 72, .inl fto))]] : List va_W).flatten sz)) 0 0 (va_A ([mO a (nI n) (nI k) th, [(a 1, .inl (cY 0, 72, .inl fto))]] : List va_W).flatten sz) := by
  refine mtB (Qc := fun A => qI (S := Unit) D cY (fun r u => r = nI (wk g k i x t)) (fun u => [mO a (nI n) (nI k) (nI 0), [(a 1, .inl (cY 0, 72, .inl fto))]]) A) (cc := cX9_walk) (maxL := 7) (ret := (some .int)) (by decide) rfl (Nat.le_of_ble_eq_true rfl) ?_
  intro p e s m below meth c A ls hx hb hr hml hts hown hlocks hnm hsz hP hK hVK hD hS hA hl
  have hown : s.vm.findClass RX9 = some m.cls := hown
  have hl : lv_has ls 7 [(0, .ref (a 0)), (1, .int (nI i)), (2, .int (nI x)), (3, .int (nI t))] := hl
  have hP : va_P D vwCl ([mO a (nI n) (nI k) th, [(a 1, .inl (cY 0, 72, .inl fto))]] : List va_W).flatten s.heap := hP
  have hD : va_D A ([mO a (nI n) (nI k) th, [(a 1, .inl (cY 0, 72, .inl fto))]] : List va_W).flatten := hD
  have hin : inR (nI i) (nI 0) (nI (n - 1)) = true := inR_t (by omega) (by omega) (by omega)
  have hin2 : inR (nI x) (nI 0) (nI 65520) = true := inR_t (by omega) (by omega) (by omega)
  have hin3 : inR (nI t) (nI 0) (nI 1000) = true := inR_t (by omega) (by omega) (by omega)
  refine lv_aload_n hx hb dX9_walk_0 rfl (lv_at hl 0 rfl) ?_
  refine lv_aload_n hx hb dX9_walk_1 rfl (lv_at hl 0 rfl) ?_
  refine lv_iload_n hx hb dX9_walk_2 rfl (lv_at hl 1 rfl) ?_
  refine ca_i (CL := [mO a (nI n) (nI k) th]) (va_runV (As := [.int (nI i)]) (rest := [.ref (a 0)]) ⟨hx, hb, hml, hown, hts⟩ (c_X9_isState l D cY s.heap.size a n k th (nI i) (by omega)) (cwV 1 hts gX9_walk_X9_isState rfl rfl rfl (by decide +kernel) ⟨Nat.le_of_ble_eq_true rfl, Nat.le_of_ble_eq_true rfl⟩) (b_preV hVK hP hD [0] rfl rfl 0 rfl rfl) rfl rfl hl.1 rfl (lv_room (Nat.le_of_ble_eq_true rfl)) dX9_walk_3 ⟨Nat.le_refl _, Nat.le_refl _⟩) hP hD hS hA [0] rfl rfl (fun _ => rfl) (fun r3 uu H locs hq hP hD hS => ?_)
  subst hq
  have hP : va_P D vwCl ([mO a (nI n) (nI k) th, [(a 1, .inl (cY 0, 72, .inl fto))]] : List va_W).flatten H := hP
  have hD : va_D A ([mO a (nI n) (nI k) th, [(a 1, .inl (cY 0, 72, .inl fto))]] : List va_W).flatten := hD
  refine b_if_ne (tgt := 13) hx hb dX9_walk_6 (by decide) (fun h6 => ?_) (fun h6 => ?_)
  · -- t
    refine lv_iload_n hx hb dX9_walk_13 rfl (lv_at hl 2 rfl) ?_
    refine ca_i (CL := []) (va_runS (As := [.int (nI x)]) (rest := [.ref (a 0)]) ⟨hx, hb, hml, hown, hts⟩ (c_X9_isSeed l D cY H.size (nI x)) (va_cwS 1 hts gX9_walk_X9_isSeed rfl rfl rfl (by decide +kernel) ⟨Nat.le_of_ble_eq_true rfl, Nat.le_of_ble_eq_true rfl⟩) (b_preS hVK hP hD [] rfl rfl) rfl rfl hl.1 rfl (lv_room (Nat.le_of_ble_eq_true rfl)) dX9_walk_14 ⟨Nat.le_refl _, Nat.le_refl _⟩) hP hD hS hA [] rfl rfl (fun _ => rfl) (fun r14 uu H locs hq hP hD hS => ?_)
    subst hq
    have hP : va_P D vwCl ([mO a (nI n) (nI k) th, [(a 1, .inl (cY 0, 72, .inl fto))]] : List va_W).flatten H := hP
    have hD : va_D A ([mO a (nI n) (nI k) th, [(a 1, .inl (cY 0, 72, .inl fto))]] : List va_W).flatten := hD
    refine b_if_eq (tgt := 35) hx hb dX9_walk_17 (by decide) (fun h17 => ?_) (fun h17 => ?_)
    · -- t
      exact absurd (h17.symm.trans hin2) (by decide)
    · -- f
      refine lv_iload_n hx hb dX9_walk_20 rfl (lv_at hl 3 rfl) ?_
      refine lv_iconst (v := nI 0) hx hb dX9_walk_21 (by decide) ?_
      refine lv_sipush (v := nI 1000) hx hb dX9_walk_22 (by decide) ?_
      refine ca_i (CL := []) (va_runS (As := [.int (nI t), .int (nI 0), .int (nI 1000)]) (rest := [.ref (a 0)]) ⟨hx, hb, hml, hown, hts⟩ (c_X9_isIn l D cY H.size (nI t) (nI 0) (nI 1000)) (va_cwS 3 hts gX9_walk_X9_isIn rfl rfl rfl (by decide +kernel) ⟨Nat.le_of_ble_eq_true rfl, Nat.le_of_ble_eq_true rfl⟩) (b_preS hVK hP hD [] rfl rfl) rfl rfl hl.1 rfl (lv_room (Nat.le_of_ble_eq_true rfl)) dX9_walk_25 ⟨Nat.le_refl _, Nat.le_refl _⟩) hP hD hS hA [] rfl rfl (fun _ => rfl) (fun r25 uu H locs hq hP hD hS => ?_)
      subst hq
      have hP : va_P D vwCl ([mO a (nI n) (nI k) th, [(a 1, .inl (cY 0, 72, .inl fto))]] : List va_W).flatten H := hP
      have hD : va_D A ([mO a (nI n) (nI k) th, [(a 1, .inl (cY 0, 72, .inl fto))]] : List va_W).flatten := hD
      refine b_if_eq (tgt := 35) hx hb dX9_walk_28 (by decide) (fun h28 => ?_) (fun h28 => ?_)
      · -- t
        exact absurd (h28.symm.trans hin3) (by decide)
      · -- f
        refine lv_iconst (v := nI 0) hx hb dX9_walk_31 (by decide) ?_
        refine lv_goto (tgt := 36) hx hb dX9_walk_32 (by decide) ?_
        refine ca_i (CL := [mO a (nI n) (nI k) th]) (va_runV (As := [.int (nI 0)]) (rest := []) ⟨hx, hb, hml, hown, hts⟩ (c_X9_can l D cY H.size a n k th 0 (by omega)) (cwV 1 hts gX9_walk_X9_can rfl rfl rfl (by decide +kernel) ⟨Nat.le_of_ble_eq_true rfl, Nat.le_of_ble_eq_true rfl⟩) (b_preV hVK hP hD [0] rfl rfl 0 rfl rfl) rfl rfl hl.1 rfl (lv_room (Nat.le_of_ble_eq_true rfl)) dX9_walk_36 ⟨Nat.le_refl _, Nat.le_refl _⟩) hP hD hS hA [0] rfl rfl (fun _ => rfl) (fun r36 uu H locs hq hP hD hS => ?_)
        subst hq
        have hP : va_P D vwCl ([mO a (nI n) (nI k) (nI 0), [(a 1, .inl (cY 0, 72, .inl fto))]] : List va_W).flatten H := hP
        have hD : va_D A ([mO a (nI n) (nI k) (nI 0), [(a 1, .inl (cY 0, 72, .inl fto))]] : List va_W).flatten := hD
        refine b_if_ne (tgt := 44) hx hb dX9_walk_39 (by decide) (fun h39 => ?_) (fun h39 => ?_)
        · -- t
          refine lv_iload_n hx hb dX9_walk_44 rfl (lv_at hl 1 rfl) ?_
          refine lv_istore (lv' := [(4, .int (nI i)), (0, .ref (a 0)), (1, .int (nI i)), (2, .int (nI x)), (3, .int (nI t))]) hx hb dX9_walk_45 hl (by decide) rfl (fun ls hl => ?_)
          refine lv_iload_n hx hb dX9_walk_47 rfl (lv_at hl 3 rfl) ?_
          refine lv_istore (lv' := [(5, .int (nI x)), (4, .int (nI i)), (0, .ref (a 0)), (1, .int (nI i)), (2, .int (nI x)), (3, .int (nI t))]) hx hb dX9_walk_48 hl (by decide) rfl (fun ls hl => ?_)
          refine lv_iconst (v := nI 0) hx hb dX9_walk_50 (by decide) ?_
          refine lv_istore (lv' := [(6, .int (nI 0)), (5, .int (nI x)), (4, .int (nI i)), (0, .ref (a 0)), (1, .int (nI i)), (2, .int (nI x)), (3, .int (nI t))]) hx hb dX9_walk_51 hl (by decide) rfl (fun ls hl => ?_)
          have L53 : ∀ q : Nat, q ≤ t →  ∀ (H : Heap) (locs : List Loc), va_P D vwCl ([mO a (nI n) (nI k) (nI 0), [(a 1, .inl (cY 0, 72, .inl fto))]] : List va_W).flatten H → va_D A ([mO a (nI n) (nI k) (nI 0), [(a 1, .inl (cY 0, 72, .inl fto))]] : List va_W).flatten → va_S A s.heap H locs → ∀ (ls : Array Slot), lv_has ls 7 [(0, .ref (a 0)), (1, .int (nI i)), (2, .int (nI x)), (3, .int (nI t)), (4, .int (nI (wk g k i x q))), (5, .int (nI (sdq x q))), (6, .int (nI q))] → W p l e ({ frames := 2, cells := 0, slots := 0, locals := 80 }) s m ([.ref (a 0), .int (nI i), .int (nI x), .int (nI t)] : List Value).toArray below meth c H locs 0 0 (MQ below (qI (S := Unit) D cY (fun r u => r = nI (wk g k i x t)) (fun u => [mO a (nI n) (nI k) (nI 0), [(a 1, .inl (cY 0, 72, .inl fto))]]) A) ([.ref (a 0), .int (nI i), .int (nI x), .int (nI t)] : List Value).toArray s 0 0 A) (F0 m 53 ls []) := by
            refine lpW t ?_
            intro q bdq ih53   H locs hP hD hS ls hl
            refine lv_iload hx hb dX9_walk_53 (lv_at hl 6 rfl) ?_
            refine lv_iload_n hx hb dX9_walk_55 rfl (lv_at hl 3 rfl) ?_
            refine n_icmp_ge (tgt := 87) hx hb dX9_walk_56 (by decide) (by omega) (by omega) (fun h56 => ?_) (fun h56 => ?_)
            · -- t
              refine lv_iload hx hb dX9_walk_87 (lv_at hl 4 rfl) ?_
              exact r_i hx hb hr hlocks hP hD hS () rfl (by (have e : q = t := by omega); subst e; rfl) dX9_walk_89
            · -- f
              refine lv_iload hx hb dX9_walk_59 (lv_at hl 5 rfl) ?_
              refine ca_i (CL := []) (va_runS (As := [.int (nI (sdq x q))]) (rest := []) ⟨hx, hb, hml, hown, hts⟩ (c_X9_drawn l D cY H.size (sdq x q) (sdq_lt hx1 q)) (va_cwS 1 hts gX9_walk_X9_drawn rfl rfl rfl (by decide +kernel) ⟨Nat.le_of_ble_eq_true rfl, Nat.le_of_ble_eq_true rfl⟩) (b_preS hVK hP hD [] rfl rfl) rfl rfl hl.1 rfl (lv_room (Nat.le_of_ble_eq_true rfl)) dX9_walk_61 ⟨Nat.le_refl _, Nat.le_refl _⟩) hP hD hS hA [] rfl rfl (fun _ => rfl) (fun r61 uu H locs hq hP hD hS => ?_)
              subst hq
              have hP : va_P D vwCl ([mO a (nI n) (nI k) (nI 0), [(a 1, .inl (cY 0, 72, .inl fto))]] : List va_W).flatten H := hP
              have hD : va_D A ([mO a (nI n) (nI k) (nI 0), [(a 1, .inl (cY 0, 72, .inl fto))]] : List va_W).flatten := hD
              refine eqi (x' := nI (sdq x (q + 1))) (rfl) ?_
              have hsl := sdq_lt hx1 (q + 1)
              refine lv_istore (lv' := [(5, .int (nI (sdq x (q + 1)))), (0, .ref (a 0)), (1, .int (nI i)), (2, .int (nI x)), (3, .int (nI t)), (4, .int (nI (wk g k i x q))), (6, .int (nI q))]) hx hb dX9_walk_64 hl (by decide) rfl (fun ls hl => ?_)
              refine lv_aload_n hx hb dX9_walk_66 rfl (lv_at hl 1 rfl) ?_
              refine lv_iload hx hb dX9_walk_67 (lv_at hl 5 rfl) ?_
              refine lv_iload hx hb dX9_walk_69 (lv_at hl 0 rfl) ?_
              refine lv_aload_n hx hb dX9_walk_71 rfl (lv_at hl 1 rfl) ?_
              refine b_get (ci := 9) (v := .int (nI k)) (C := RX9) (T := TX9) (N := 13) hx hb hts (by decide +kernel) hown hK hP 0 rfl rfl 1 (by decide) (hts (.fieldLink RX9 13 "ChanceHallModel" "slots" "I") (by decide +kernel)) (fun _ h9 => h9) rfl dX9_walk_72 ?_
              refine lv_irem hx hb dX9_walk_75 (nI_ne0 (by omega) (by omega)) ?_
              refine eqi (x' := nI ((sdq x (q + 1)) % k)) (pk_rem (by omega) (by omega) (by omega)) ?_
              refine ca_i (CL := [mO a (nI n) (nI k) (nI 0), [(a 1, .inl (cY 0, 72, .inl fto))]]) (va_runV (As := [.int (nI (wk g k i x q)), .int (nI ((sdq x (q + 1)) % k))]) (rest := []) ⟨hx, hb, hml, hown, hts⟩ (c_X9_goes l D cY H.size a n k (nI 0) fto g (wk g k i x q) ((sdq x (q + 1)) % k) (by omega) (by omega) (by omega) (by omega) hG (wk_lt hgn (by omega) hi q) (Nat.mod_lt _ (by omega))) (cwV 2 hts gX9_walk_X9_goes rfl rfl rfl (by decide +kernel) ⟨Nat.le_of_ble_eq_true rfl, Nat.le_of_ble_eq_true rfl⟩) (b_preV hVK hP hD [0, 1] rfl rfl 0 rfl rfl) rfl rfl hl.1 rfl (lv_room (Nat.le_of_ble_eq_true rfl)) dX9_walk_76 ⟨Nat.le_refl _, Nat.le_refl _⟩) hP hD hS hA [0, 1] rfl rfl (fun _ => rfl) (fun r76 uu H locs hq hP hD hS => ?_)
              subst hq
              have hP : va_P D vwCl ([mO a (nI n) (nI k) (nI 0), [(a 1, .inl (cY 0, 72, .inl fto))]] : List va_W).flatten H := hP
              have hD : va_D A ([mO a (nI n) (nI k) (nI 0), [(a 1, .inl (cY 0, 72, .inl fto))]] : List va_W).flatten := hD
              refine eqi (x' := nI (wk g k i x (q + 1))) (rfl) ?_
              refine lv_istore (lv' := [(4, .int (nI (wk g k i x (q + 1)))), (5, .int (nI (sdq x (q + 1)))), (0, .ref (a 0)), (1, .int (nI i)), (2, .int (nI x)), (3, .int (nI t)), (6, .int (nI q))]) hx hb dX9_walk_79 hl (by decide) rfl (fun ls hl => ?_)
              refine lv_iinc (v := nI (q + 1)) (lv' := [(6, .int (nI (q + 1))), (4, .int (nI (wk g k i x (q + 1)))), (5, .int (nI (sdq x (q + 1)))), (0, .ref (a 0)), (1, .int (nI i)), (2, .int (nI x)), (3, .int (nI t))]) hx hb dX9_walk_81 hl (k := 6) rfl (nI_1 q) (by decide) rfl (fun ls hl => ?_)
              refine lv_goto (tgt := 53) hx hb dX9_walk_84 (by decide) ?_
              exact ih53 (by omega)   _ _ hP hD hS _ (lv_sub hl [3, 4, 5, 6, 1, 2, 0] rfl)
          exact L53 0 (by omega)   _ _ hP hD hS _ (lv_sub hl [3, 4, 5, 6, 2, 1, 0] rfl)
        · -- f
          exact absurd h39 (by decide)
  · -- f
    exact absurd (hin.symm.trans h6) (by decide)

set_option maxHeartbeats 4000000 in
set_option maxRecDepth 100000 in
theorem c_X9_isOne (l : Launch) (D : va_G) (cY : Nat → ClassId) (sz : Nat) (a : Nat → Nat) (n : Nat) (k : Nat) (th : Int32) (fmap : Nat → Int32) (Fm : Nat → Nat) (hn1 : 1 ≤ n) (hn6 : n ≤ 6) (hk1 : 1 ≤ k) (hk12 : k ≤ 12) (hF : ∀ j, j < n → fmap j = nI (Fm j)) (hFn : ∀ j, j < n → Fm j < n) : Met l yX9_isOne wsX9_isOne ({ frames := 0, cells := 0, slots := 0, locals := 0 }) (cP D cY [.ref (a 0)] [mO a (nI n) (nI k) th, [(a 9, .inl (cY 0, 6, .inl fmap))]] sz) (qI (S := Unit) D cY (fun r u => r = bI (oneB Fm n)) (fun u => [mO a (nI n) (nI k) th, [(a 9, .inl (cY 0, 6, .inl fmap))]]) (va_A ([mO a (nI n) (nI k) th, [(a 9, .inl (cY 0, 6, .inl fmap))]] : List va_W).flatten sz)) 0 0 (va_A ([mO a (nI n) (nI k) th, [(a 9, .inl (cY 0, 6, .inl fmap))]] : List va_W).flatten sz) := by
  refine mtB (Qc := fun A => qI (S := Unit) D cY (fun r u => r = bI (oneB Fm n)) (fun u => [mO a (nI n) (nI k) th, [(a 9, .inl (cY 0, 6, .inl fmap))]]) A) (cc := cX9_isOne) (maxL := 3) (ret := (some .boolean)) (by decide) rfl (Nat.le_of_ble_eq_true rfl) ?_
  intro p e s m below meth c A ls hx hb hr hml hts hown hlocks hnm hsz hP hK hVK hD hS hA hl
  have hown : s.vm.findClass RX9 = some m.cls := hown
  have hl : lv_has ls 3 [(0, .ref (a 0))] := hl
  have hP : va_P D vwCl ([mO a (nI n) (nI k) th, [(a 9, .inl (cY 0, 6, .inl fmap))]] : List va_W).flatten s.heap := hP
  have hD : va_D A ([mO a (nI n) (nI k) th, [(a 9, .inl (cY 0, 6, .inl fmap))]] : List va_W).flatten := hD
  refine lv_iconst (v := nI 1) hx hb dX9_isOne_0 (by decide) ?_
  refine lv_istore_n (lv' := [(1, .int (nI 1)), (0, .ref (a 0))]) hx hb dX9_isOne_1 rfl hl (by decide) rfl (fun ls hl => ?_)
  refine lv_iconst (v := nI 1) hx hb dX9_isOne_2 (by decide) ?_
  refine lv_istore_n (lv' := [(2, .int (nI 1)), (1, .int (nI 1)), (0, .ref (a 0))]) hx hb dX9_isOne_3 rfl hl (by decide) rfl (fun ls hl => ?_)
  have L4 : ∀ q : Nat, q ≤ n - 1 →  ∀ (H : Heap) (locs : List Loc), va_P D vwCl ([mO a (nI n) (nI k) th, [(a 9, .inl (cY 0, 6, .inl fmap))]] : List va_W).flatten H → va_D A ([mO a (nI n) (nI k) th, [(a 9, .inl (cY 0, 6, .inl fmap))]] : List va_W).flatten → va_S A s.heap H locs → ∀ (ls : Array Slot), lv_has ls 3 [(0, .ref (a 0)), (1, .int (bI (allB (fun q => decide (Fm (q + 1) = Fm 0)) q))), (2, .int (nI (q + 1)))] → W p l e ({ frames := 0, cells := 0, slots := 0, locals := 0 }) s m ([.ref (a 0)] : List Value).toArray below meth c H locs 0 0 (MQ below (qI (S := Unit) D cY (fun r u => r = bI (oneB Fm n)) (fun u => [mO a (nI n) (nI k) th, [(a 9, .inl (cY 0, 6, .inl fmap))]]) A) ([.ref (a 0)] : List Value).toArray s 0 0 A) (F0 m 4 ls []) := by
    refine lpW (n - 1) ?_
    intro q bdq ih4   H locs hP hD hS ls hl
    refine lv_iload_n hx hb dX9_isOne_4 rfl (lv_at hl 2 rfl) ?_
    refine lv_aload_n hx hb dX9_isOne_5 rfl (lv_at hl 0 rfl) ?_
    refine b_get (ci := 9) (v := .int (nI n)) (C := RX9) (T := TX9) (N := 13) hx hb hts (by decide +kernel) hown hK hP 0 rfl rfl 0 (by decide) (hts (.fieldLink RX9 7 "ChanceHallModel" "states" "I") (by decide +kernel)) (fun _ h9 => h9) rfl dX9_isOne_6 ?_
    refine n_icmp_ge (tgt := 43) hx hb dX9_isOne_9 (by decide) (by omega) (by omega) (fun h9 => ?_) (fun h9 => ?_)
    · -- t
      refine lv_iload_n hx hb dX9_isOne_43 rfl (lv_at hl 1 rfl) ?_
      exact r_z hx hb hr hlocks hP hD hS () rfl (by (have e : q = n - 1 := by omega); subst e; rfl) dX9_isOne_44
    · -- f
      refine lv_iload_n hx hb dX9_isOne_12 rfl (lv_at hl 1 rfl) ?_
      refine b_if_eq (tgt := 35) hx hb dX9_isOne_13 (by decide) (fun h13 => ?_) (fun h13 => ?_)
      · -- t
        refine lv_iconst (v := nI 0) hx hb dX9_isOne_35 (by decide) ?_
        refine eqi (x' := bI (allB (fun q => decide (Fm (q + 1) = Fm 0)) (q + 1))) (by first | exact l1_f (Or.inl h13) | exact l1_f (Or.inr (dec_f h28))) ?_
        refine lv_istore_n (lv' := [(1, .int (bI (allB (fun q => decide (Fm (q + 1) = Fm 0)) (q + 1)))), (0, .ref (a 0)), (2, .int (nI (q + 1)))]) hx hb dX9_isOne_36 rfl hl (by decide) rfl (fun ls hl => ?_)
        refine lv_iinc (v := nI (q + 1 + 1)) (lv' := [(2, .int (nI (q + 1 + 1))), (1, .int (bI (allB (fun q => decide (Fm (q + 1) = Fm 0)) (q + 1)))), (0, .ref (a 0))]) hx hb dX9_isOne_37 hl (k := 2) rfl (nI_1 (q + 1)) (by decide) rfl (fun ls hl => ?_)
        refine lv_goto (tgt := 4) hx hb dX9_isOne_40 (by decide) ?_
        exact ih4 (by omega)   _ _ hP hD hS _ (lv_sub hl [2, 1, 0] rfl)
      · -- f
        refine lv_aload_n hx hb dX9_isOne_16 rfl (lv_at hl 0 rfl) ?_
        refine b_get (ci := 9) (v := .ref (a 9)) (C := RX9) (T := TX9) (N := 13) hx hb hts (by decide +kernel) hown hK hP 0 rfl rfl 10 (by decide) (hts (.fieldLink RX9 42 "ChanceHallModel" "map" "[I") (by decide +kernel)) (fun _ h9 => h9) rfl dX9_isOne_17 ?_
        refine lv_iload_n hx hb dX9_isOne_20 rfl (lv_at hl 2 rfl) ?_
        refine b_iald hx hb hK hP 1 0 rfl rfl (by omega) (by decide) dX9_isOne_21 ?_
        refine eqi (x' := nI (Fm (q + 1))) (hF _ (by omega)) ?_
        refine lv_aload_n hx hb dX9_isOne_22 rfl (lv_at hl 0 rfl) ?_
        refine b_get (ci := 9) (v := .ref (a 9)) (C := RX9) (T := TX9) (N := 13) hx hb hts (by decide +kernel) hown hK hP 0 rfl rfl 10 (by decide) (hts (.fieldLink RX9 42 "ChanceHallModel" "map" "[I") (by decide +kernel)) (fun _ h9 => h9) rfl dX9_isOne_23 ?_
        refine lv_iconst (v := nI 0) hx hb dX9_isOne_26 (by decide) ?_
        refine b_iald hx hb hK hP 1 0 rfl rfl (by omega) (by decide) dX9_isOne_27 ?_
        refine eqi (x' := nI (Fm 0)) (hF _ (by omega)) ?_
        have hz1 := hFn (q + 1) (by omega)
        have hz2 := hFn 0 (by omega)
        refine n_icmp_ne (tgt := 35) hx hb dX9_isOne_28 (by decide) (by omega) (by omega) (fun h28 => ?_) (fun h28 => ?_)
        · -- t
          refine lv_iconst (v := nI 0) hx hb dX9_isOne_35 (by decide) ?_
          refine eqi (x' := bI (allB (fun q => decide (Fm (q + 1) = Fm 0)) (q + 1))) (by first | exact l1_f (Or.inl h13) | exact l1_f (Or.inr (dec_f h28))) ?_
          refine lv_istore_n (lv' := [(1, .int (bI (allB (fun q => decide (Fm (q + 1) = Fm 0)) (q + 1)))), (0, .ref (a 0)), (2, .int (nI (q + 1)))]) hx hb dX9_isOne_36 rfl hl (by decide) rfl (fun ls hl => ?_)
          refine lv_iinc (v := nI (q + 1 + 1)) (lv' := [(2, .int (nI (q + 1 + 1))), (1, .int (bI (allB (fun q => decide (Fm (q + 1) = Fm 0)) (q + 1)))), (0, .ref (a 0))]) hx hb dX9_isOne_37 hl (k := 2) rfl (nI_1 (q + 1)) (by decide) rfl (fun ls hl => ?_)
          refine lv_goto (tgt := 4) hx hb dX9_isOne_40 (by decide) ?_
          exact ih4 (by omega)   _ _ hP hD hS _ (lv_sub hl [2, 1, 0] rfl)
        · -- f
          refine lv_iconst (v := nI 1) hx hb dX9_isOne_31 (by decide) ?_
          refine lv_goto (tgt := 36) hx hb dX9_isOne_32 (by decide) ?_
          refine eqi (x' := bI (allB (fun q => decide (Fm (q + 1) = Fm 0)) (q + 1))) (l1_t h13 (dec_t h28)) ?_
          refine lv_istore_n (lv' := [(1, .int (bI (allB (fun q => decide (Fm (q + 1) = Fm 0)) (q + 1)))), (0, .ref (a 0)), (2, .int (nI (q + 1)))]) hx hb dX9_isOne_36 rfl hl (by decide) rfl (fun ls hl => ?_)
          refine lv_iinc (v := nI (q + 1 + 1)) (lv' := [(2, .int (nI (q + 1 + 1))), (1, .int (bI (allB (fun q => decide (Fm (q + 1) = Fm 0)) (q + 1)))), (0, .ref (a 0))]) hx hb dX9_isOne_37 hl (k := 2) rfl (nI_1 (q + 1)) (by decide) rfl (fun ls hl => ?_)
          refine lv_goto (tgt := 4) hx hb dX9_isOne_40 (by decide) ?_
          exact ih4 (by omega)   _ _ hP hD hS _ (lv_sub hl [2, 1, 0] rfl)
  exact L4 0 (by omega)   _ _ hP hD hS _ (lv_sub hl [2, 1, 0] rfl)

set_option maxHeartbeats 4000000 in
set_option maxRecDepth 100000 in
theorem c_X9_draw (l : Launch) (D : va_G) (cY : Nat → ClassId) (sz : Nat) (a : Nat → Nat) (n : Nat) (k : Nat) (th : Int32) (fto : Nat → Int32) (fmap : Nat → Int32) (fnxt : Nat → Int32) (g : Nat → Nat → Nat) (x : Nat) (hn1 : 1 ≤ n) (hn6 : n ≤ 6) (hk1 : 1 ≤ k) (hk12 : k ≤ 12) (hG : ∀ i j, i < n → j < k → fto (12 * i + j) = nI (g i j)) (hgn : ∀ i j, i < n → j < k → g i j < n) (hx1 : x < 65521) : Met l yX9_draw wsX9_draw ({ frames := 2, cells := 0, slots := 0, locals := 80 }) (cP D cY [.ref (a 0), .int (nI x)] [mO a (nI n) (nI k) th, [(a 1, .inl (cY 0, 72, .inl fto))], [(a 9, .inl (cY 0, 6, .inl fmap))], [(a 10, .inl (cY 0, 6, .inl fnxt))]] sz) (qI (S := (Nat → Int32) × (Nat → Int32)) D cY (fun r u => r = dgo g n k x 200 0) (fun u => [mO a (nI n) (nI k) (nI 0), [(a 1, .inl (cY 0, 72, .inl fto))], [(a 9, .inl (cY 0, 6, .inl u.1))], [(a 10, .inl (cY 0, 6, .inl u.2))]]) (va_A ([mO a (nI n) (nI k) th, [(a 1, .inl (cY 0, 72, .inl fto))], [(a 9, .inl (cY 0, 6, .inl fmap))], [(a 10, .inl (cY 0, 6, .inl fnxt))]] : List va_W).flatten sz)) 0 0 (va_A ([mO a (nI n) (nI k) th, [(a 1, .inl (cY 0, 72, .inl fto))], [(a 9, .inl (cY 0, 6, .inl fmap))], [(a 10, .inl (cY 0, 6, .inl fnxt))]] : List va_W).flatten sz) := by
  refine mtB (Qc := fun A => qI (S := (Nat → Int32) × (Nat → Int32)) D cY (fun r u => r = dgo g n k x 200 0) (fun u => [mO a (nI n) (nI k) (nI 0), [(a 1, .inl (cY 0, 72, .inl fto))], [(a 9, .inl (cY 0, 6, .inl u.1))], [(a 10, .inl (cY 0, 6, .inl u.2))]]) A) (cc := cX9_draw) (maxL := 5) (ret := (some .int)) (by decide) rfl (Nat.le_of_ble_eq_true rfl) ?_
  intro p e s m below meth c A ls hx hb hr hml hts hown hlocks hnm hsz hP hK hVK hD hS hA hl
  have hown : s.vm.findClass RX9 = some m.cls := hown
  have hl : lv_has ls 5 [(0, .ref (a 0)), (1, .int (nI x))] := hl
  have hP : va_P D vwCl ([mO a (nI n) (nI k) th, [(a 1, .inl (cY 0, 72, .inl fto))], [(a 9, .inl (cY 0, 6, .inl fmap))], [(a 10, .inl (cY 0, 6, .inl fnxt))]] : List va_W).flatten s.heap := hP
  have hD : va_D A ([mO a (nI n) (nI k) th, [(a 1, .inl (cY 0, 72, .inl fto))], [(a 9, .inl (cY 0, 6, .inl fmap))], [(a 10, .inl (cY 0, 6, .inl fnxt))]] : List va_W).flatten := hD
  have hin2 : inR (nI x) (nI 0) (nI 65520) = true := inR_t (by omega) (by omega) (by omega)
  refine lv_aload_n hx hb dX9_draw_0 rfl (lv_at hl 0 rfl) ?_
  refine lv_iload_n hx hb dX9_draw_1 rfl (lv_at hl 1 rfl) ?_
  refine ca_i (CL := []) (va_runS (As := [.int (nI x)]) (rest := [.ref (a 0)]) ⟨hx, hb, hml, hown, hts⟩ (c_X9_isSeed l D cY s.heap.size (nI x)) (va_cwS 1 hts gX9_draw_X9_isSeed rfl rfl rfl (by decide +kernel) ⟨Nat.le_of_ble_eq_true rfl, Nat.le_of_ble_eq_true rfl⟩) (b_preS hVK hP hD [] rfl rfl) rfl rfl hl.1 rfl (lv_room (Nat.le_of_ble_eq_true rfl)) dX9_draw_2 ⟨Nat.le_refl _, Nat.le_refl _⟩) hP hD hS hA [] rfl rfl (fun _ => rfl) (fun r2 uu H locs hq hP hD hS => ?_)
  subst hq
  have hP : va_P D vwCl ([mO a (nI n) (nI k) th, [(a 1, .inl (cY 0, 72, .inl fto))], [(a 9, .inl (cY 0, 6, .inl fmap))], [(a 10, .inl (cY 0, 6, .inl fnxt))]] : List va_W).flatten H := hP
  have hD : va_D A ([mO a (nI n) (nI k) th, [(a 1, .inl (cY 0, 72, .inl fto))], [(a 9, .inl (cY 0, 6, .inl fmap))], [(a 10, .inl (cY 0, 6, .inl fnxt))]] : List va_W).flatten := hD
  refine b_if_eq (tgt := 12) hx hb dX9_draw_5 (by decide) (fun h5 => ?_) (fun h5 => ?_)
  · -- t
    exact absurd (h5.symm.trans hin2) (by decide)
  · -- f
    refine lv_iconst (v := nI 0) hx hb dX9_draw_8 (by decide) ?_
    refine lv_goto (tgt := 13) hx hb dX9_draw_9 (by decide) ?_
    refine ca_i (CL := [mO a (nI n) (nI k) th]) (va_runV (As := [.int (nI 0)]) (rest := []) ⟨hx, hb, hml, hown, hts⟩ (c_X9_can l D cY H.size a n k th 0 (by omega)) (cwV 1 hts gX9_draw_X9_can rfl rfl rfl (by decide +kernel) ⟨Nat.le_of_ble_eq_true rfl, Nat.le_of_ble_eq_true rfl⟩) (b_preV hVK hP hD [0] rfl rfl 0 rfl rfl) rfl rfl hl.1 rfl (lv_room (Nat.le_of_ble_eq_true rfl)) dX9_draw_13 ⟨Nat.le_refl _, Nat.le_refl _⟩) hP hD hS hA [0] rfl rfl (fun _ => rfl) (fun r13 uu H locs hq hP hD hS => ?_)
    subst hq
    have hP : va_P D vwCl ([mO a (nI n) (nI k) (nI 0), [(a 1, .inl (cY 0, 72, .inl fto))], [(a 9, .inl (cY 0, 6, .inl fmap))], [(a 10, .inl (cY 0, 6, .inl fnxt))]] : List va_W).flatten H := hP
    have hD : va_D A ([mO a (nI n) (nI k) (nI 0), [(a 1, .inl (cY 0, 72, .inl fto))], [(a 9, .inl (cY 0, 6, .inl fmap))], [(a 10, .inl (cY 0, 6, .inl fnxt))]] : List va_W).flatten := hD
    refine b_if_ne (tgt := 21) hx hb dX9_draw_16 (by decide) (fun h16 => ?_) (fun h16 => ?_)
    · -- t
      refine lv_iconst (v := nI 0) hx hb dX9_draw_21 (by decide) ?_
      refine lv_istore_n (lv' := [(2, .int (nI 0)), (0, .ref (a 0)), (1, .int (nI x))]) hx hb dX9_draw_22 rfl hl (by decide) rfl (fun ls hl => ?_)
      have L23 : ∀ j : Nat, j ≤ n → ∀ (fM : Nat → Int32), (PWJ fM (fun j => nI j) j) → ∀ (H : Heap) (locs : List Loc), va_P D vwCl ([mO a (nI n) (nI k) (nI 0), [(a 1, .inl (cY 0, 72, .inl fto))], [(a 9, .inl (cY 0, 6, .inl fM))], [(a 10, .inl (cY 0, 6, .inl fnxt))]] : List va_W).flatten H → va_D A ([mO a (nI n) (nI k) (nI 0), [(a 1, .inl (cY 0, 72, .inl fto))], [(a 9, .inl (cY 0, 6, .inl fM))], [(a 10, .inl (cY 0, 6, .inl fnxt))]] : List va_W).flatten → va_S A s.heap H locs → ∀ (ls : Array Slot), lv_has ls 5 [(0, .ref (a 0)), (1, .int (nI x)), (2, .int (nI j))] → W p l e ({ frames := 2, cells := 0, slots := 0, locals := 80 }) s m ([.ref (a 0), .int (nI x)] : List Value).toArray below meth c H locs 0 0 (MQ below (qI (S := (Nat → Int32) × (Nat → Int32)) D cY (fun r u => r = dgo g n k x 200 0) (fun u => [mO a (nI n) (nI k) (nI 0), [(a 1, .inl (cY 0, 72, .inl fto))], [(a 9, .inl (cY 0, 6, .inl u.1))], [(a 10, .inl (cY 0, 6, .inl u.2))]]) A) ([.ref (a 0), .int (nI x)] : List Value).toArray s 0 0 A) (F0 m 23 ls []) := by
        refine lpW n ?_
        intro j bdj ih23 fM hI H locs hP hD hS ls hl
        refine lv_iload_n hx hb dX9_draw_23 rfl (lv_at hl 2 rfl) ?_
        refine lv_aload_n hx hb dX9_draw_24 rfl (lv_at hl 0 rfl) ?_
        refine b_get (ci := 9) (v := .int (nI n)) (C := RX9) (T := TX9) (N := 13) hx hb hts (by decide +kernel) hown hK hP 0 rfl rfl 0 (by decide) (hts (.fieldLink RX9 7 "ChanceHallModel" "states" "I") (by decide +kernel)) (fun _ h9 => h9) rfl dX9_draw_25 ?_
        refine n_icmp_ge (tgt := 44) hx hb dX9_draw_28 (by decide) (by omega) (by omega) (fun h28 => ?_) (fun h28 => ?_)
        · -- t
          refine lv_iload_n hx hb dX9_draw_44 rfl (lv_at hl 1 rfl) ?_
          refine lv_istore_n (lv' := [(2, .int (nI x)), (0, .ref (a 0)), (1, .int (nI x))]) hx hb dX9_draw_45 rfl hl (by decide) rfl (fun ls hl => ?_)
          refine lv_iconst (v := nI 0) hx hb dX9_draw_46 (by decide) ?_
          refine lv_istore_n (lv' := [(3, .int (nI 0)), (2, .int (nI x)), (0, .ref (a 0)), (1, .int (nI x))]) hx hb dX9_draw_47 rfl hl (by decide) rfl (fun ls hl => ?_)
          have L48 : ∀ q : Nat, q ≤ 200 → ∀ (fM : Nat → Int32) (fX : Nat → Int32), (∀ j, j < n → fM j = nI (mpq g k x q j)) → (dgo g n k x (200 - q) q = dgo g n k x 200 0) → ∀ (H : Heap) (locs : List Loc), va_P D vwCl ([mO a (nI n) (nI k) (nI 0), [(a 1, .inl (cY 0, 72, .inl fto))], [(a 9, .inl (cY 0, 6, .inl fM))], [(a 10, .inl (cY 0, 6, .inl fX))]] : List va_W).flatten H → va_D A ([mO a (nI n) (nI k) (nI 0), [(a 1, .inl (cY 0, 72, .inl fto))], [(a 9, .inl (cY 0, 6, .inl fM))], [(a 10, .inl (cY 0, 6, .inl fX))]] : List va_W).flatten → va_S A s.heap H locs → ∀ (ls : Array Slot), lv_has ls 5 [(0, .ref (a 0)), (1, .int (nI x)), (2, .int (nI (sdq x q))), (3, .int (nI q))] → W p l e ({ frames := 2, cells := 0, slots := 0, locals := 80 }) s m ([.ref (a 0), .int (nI x)] : List Value).toArray below meth c H locs 0 0 (MQ below (qI (S := (Nat → Int32) × (Nat → Int32)) D cY (fun r u => r = dgo g n k x 200 0) (fun u => [mO a (nI n) (nI k) (nI 0), [(a 1, .inl (cY 0, 72, .inl fto))], [(a 9, .inl (cY 0, 6, .inl u.1))], [(a 10, .inl (cY 0, 6, .inl u.2))]]) A) ([.ref (a 0), .int (nI x)] : List Value).toArray s 0 0 A) (F0 m 48 ls []) := by
            refine lpW 200 ?_
            intro q bdq ih48 fM fX hF hdg H locs hP hD hS ls hl
            refine lv_iload_n hx hb dX9_draw_48 rfl (lv_at hl 3 rfl) ?_
            refine lv_sipush (v := nI 200) hx hb dX9_draw_49 (by decide) ?_
            refine n_icmp_ge (tgt := 147) hx hb dX9_draw_52 (by decide) (by omega) (by omega) (fun h52 => ?_) (fun h52 => ?_)
            · -- t
              refine lv_aload_n hx hb dX9_draw_147 rfl (lv_at hl 0 rfl) ?_
              refine ca_i (CL := [mO a (nI n) (nI k) (nI 0), [(a 9, .inl (cY 0, 6, .inl fM))]]) (va_runV (As := []) (rest := []) ⟨hx, hb, hml, hown, hts⟩ (c_X9_isOne l D cY H.size a n k (nI 0) fM (mpq g k x q) (by omega) (by omega) (by omega) (by omega) hF (mpq_lt hgn (by omega) q)) (cwV 0 hts gX9_draw_X9_isOne rfl rfl rfl (by decide +kernel) ⟨Nat.le_of_ble_eq_true rfl, Nat.le_of_ble_eq_true rfl⟩) (b_preV hVK hP hD [0, 2] rfl rfl 0 rfl rfl) rfl rfl hl.1 rfl (lv_room (Nat.le_of_ble_eq_true rfl)) dX9_draw_148 ⟨Nat.le_refl _, Nat.le_refl _⟩) hP hD hS hA [0, 2] rfl rfl (fun _ => rfl) (fun r148 uu H locs hq hP hD hS => ?_)
              subst hq
              have hP : va_P D vwCl ([mO a (nI n) (nI k) (nI 0), [(a 1, .inl (cY 0, 72, .inl fto))], [(a 9, .inl (cY 0, 6, .inl fM))], [(a 10, .inl (cY 0, 6, .inl fX))]] : List va_W).flatten H := hP
              have hD : va_D A ([mO a (nI n) (nI k) (nI 0), [(a 1, .inl (cY 0, 72, .inl fto))], [(a 9, .inl (cY 0, 6, .inl fM))], [(a 10, .inl (cY 0, 6, .inl fX))]] : List va_W).flatten := hD
              refine b_if_eq (tgt := 168) hx hb dX9_draw_151 (by decide) (fun h151 => ?_) (fun h151 => ?_)
              · -- t
                refine lv_iconst (v := (-1)) hx hb dX9_draw_168 (by decide) ?_
                exact r_i hx hb hr hlocks hP hD hS (fM, fX) rfl (by first | (rw [← hdg, dgo_t h151]; done) | (rw [← hdg, dgo_e h52 h151]; done) | (rw [h59] at h151; cases h151)) dX9_draw_169
              · -- f
                refine lv_bipush (v := nI 6) hx hb dX9_draw_154 (by decide) ?_
                refine lv_iload_n hx hb dX9_draw_156 rfl (lv_at hl 3 rfl) ?_
                refine lv_imul hx hb dX9_draw_157 ?_
                refine eqi (x' := nI (6 * q)) (pk_mul _ _) ?_
                refine lv_aload_n hx hb dX9_draw_158 rfl (lv_at hl 0 rfl) ?_
                refine b_get (ci := 9) (v := .ref (a 9)) (C := RX9) (T := TX9) (N := 13) hx hb hts (by decide +kernel) hown hK hP 0 rfl rfl 10 (by decide) (hts (.fieldLink RX9 42 "ChanceHallModel" "map" "[I") (by decide +kernel)) (fun _ h9 => h9) rfl dX9_draw_159 ?_
                refine lv_iconst (v := nI 0) hx hb dX9_draw_162 (by decide) ?_
                refine b_iald hx hb hK hP 2 0 rfl rfl (by omega) (by decide) dX9_draw_163 ?_
                refine eqi (x' := nI (mpq g k x q 0)) (hF 0 (by omega)) ?_
                refine lv_iadd hx hb dX9_draw_164 ?_
                refine eqi (x' := nI (6 * q + mpq g k x q 0)) (nI_add _ _) ?_
                refine lv_goto (tgt := 169) hx hb dX9_draw_165 (by decide) ?_
                exact r_i hx hb hr hlocks hP hD hS (fM, fX) rfl (by first | (rw [← hdg, dgo_t h151]; done) | (rw [← hdg, dgo_e h52 h151]; done) | (rw [h59] at h151; cases h151)) dX9_draw_169
            · -- f
              refine lv_aload_n hx hb dX9_draw_55 rfl (lv_at hl 0 rfl) ?_
              refine ca_i (CL := [mO a (nI n) (nI k) (nI 0), [(a 9, .inl (cY 0, 6, .inl fM))]]) (va_runV (As := []) (rest := []) ⟨hx, hb, hml, hown, hts⟩ (c_X9_isOne l D cY H.size a n k (nI 0) fM (mpq g k x q) (by omega) (by omega) (by omega) (by omega) hF (mpq_lt hgn (by omega) q)) (cwV 0 hts gX9_draw_X9_isOne rfl rfl rfl (by decide +kernel) ⟨Nat.le_of_ble_eq_true rfl, Nat.le_of_ble_eq_true rfl⟩) (b_preV hVK hP hD [0, 2] rfl rfl 0 rfl rfl) rfl rfl hl.1 rfl (lv_room (Nat.le_of_ble_eq_true rfl)) dX9_draw_56 ⟨Nat.le_refl _, Nat.le_refl _⟩) hP hD hS hA [0, 2] rfl rfl (fun _ => rfl) (fun r56 uu H locs hq hP hD hS => ?_)
              subst hq
              have hP : va_P D vwCl ([mO a (nI n) (nI k) (nI 0), [(a 1, .inl (cY 0, 72, .inl fto))], [(a 9, .inl (cY 0, 6, .inl fM))], [(a 10, .inl (cY 0, 6, .inl fX))]] : List va_W).flatten H := hP
              have hD : va_D A ([mO a (nI n) (nI k) (nI 0), [(a 1, .inl (cY 0, 72, .inl fto))], [(a 9, .inl (cY 0, 6, .inl fM))], [(a 10, .inl (cY 0, 6, .inl fX))]] : List va_W).flatten := hD
              refine b_if_ne (tgt := 147) hx hb dX9_draw_59 (by decide) (fun h59 => ?_) (fun h59 => ?_)
              · -- t
                refine lv_aload_n hx hb dX9_draw_147 rfl (lv_at hl 0 rfl) ?_
                refine ca_i (CL := [mO a (nI n) (nI k) (nI 0), [(a 9, .inl (cY 0, 6, .inl fM))]]) (va_runV (As := []) (rest := []) ⟨hx, hb, hml, hown, hts⟩ (c_X9_isOne l D cY H.size a n k (nI 0) fM (mpq g k x q) (by omega) (by omega) (by omega) (by omega) hF (mpq_lt hgn (by omega) q)) (cwV 0 hts gX9_draw_X9_isOne rfl rfl rfl (by decide +kernel) ⟨Nat.le_of_ble_eq_true rfl, Nat.le_of_ble_eq_true rfl⟩) (b_preV hVK hP hD [0, 2] rfl rfl 0 rfl rfl) rfl rfl hl.1 rfl (lv_room (Nat.le_of_ble_eq_true rfl)) dX9_draw_148 ⟨Nat.le_refl _, Nat.le_refl _⟩) hP hD hS hA [0, 2] rfl rfl (fun _ => rfl) (fun r148 uu H locs hq hP hD hS => ?_)
                subst hq
                have hP : va_P D vwCl ([mO a (nI n) (nI k) (nI 0), [(a 1, .inl (cY 0, 72, .inl fto))], [(a 9, .inl (cY 0, 6, .inl fM))], [(a 10, .inl (cY 0, 6, .inl fX))]] : List va_W).flatten H := hP
                have hD : va_D A ([mO a (nI n) (nI k) (nI 0), [(a 1, .inl (cY 0, 72, .inl fto))], [(a 9, .inl (cY 0, 6, .inl fM))], [(a 10, .inl (cY 0, 6, .inl fX))]] : List va_W).flatten := hD
                refine b_if_eq (tgt := 168) hx hb dX9_draw_151 (by decide) (fun h151 => ?_) (fun h151 => ?_)
                · -- t
                  refine lv_iconst (v := (-1)) hx hb dX9_draw_168 (by decide) ?_
                  exact r_i hx hb hr hlocks hP hD hS (fM, fX) rfl (by first | (rw [← hdg, dgo_t h151]; done) | (rw [← hdg, dgo_e h52 h151]; done) | (rw [h59] at h151; cases h151)) dX9_draw_169
                · -- f
                  refine lv_bipush (v := nI 6) hx hb dX9_draw_154 (by decide) ?_
                  refine lv_iload_n hx hb dX9_draw_156 rfl (lv_at hl 3 rfl) ?_
                  refine lv_imul hx hb dX9_draw_157 ?_
                  refine eqi (x' := nI (6 * q)) (pk_mul _ _) ?_
                  refine lv_aload_n hx hb dX9_draw_158 rfl (lv_at hl 0 rfl) ?_
                  refine b_get (ci := 9) (v := .ref (a 9)) (C := RX9) (T := TX9) (N := 13) hx hb hts (by decide +kernel) hown hK hP 0 rfl rfl 10 (by decide) (hts (.fieldLink RX9 42 "ChanceHallModel" "map" "[I") (by decide +kernel)) (fun _ h9 => h9) rfl dX9_draw_159 ?_
                  refine lv_iconst (v := nI 0) hx hb dX9_draw_162 (by decide) ?_
                  refine b_iald hx hb hK hP 2 0 rfl rfl (by omega) (by decide) dX9_draw_163 ?_
                  refine eqi (x' := nI (mpq g k x q 0)) (hF 0 (by omega)) ?_
                  refine lv_iadd hx hb dX9_draw_164 ?_
                  refine eqi (x' := nI (6 * q + mpq g k x q 0)) (nI_add _ _) ?_
                  refine lv_goto (tgt := 169) hx hb dX9_draw_165 (by decide) ?_
                  exact r_i hx hb hr hlocks hP hD hS (fM, fX) rfl (by first | (rw [← hdg, dgo_t h151]; done) | (rw [← hdg, dgo_e h52 h151]; done) | (rw [h59] at h151; cases h151)) dX9_draw_169
              · -- f
                refine lv_iload_n hx hb dX9_draw_62 rfl (lv_at hl 2 rfl) ?_
                refine ca_i (CL := []) (va_runS (As := [.int (nI (sdq x q))]) (rest := []) ⟨hx, hb, hml, hown, hts⟩ (c_X9_drawn l D cY H.size (sdq x q) (sdq_lt hx1 q)) (va_cwS 1 hts gX9_draw_X9_drawn rfl rfl rfl (by decide +kernel) ⟨Nat.le_of_ble_eq_true rfl, Nat.le_of_ble_eq_true rfl⟩) (b_preS hVK hP hD [] rfl rfl) rfl rfl hl.1 rfl (lv_room (Nat.le_of_ble_eq_true rfl)) dX9_draw_63 ⟨Nat.le_refl _, Nat.le_refl _⟩) hP hD hS hA [] rfl rfl (fun _ => rfl) (fun r63 uu H locs hq hP hD hS => ?_)
                subst hq
                have hP : va_P D vwCl ([mO a (nI n) (nI k) (nI 0), [(a 1, .inl (cY 0, 72, .inl fto))], [(a 9, .inl (cY 0, 6, .inl fM))], [(a 10, .inl (cY 0, 6, .inl fX))]] : List va_W).flatten H := hP
                have hD : va_D A ([mO a (nI n) (nI k) (nI 0), [(a 1, .inl (cY 0, 72, .inl fto))], [(a 9, .inl (cY 0, 6, .inl fM))], [(a 10, .inl (cY 0, 6, .inl fX))]] : List va_W).flatten := hD
                refine eqi (x' := nI (sdq x (q + 1))) (rfl) ?_
                have hsl := sdq_lt hx1 (q + 1)
                refine lv_istore_n (lv' := [(2, .int (nI (sdq x (q + 1)))), (0, .ref (a 0)), (1, .int (nI x)), (3, .int (nI q))]) hx hb dX9_draw_66 rfl hl (by decide) rfl (fun ls hl => ?_)
                refine lv_iinc (v := nI (q + 1)) (lv' := [(3, .int (nI (q + 1))), (2, .int (nI (sdq x (q + 1)))), (0, .ref (a 0)), (1, .int (nI x))]) hx hb dX9_draw_67 hl (k := 3) rfl (nI_1 q) (by decide) rfl (fun ls hl => ?_)
                refine lv_iconst (v := nI 0) hx hb dX9_draw_70 (by decide) ?_
                refine lv_istore (lv' := [(4, .int (nI 0)), (3, .int (nI (q + 1))), (2, .int (nI (sdq x (q + 1)))), (0, .ref (a 0)), (1, .int (nI x))]) hx hb dX9_draw_71 hl (by decide) rfl (fun ls hl => ?_)
                have L73 : ∀ w : Nat, w ≤ n → ∀ (fX2 : Nat → Int32), (PWJ fX2 (fun j => nI (mpq g k x (q + 1) j)) w) → ∀ (H : Heap) (locs : List Loc), va_P D vwCl ([mO a (nI n) (nI k) (nI 0), [(a 1, .inl (cY 0, 72, .inl fto))], [(a 9, .inl (cY 0, 6, .inl fM))], [(a 10, .inl (cY 0, 6, .inl fX2))]] : List va_W).flatten H → va_D A ([mO a (nI n) (nI k) (nI 0), [(a 1, .inl (cY 0, 72, .inl fto))], [(a 9, .inl (cY 0, 6, .inl fM))], [(a 10, .inl (cY 0, 6, .inl fX2))]] : List va_W).flatten → va_S A s.heap H locs → ∀ (ls : Array Slot), lv_has ls 5 [(0, .ref (a 0)), (1, .int (nI x)), (2, .int (nI (sdq x (q + 1)))), (3, .int (nI (q + 1))), (4, .int (nI w))] → W p l e ({ frames := 2, cells := 0, slots := 0, locals := 80 }) s m ([.ref (a 0), .int (nI x)] : List Value).toArray below meth c H locs 0 0 (MQ below (qI (S := (Nat → Int32) × (Nat → Int32)) D cY (fun r u => r = dgo g n k x 200 0) (fun u => [mO a (nI n) (nI k) (nI 0), [(a 1, .inl (cY 0, 72, .inl fto))], [(a 9, .inl (cY 0, 6, .inl u.1))], [(a 10, .inl (cY 0, 6, .inl u.2))]]) A) ([.ref (a 0), .int (nI x)] : List Value).toArray s 0 0 A) (F0 m 73 ls []) := by
                  refine lpW n ?_
                  intro w bdw ih73 fX2 hJ H locs hP hD hS ls hl
                  refine lv_iload hx hb dX9_draw_73 (lv_at hl 4 rfl) ?_
                  refine lv_aload_n hx hb dX9_draw_75 rfl (lv_at hl 0 rfl) ?_
                  refine b_get (ci := 9) (v := .int (nI n)) (C := RX9) (T := TX9) (N := 13) hx hb hts (by decide +kernel) hown hK hP 0 rfl rfl 0 (by decide) (hts (.fieldLink RX9 7 "ChanceHallModel" "states" "I") (by decide +kernel)) (fun _ h9 => h9) rfl dX9_draw_76 ?_
                  refine n_icmp_ge (tgt := 112) hx hb dX9_draw_79 (by decide) (by omega) (by omega) (fun h79 => ?_) (fun h79 => ?_)
                  · -- t
                    have hJ2 : ∀ j, j < n → fX2 j = nI (mpq g k x (q + 1) j) := fun j hj => hJ j (by omega)
                    refine lv_iconst (v := nI 0) hx hb dX9_draw_112 (by decide) ?_
                    refine lv_istore (lv' := [(4, .int (nI 0)), (0, .ref (a 0)), (1, .int (nI x)), (2, .int (nI (sdq x (q + 1)))), (3, .int (nI (q + 1)))]) hx hb dX9_draw_113 hl (by decide) rfl (fun ls hl => ?_)
                    have L115 : ∀ y : Nat, y ≤ n → ∀ (fM2 : Nat → Int32), (PWJ fM2 fX2 y) → ∀ (H : Heap) (locs : List Loc), va_P D vwCl ([mO a (nI n) (nI k) (nI 0), [(a 1, .inl (cY 0, 72, .inl fto))], [(a 9, .inl (cY 0, 6, .inl fM2))], [(a 10, .inl (cY 0, 6, .inl fX2))]] : List va_W).flatten H → va_D A ([mO a (nI n) (nI k) (nI 0), [(a 1, .inl (cY 0, 72, .inl fto))], [(a 9, .inl (cY 0, 6, .inl fM2))], [(a 10, .inl (cY 0, 6, .inl fX2))]] : List va_W).flatten → va_S A s.heap H locs → ∀ (ls : Array Slot), lv_has ls 5 [(0, .ref (a 0)), (1, .int (nI x)), (2, .int (nI (sdq x (q + 1)))), (3, .int (nI (q + 1))), (4, .int (nI y))] → W p l e ({ frames := 2, cells := 0, slots := 0, locals := 80 }) s m ([.ref (a 0), .int (nI x)] : List Value).toArray below meth c H locs 0 0 (MQ below (qI (S := (Nat → Int32) × (Nat → Int32)) D cY (fun r u => r = dgo g n k x 200 0) (fun u => [mO a (nI n) (nI k) (nI 0), [(a 1, .inl (cY 0, 72, .inl fto))], [(a 9, .inl (cY 0, 6, .inl u.1))], [(a 10, .inl (cY 0, 6, .inl u.2))]]) A) ([.ref (a 0), .int (nI x)] : List Value).toArray s 0 0 A) (F0 m 115 ls []) := by
                      refine lpW n ?_
                      intro y bdy ih115 fM2 hK2 H locs hP hD hS ls hl
                      refine lv_iload hx hb dX9_draw_115 (lv_at hl 4 rfl) ?_
                      refine lv_aload_n hx hb dX9_draw_117 rfl (lv_at hl 0 rfl) ?_
                      refine b_get (ci := 9) (v := .int (nI n)) (C := RX9) (T := TX9) (N := 13) hx hb hts (by decide +kernel) hown hK hP 0 rfl rfl 0 (by decide) (hts (.fieldLink RX9 7 "ChanceHallModel" "states" "I") (by decide +kernel)) (fun _ h9 => h9) rfl dX9_draw_118 ?_
                      refine n_icmp_ge (tgt := 144) hx hb dX9_draw_121 (by decide) (by omega) (by omega) (fun h121 => ?_) (fun h121 => ?_)
                      · -- t
                        refine lv_goto (tgt := 48) hx hb dX9_draw_144 (by decide) ?_
                        exact ih48 (by omega) fM2 fX2 (by intro j hj; rw [hK2 j (by omega)]; exact hJ2 j (by omega)) (by rw [← dgo_s h52 h59]; exact hdg) _ _ hP hD hS _ (lv_sub hl [0, 1, 2, 3] rfl)
                      · -- f
                        refine lv_aload_n hx hb dX9_draw_124 rfl (lv_at hl 0 rfl) ?_
                        refine b_get (ci := 9) (v := .ref (a 9)) (C := RX9) (T := TX9) (N := 13) hx hb hts (by decide +kernel) hown hK hP 0 rfl rfl 10 (by decide) (hts (.fieldLink RX9 42 "ChanceHallModel" "map" "[I") (by decide +kernel)) (fun _ h9 => h9) rfl dX9_draw_125 ?_
                        refine lv_iload hx hb dX9_draw_128 (lv_at hl 4 rfl) ?_
                        refine lv_aload_n hx hb dX9_draw_130 rfl (lv_at hl 0 rfl) ?_
                        refine b_get (ci := 9) (v := .ref (a 10)) (C := RX9) (T := TX9) (N := 13) hx hb hts (by decide +kernel) hown hK hP 0 rfl rfl 11 (by decide) (hts (.fieldLink RX9 45 "ChanceHallModel" "next" "[I") (by decide +kernel)) (fun _ h9 => h9) rfl dX9_draw_131 ?_
                        refine lv_iload hx hb dX9_draw_134 (lv_at hl 4 rfl) ?_
                        refine b_iald hx hb hK hP 3 0 rfl rfl (by omega) (by decide) dX9_draw_136 ?_
                        refine b_iast hx hb hK hP hD hS 2 0 rfl rfl (by omega) (by decide) dX9_draw_137 (fun H locs hP hD hS => ?_)
                        have hP : va_P D vwCl ([mO a (nI n) (nI k) (nI 0), [(a 1, .inl (cY 0, 72, .inl fto))], [(a 9, .inl (cY 0, 6, .inl (upd fM2 y (fX2 y))))], [(a 10, .inl (cY 0, 6, .inl fX2))]] : List va_W).flatten H := hP
                        have hD : va_D A ([mO a (nI n) (nI k) (nI 0), [(a 1, .inl (cY 0, 72, .inl fto))], [(a 9, .inl (cY 0, 6, .inl (upd fM2 y (fX2 y))))], [(a 10, .inl (cY 0, 6, .inl fX2))]] : List va_W).flatten := hD
                        refine lv_iinc (v := nI (y + 1)) (lv' := [(4, .int (nI (y + 1))), (0, .ref (a 0)), (1, .int (nI x)), (2, .int (nI (sdq x (q + 1)))), (3, .int (nI (q + 1)))]) hx hb dX9_draw_138 hl (k := 4) rfl (nI_1 y) (by decide) rfl (fun ls hl => ?_)
                        refine lv_goto (tgt := 115) hx hb dX9_draw_141 (by decide) ?_
                        exact ih115 (by omega) (upd fM2 y (fX2 y)) (PWJ_s hK2 rfl) _ _ hP hD hS _ (lv_sub hl [1, 2, 3, 4, 0] rfl)
                    exact L115 0 (by omega) fM PWJ_0 _ _ hP hD hS _ (lv_sub hl [1, 2, 3, 4, 0] rfl)
                  · -- f
                    refine lv_aload_n hx hb dX9_draw_82 rfl (lv_at hl 0 rfl) ?_
                    refine b_get (ci := 9) (v := .ref (a 10)) (C := RX9) (T := TX9) (N := 13) hx hb hts (by decide +kernel) hown hK hP 0 rfl rfl 11 (by decide) (hts (.fieldLink RX9 45 "ChanceHallModel" "next" "[I") (by decide +kernel)) (fun _ h9 => h9) rfl dX9_draw_83 ?_
                    refine lv_iload hx hb dX9_draw_86 (lv_at hl 4 rfl) ?_
                    refine lv_aload_n hx hb dX9_draw_88 rfl (lv_at hl 0 rfl) ?_
                    refine b_get (ci := 9) (v := .ref (a 9)) (C := RX9) (T := TX9) (N := 13) hx hb hts (by decide +kernel) hown hK hP 0 rfl rfl 10 (by decide) (hts (.fieldLink RX9 42 "ChanceHallModel" "map" "[I") (by decide +kernel)) (fun _ h9 => h9) rfl dX9_draw_89 ?_
                    refine lv_aload_n hx hb dX9_draw_92 rfl (lv_at hl 0 rfl) ?_
                    refine lv_iload hx hb dX9_draw_93 (lv_at hl 4 rfl) ?_
                    refine lv_iload_n hx hb dX9_draw_95 rfl (lv_at hl 2 rfl) ?_
                    refine lv_aload_n hx hb dX9_draw_96 rfl (lv_at hl 0 rfl) ?_
                    refine b_get (ci := 9) (v := .int (nI k)) (C := RX9) (T := TX9) (N := 13) hx hb hts (by decide +kernel) hown hK hP 0 rfl rfl 1 (by decide) (hts (.fieldLink RX9 13 "ChanceHallModel" "slots" "I") (by decide +kernel)) (fun _ h9 => h9) rfl dX9_draw_97 ?_
                    refine lv_irem hx hb dX9_draw_100 (nI_ne0 (by omega) (by omega)) ?_
                    refine eqi (x' := nI ((sdq x (q + 1)) % k)) (pk_rem (by omega) (by omega) (by omega)) ?_
                    refine ca_i (CL := [mO a (nI n) (nI k) (nI 0), [(a 1, .inl (cY 0, 72, .inl fto))]]) (va_runV (As := [.int (nI w), .int (nI ((sdq x (q + 1)) % k))]) (rest := [.ref (a 9), .int (nI w), .ref (a 10)]) ⟨hx, hb, hml, hown, hts⟩ (c_X9_goes l D cY H.size a n k (nI 0) fto g w ((sdq x (q + 1)) % k) (by omega) (by omega) (by omega) (by omega) hG (by omega) (Nat.mod_lt _ (by omega))) (cwV 2 hts gX9_draw_X9_goes rfl rfl rfl (by decide +kernel) ⟨Nat.le_of_ble_eq_true rfl, Nat.le_of_ble_eq_true rfl⟩) (b_preV hVK hP hD [0, 1] rfl rfl 0 rfl rfl) rfl rfl hl.1 rfl (lv_room (Nat.le_of_ble_eq_true rfl)) dX9_draw_101 ⟨Nat.le_refl _, Nat.le_refl _⟩) hP hD hS hA [0, 1] rfl rfl (fun _ => rfl) (fun r101 uu H locs hq hP hD hS => ?_)
                    subst hq
                    have hP : va_P D vwCl ([mO a (nI n) (nI k) (nI 0), [(a 1, .inl (cY 0, 72, .inl fto))], [(a 9, .inl (cY 0, 6, .inl fM))], [(a 10, .inl (cY 0, 6, .inl fX2))]] : List va_W).flatten H := hP
                    have hD : va_D A ([mO a (nI n) (nI k) (nI 0), [(a 1, .inl (cY 0, 72, .inl fto))], [(a 9, .inl (cY 0, 6, .inl fM))], [(a 10, .inl (cY 0, 6, .inl fX2))]] : List va_W).flatten := hD
                    have hgw := hgn w (sdq x (q + 1) % k) (by omega) (Nat.mod_lt _ (by omega))
                    refine b_iald hx hb hK hP 2 0 rfl rfl (by omega) (by decide) dX9_draw_104 ?_
                    refine eqi (x' := nI (mpq g k x (q + 1) w)) (hF _ hgw) ?_
                    refine b_iast hx hb hK hP hD hS 3 0 rfl rfl (by omega) (by decide) dX9_draw_105 (fun H locs hP hD hS => ?_)
                    have hP : va_P D vwCl ([mO a (nI n) (nI k) (nI 0), [(a 1, .inl (cY 0, 72, .inl fto))], [(a 9, .inl (cY 0, 6, .inl fM))], [(a 10, .inl (cY 0, 6, .inl (upd fX2 w (nI (mpq g k x (q + 1) w)))))]] : List va_W).flatten H := hP
                    have hD : va_D A ([mO a (nI n) (nI k) (nI 0), [(a 1, .inl (cY 0, 72, .inl fto))], [(a 9, .inl (cY 0, 6, .inl fM))], [(a 10, .inl (cY 0, 6, .inl (upd fX2 w (nI (mpq g k x (q + 1) w)))))]] : List va_W).flatten := hD
                    refine lv_iinc (v := nI (w + 1)) (lv' := [(4, .int (nI (w + 1))), (0, .ref (a 0)), (1, .int (nI x)), (2, .int (nI (sdq x (q + 1)))), (3, .int (nI (q + 1)))]) hx hb dX9_draw_106 hl (k := 4) rfl (nI_1 w) (by decide) rfl (fun ls hl => ?_)
                    refine lv_goto (tgt := 73) hx hb dX9_draw_109 (by decide) ?_
                    exact ih73 (by omega) (upd fX2 w (nI (mpq g k x (q + 1) w))) (PWJ_s hJ rfl) _ _ hP hD hS _ (lv_sub hl [1, 2, 3, 4, 0] rfl)
                exact L73 0 (by omega) fX PWJ_0 _ _ hP hD hS _ (lv_sub hl [3, 4, 2, 1, 0] rfl)
          exact L48 0 (by omega) fM fnxt (by (have e : j = n := by omega); rw [← e]; exact hI) rfl _ _ hP hD hS _ (lv_sub hl [2, 3, 1, 0] rfl)
        · -- f
          refine lv_aload_n hx hb dX9_draw_31 rfl (lv_at hl 0 rfl) ?_
          refine b_get (ci := 9) (v := .ref (a 9)) (C := RX9) (T := TX9) (N := 13) hx hb hts (by decide +kernel) hown hK hP 0 rfl rfl 10 (by decide) (hts (.fieldLink RX9 42 "ChanceHallModel" "map" "[I") (by decide +kernel)) (fun _ h9 => h9) rfl dX9_draw_32 ?_
          refine lv_iload_n hx hb dX9_draw_35 rfl (lv_at hl 2 rfl) ?_
          refine lv_iload_n hx hb dX9_draw_36 rfl (lv_at hl 2 rfl) ?_
          refine b_iast hx hb hK hP hD hS 2 0 rfl rfl (by omega) (by decide) dX9_draw_37 (fun H locs hP hD hS => ?_)
          have hP : va_P D vwCl ([mO a (nI n) (nI k) (nI 0), [(a 1, .inl (cY 0, 72, .inl fto))], [(a 9, .inl (cY 0, 6, .inl (upd fM j (nI j))))], [(a 10, .inl (cY 0, 6, .inl fnxt))]] : List va_W).flatten H := hP
          have hD : va_D A ([mO a (nI n) (nI k) (nI 0), [(a 1, .inl (cY 0, 72, .inl fto))], [(a 9, .inl (cY 0, 6, .inl (upd fM j (nI j))))], [(a 10, .inl (cY 0, 6, .inl fnxt))]] : List va_W).flatten := hD
          refine lv_iinc (v := nI (j + 1)) (lv' := [(2, .int (nI (j + 1))), (0, .ref (a 0)), (1, .int (nI x))]) hx hb dX9_draw_38 hl (k := 2) rfl (nI_1 j) (by decide) rfl (fun ls hl => ?_)
          refine lv_goto (tgt := 23) hx hb dX9_draw_41 (by decide) ?_
          exact ih23 (by omega) (upd fM j (nI j)) (PWJ_s hI rfl) _ _ hP hD hS _ (lv_sub hl [1, 2, 0] rfl)
      exact L23 0 (by omega) fmap PWJ_0 _ _ hP hD hS _ (lv_sub hl [1, 2, 0] rfl)
    · -- f
      exact absurd h16 (by decide)

set_option maxHeartbeats 4000000 in
set_option maxRecDepth 100000 in
theorem c_X9_driftOf (l : Launch) (D : va_G) (cY : Nat → ClassId) (sz : Nat) (a : Nat → Nat) (n : Nat) (k : Nat) (th : Int32) (fto : Nat → Int32) (fpay : Nat → Int32) (g : Nat → Nat → Nat) (i : Nat) (hn1 : 1 ≤ n) (hn6 : n ≤ 6) (hk1 : 1 ≤ k) (hk12 : k ≤ 12) (hG : ∀ i j, i < n → j < k → fto (12 * i + j) = nI (g i j)) (hgn : ∀ i j, i < n → j < k → g i j < n) (hi : i < n) : Met l yX9_driftOf wsX9_driftOf ({ frames := 1, cells := 0, slots := 0, locals := 40 }) (cP D cY [.ref (a 0), .int (nI i)] [mO a (nI n) (nI k) th, [(a 1, .inl (cY 0, 72, .inl fto))], [(a 2, .inl (cY 0, 6, .inl fpay))]] sz) (qL (S := Unit) D cY (fun r u => r = DV fpay g k i) (fun u => [mO a (nI n) (nI k) th, [(a 1, .inl (cY 0, 72, .inl fto))], [(a 2, .inl (cY 0, 6, .inl fpay))]]) (va_A ([mO a (nI n) (nI k) th, [(a 1, .inl (cY 0, 72, .inl fto))], [(a 2, .inl (cY 0, 6, .inl fpay))]] : List va_W).flatten sz)) 0 0 (va_A ([mO a (nI n) (nI k) th, [(a 1, .inl (cY 0, 72, .inl fto))], [(a 2, .inl (cY 0, 6, .inl fpay))]] : List va_W).flatten sz) := by
  refine mtB (Qc := fun A => qL (S := Unit) D cY (fun r u => r = DV fpay g k i) (fun u => [mO a (nI n) (nI k) th, [(a 1, .inl (cY 0, 72, .inl fto))], [(a 2, .inl (cY 0, 6, .inl fpay))]]) A) (cc := cX9_driftOf) (maxL := 5) (ret := (some .long)) (by decide) rfl (Nat.le_of_ble_eq_true rfl) ?_
  intro p e s m below meth c A ls hx hb hr hml hts hown hlocks hnm hsz hP hK hVK hD hS hA hl
  have hown : s.vm.findClass RX9 = some m.cls := hown
  have hl : lv_has ls 5 [(0, .ref (a 0)), (1, .int (nI i))] := hl
  have hP : va_P D vwCl ([mO a (nI n) (nI k) th, [(a 1, .inl (cY 0, 72, .inl fto))], [(a 2, .inl (cY 0, 6, .inl fpay))]] : List va_W).flatten s.heap := hP
  have hD : va_D A ([mO a (nI n) (nI k) th, [(a 1, .inl (cY 0, 72, .inl fto))], [(a 2, .inl (cY 0, 6, .inl fpay))]] : List va_W).flatten := hD
  refine lv_lconst (v := lN 0) hx hb dX9_driftOf_0 (by decide) ?_
  refine lv_lstore_n (lv' := [(2, .long (lN 0)), (0, .ref (a 0)), (1, .int (nI i))]) hx hb dX9_driftOf_1 rfl hl (by decide) rfl (fun ls hl => ?_)
  refine lv_iconst (v := nI 0) hx hb dX9_driftOf_2 (by decide) ?_
  refine lv_istore (lv' := [(4, .int (nI 0)), (2, .long (lN 0)), (0, .ref (a 0)), (1, .int (nI i))]) hx hb dX9_driftOf_3 hl (by decide) rfl (fun ls hl => ?_)
  have L5 : ∀ q : Nat, q ≤ k →  ∀ (H : Heap) (locs : List Loc), va_P D vwCl ([mO a (nI n) (nI k) th, [(a 1, .inl (cY 0, 72, .inl fto))], [(a 2, .inl (cY 0, 6, .inl fpay))]] : List va_W).flatten H → va_D A ([mO a (nI n) (nI k) th, [(a 1, .inl (cY 0, 72, .inl fto))], [(a 2, .inl (cY 0, 6, .inl fpay))]] : List va_W).flatten → va_S A s.heap H locs → ∀ (ls : Array Slot), lv_has ls 5 [(0, .ref (a 0)), (1, .int (nI i)), (2, .long (sumL (fun s => (fpay (g i s) - fpay i).toInt64) q)), (4, .int (nI q))] → W p l e ({ frames := 1, cells := 0, slots := 0, locals := 40 }) s m ([.ref (a 0), .int (nI i)] : List Value).toArray below meth c H locs 0 0 (MQ below (qL (S := Unit) D cY (fun r u => r = DV fpay g k i) (fun u => [mO a (nI n) (nI k) th, [(a 1, .inl (cY 0, 72, .inl fto))], [(a 2, .inl (cY 0, 6, .inl fpay))]]) A) ([.ref (a 0), .int (nI i)] : List Value).toArray s 0 0 A) (F0 m 5 ls []) := by
    refine lpW k ?_
    intro q bdq ih5   H locs hP hD hS ls hl
    refine lv_iload hx hb dX9_driftOf_5 (lv_at hl 3 rfl) ?_
    refine lv_aload_n hx hb dX9_driftOf_7 rfl (lv_at hl 0 rfl) ?_
    refine b_get (ci := 9) (v := .int (nI k)) (C := RX9) (T := TX9) (N := 13) hx hb hts (by decide +kernel) hown hK hP 0 rfl rfl 1 (by decide) (hts (.fieldLink RX9 13 "ChanceHallModel" "slots" "I") (by decide +kernel)) (fun _ h9 => h9) rfl dX9_driftOf_8 ?_
    refine n_icmp_ge (tgt := 43) hx hb dX9_driftOf_11 (by decide) (by omega) (by omega) (fun h11 => ?_) (fun h11 => ?_)
    · -- t
      refine lv_lload_n hx hb dX9_driftOf_43 rfl (lv_at hl 2 rfl) ?_
      exact r_l hx hb hr hlocks hP hD hS () rfl (by (have e : q = k := by omega); subst e; rfl) dX9_driftOf_44
    · -- f
      refine lv_lload_n hx hb dX9_driftOf_14 rfl (lv_at hl 2 rfl) ?_
      refine lv_aload_n hx hb dX9_driftOf_15 rfl (lv_at hl 0 rfl) ?_
      refine b_get (ci := 9) (v := .ref (a 2)) (C := RX9) (T := TX9) (N := 13) hx hb hts (by decide +kernel) hown hK hP 0 rfl rfl 3 (by decide) (hts (.fieldLink RX9 20 "ChanceHallModel" "pay" "[I") (by decide +kernel)) (fun _ h9 => h9) rfl dX9_driftOf_16 ?_
      refine lv_aload_n hx hb dX9_driftOf_19 rfl (lv_at hl 0 rfl) ?_
      refine lv_iload_n hx hb dX9_driftOf_20 rfl (lv_at hl 1 rfl) ?_
      refine lv_iload hx hb dX9_driftOf_21 (lv_at hl 3 rfl) ?_
      refine ca_i (CL := [mO a (nI n) (nI k) th, [(a 1, .inl (cY 0, 72, .inl fto))]]) (va_runV (As := [.int (nI i), .int (nI q)]) (rest := [.ref (a 2), .long (sumL (fun s => (fpay (g i s) - fpay i).toInt64) q)]) ⟨hx, hb, hml, hown, hts⟩ (c_X9_goes l D cY H.size a n k th fto g i q (by omega) (by omega) (by omega) (by omega) hG (by omega) (by omega)) (cwV 2 hts gX9_driftOf_X9_goes rfl rfl rfl (by decide +kernel) ⟨Nat.le_of_ble_eq_true rfl, Nat.le_of_ble_eq_true rfl⟩) (b_preV hVK hP hD [0, 1] rfl rfl 0 rfl rfl) rfl rfl hl.1 rfl (lv_room (Nat.le_of_ble_eq_true rfl)) dX9_driftOf_23 ⟨Nat.le_refl _, Nat.le_refl _⟩) hP hD hS hA [0, 1] rfl rfl (fun _ => rfl) (fun r23 uu H locs hq hP hD hS => ?_)
      subst hq
      have hP : va_P D vwCl ([mO a (nI n) (nI k) th, [(a 1, .inl (cY 0, 72, .inl fto))], [(a 2, .inl (cY 0, 6, .inl fpay))]] : List va_W).flatten H := hP
      have hD : va_D A ([mO a (nI n) (nI k) th, [(a 1, .inl (cY 0, 72, .inl fto))], [(a 2, .inl (cY 0, 6, .inl fpay))]] : List va_W).flatten := hD
      have hgi := hgn i q (by omega) (by omega)
      refine b_iald hx hb hK hP 2 0 rfl rfl (by omega) (by decide) dX9_driftOf_26 ?_
      refine lv_aload_n hx hb dX9_driftOf_27 rfl (lv_at hl 0 rfl) ?_
      refine b_get (ci := 9) (v := .ref (a 2)) (C := RX9) (T := TX9) (N := 13) hx hb hts (by decide +kernel) hown hK hP 0 rfl rfl 3 (by decide) (hts (.fieldLink RX9 20 "ChanceHallModel" "pay" "[I") (by decide +kernel)) (fun _ h9 => h9) rfl dX9_driftOf_28 ?_
      refine lv_iload_n hx hb dX9_driftOf_31 rfl (lv_at hl 1 rfl) ?_
      refine b_iald hx hb hK hP 2 0 rfl rfl (by omega) (by decide) dX9_driftOf_32 ?_
      refine lv_isub hx hb dX9_driftOf_33 ?_
      refine lv_i2l (v := (((fpay (g i q)) - (fpay i))).toInt64) hx hb dX9_driftOf_34 rfl ?_
      refine lv_ladd hx hb dX9_driftOf_35 ?_
      refine lv_lstore_n (lv' := [(2, .long ((sumL (fun s => (fpay (g i s) - fpay i).toInt64) q) + ((((fpay (g i q)) - (fpay i))).toInt64))), (0, .ref (a 0)), (1, .int (nI i)), (4, .int (nI q))]) hx hb dX9_driftOf_36 rfl hl (by decide) rfl (fun ls hl => ?_)
      refine lv_iinc (v := nI (q + 1)) (lv' := [(4, .int (nI (q + 1))), (2, .long ((sumL (fun s => (fpay (g i s) - fpay i).toInt64) q) + ((((fpay (g i q)) - (fpay i))).toInt64))), (0, .ref (a 0)), (1, .int (nI i))]) hx hb dX9_driftOf_37 hl (k := 3) rfl (nI_1 q) (by decide) rfl (fun ls hl => ?_)
      refine lv_goto (tgt := 5) hx hb dX9_driftOf_40 (by decide) ?_
      exact ih5 (by omega)   _ _ hP hD hS _ (lv_sub hl [2, 3, 1, 0] rfl)
  exact L5 0 (by omega)   _ _ hP hD hS _ (lv_sub hl [2, 3, 1, 0] rfl)

set_option maxHeartbeats 4000000 in
set_option maxRecDepth 100000 in
theorem c_X9_isFair (l : Launch) (D : va_G) (cY : Nat → ClassId) (sz : Nat) (a : Nat → Nat) (n : Nat) (k : Nat) (th : Int32) (fto : Nat → Int32) (fpay : Nat → Int32) (g : Nat → Nat → Nat) (hn1 : 1 ≤ n) (hn6 : n ≤ 6) (hk1 : 1 ≤ k) (hk12 : k ≤ 12) (hG : ∀ i j, i < n → j < k → fto (12 * i + j) = nI (g i j)) (hgn : ∀ i j, i < n → j < k → g i j < n) : Met l yX9_isFair wsX9_isFair ({ frames := 2, cells := 0, slots := 0, locals := 80 }) (cP D cY [.ref (a 0)] [mO a (nI n) (nI k) th, [(a 1, .inl (cY 0, 72, .inl fto))], [(a 2, .inl (cY 0, 6, .inl fpay))]] sz) (qI (S := Unit) D cY (fun r u => r = bI (fairB fpay g n k)) (fun u => [mO a (nI n) (nI k) (nI 0), [(a 1, .inl (cY 0, 72, .inl fto))], [(a 2, .inl (cY 0, 6, .inl fpay))]]) (va_A ([mO a (nI n) (nI k) th, [(a 1, .inl (cY 0, 72, .inl fto))], [(a 2, .inl (cY 0, 6, .inl fpay))]] : List va_W).flatten sz)) 0 0 (va_A ([mO a (nI n) (nI k) th, [(a 1, .inl (cY 0, 72, .inl fto))], [(a 2, .inl (cY 0, 6, .inl fpay))]] : List va_W).flatten sz) := by
  refine mtB (Qc := fun A => qI (S := Unit) D cY (fun r u => r = bI (fairB fpay g n k)) (fun u => [mO a (nI n) (nI k) (nI 0), [(a 1, .inl (cY 0, 72, .inl fto))], [(a 2, .inl (cY 0, 6, .inl fpay))]]) A) (cc := cX9_isFair) (maxL := 3) (ret := (some .boolean)) (by decide) rfl (Nat.le_of_ble_eq_true rfl) ?_
  intro p e s m below meth c A ls hx hb hr hml hts hown hlocks hnm hsz hP hK hVK hD hS hA hl
  have hown : s.vm.findClass RX9 = some m.cls := hown
  have hl : lv_has ls 3 [(0, .ref (a 0))] := hl
  have hP : va_P D vwCl ([mO a (nI n) (nI k) th, [(a 1, .inl (cY 0, 72, .inl fto))], [(a 2, .inl (cY 0, 6, .inl fpay))]] : List va_W).flatten s.heap := hP
  have hD : va_D A ([mO a (nI n) (nI k) th, [(a 1, .inl (cY 0, 72, .inl fto))], [(a 2, .inl (cY 0, 6, .inl fpay))]] : List va_W).flatten := hD
  refine lv_aload_n hx hb dX9_isFair_0 rfl (lv_at hl 0 rfl) ?_
  refine lv_iconst (v := nI 0) hx hb dX9_isFair_1 (by decide) ?_
  refine b_put (ci := 9) (v := .int (nI 0)) (ty := .int) (C := RX9) (T := TX9) (N := 13) hx hb hts (by decide +kernel) tyX9 tyX9_ok nmX9 hown hK hP hD hS 0 rfl rfl 12 (by decide) (hts (.fieldLink RX9 48 "ChanceHallModel" "thrown" "I") (by decide +kernel)) (fun _ h9 => h9) rfl (by decide +kernel) rfl rfl (Nat.le_of_ble_eq_true rfl) dX9_isFair_2 (fun H locs hP hD hS => ?_)
  have hP : va_P D vwCl ([mO a (nI n) (nI k) (nI 0), [(a 1, .inl (cY 0, 72, .inl fto))], [(a 2, .inl (cY 0, 6, .inl fpay))]] : List va_W).flatten H := hP
  have hD : va_D A ([mO a (nI n) (nI k) (nI 0), [(a 1, .inl (cY 0, 72, .inl fto))], [(a 2, .inl (cY 0, 6, .inl fpay))]] : List va_W).flatten := hD
  refine lv_iconst (v := nI 1) hx hb dX9_isFair_5 (by decide) ?_
  refine lv_istore_n (lv' := [(1, .int (nI 1)), (0, .ref (a 0))]) hx hb dX9_isFair_6 rfl hl (by decide) rfl (fun ls hl => ?_)
  refine lv_iconst (v := nI 0) hx hb dX9_isFair_7 (by decide) ?_
  refine lv_istore_n (lv' := [(2, .int (nI 0)), (1, .int (nI 1)), (0, .ref (a 0))]) hx hb dX9_isFair_8 rfl hl (by decide) rfl (fun ls hl => ?_)
  have L9 : ∀ q : Nat, q ≤ n →  ∀ (H : Heap) (locs : List Loc), va_P D vwCl ([mO a (nI n) (nI k) (nI 0), [(a 1, .inl (cY 0, 72, .inl fto))], [(a 2, .inl (cY 0, 6, .inl fpay))]] : List va_W).flatten H → va_D A ([mO a (nI n) (nI k) (nI 0), [(a 1, .inl (cY 0, 72, .inl fto))], [(a 2, .inl (cY 0, 6, .inl fpay))]] : List va_W).flatten → va_S A s.heap H locs → ∀ (ls : Array Slot), lv_has ls 3 [(0, .ref (a 0)), (1, .int (bI (allB (fun q => decide (DV fpay g k q = lN 0)) q))), (2, .int (nI q))] → W p l e ({ frames := 2, cells := 0, slots := 0, locals := 80 }) s m ([.ref (a 0)] : List Value).toArray below meth c H locs 0 0 (MQ below (qI (S := Unit) D cY (fun r u => r = bI (fairB fpay g n k)) (fun u => [mO a (nI n) (nI k) (nI 0), [(a 1, .inl (cY 0, 72, .inl fto))], [(a 2, .inl (cY 0, 6, .inl fpay))]]) A) ([.ref (a 0)] : List Value).toArray s 0 0 A) (F0 m 9 ls []) := by
    refine lpW n ?_
    intro q bdq ih9   H locs hP hD hS ls hl
    refine lv_iload_n hx hb dX9_isFair_9 rfl (lv_at hl 2 rfl) ?_
    refine lv_aload_n hx hb dX9_isFair_10 rfl (lv_at hl 0 rfl) ?_
    refine b_get (ci := 9) (v := .int (nI n)) (C := RX9) (T := TX9) (N := 13) hx hb hts (by decide +kernel) hown hK hP 0 rfl rfl 0 (by decide) (hts (.fieldLink RX9 7 "ChanceHallModel" "states" "I") (by decide +kernel)) (fun _ h9 => h9) rfl dX9_isFair_11 ?_
    refine n_icmp_ge (tgt := 43) hx hb dX9_isFair_14 (by decide) (by omega) (by omega) (fun h14 => ?_) (fun h14 => ?_)
    · -- t
      refine lv_iload_n hx hb dX9_isFair_43 rfl (lv_at hl 1 rfl) ?_
      exact r_z hx hb hr hlocks hP hD hS () rfl (by (have e : q = n := by omega); subst e; rfl) dX9_isFair_44
    · -- f
      refine lv_iload_n hx hb dX9_isFair_17 rfl (lv_at hl 1 rfl) ?_
      refine b_if_eq (tgt := 35) hx hb dX9_isFair_18 (by decide) (fun h18 => ?_) (fun h18 => ?_)
      · -- t
        refine lv_iconst (v := nI 0) hx hb dX9_isFair_35 (by decide) ?_
        refine eqi (x' := bI (allB (fun q => decide (DV fpay g k q = lN 0)) (q + 1))) (by first | exact l1_f (Or.inl h18) | exact l1_f (Or.inr (dec_f h28))) ?_
        refine lv_istore_n (lv' := [(1, .int (bI (allB (fun q => decide (DV fpay g k q = lN 0)) (q + 1)))), (0, .ref (a 0)), (2, .int (nI q))]) hx hb dX9_isFair_36 rfl hl (by decide) rfl (fun ls hl => ?_)
        refine lv_iinc (v := nI (q + 1)) (lv' := [(2, .int (nI (q + 1))), (1, .int (bI (allB (fun q => decide (DV fpay g k q = lN 0)) (q + 1)))), (0, .ref (a 0))]) hx hb dX9_isFair_37 hl (k := 2) rfl (nI_1 q) (by decide) rfl (fun ls hl => ?_)
        refine lv_goto (tgt := 9) hx hb dX9_isFair_40 (by decide) ?_
        exact ih9 (by omega)   _ _ hP hD hS _ (lv_sub hl [2, 1, 0] rfl)
      · -- f
        refine lv_aload_n hx hb dX9_isFair_21 rfl (lv_at hl 0 rfl) ?_
        refine lv_iload_n hx hb dX9_isFair_22 rfl (lv_at hl 2 rfl) ?_
        refine ca_l (CL := [mO a (nI n) (nI k) (nI 0), [(a 1, .inl (cY 0, 72, .inl fto))], [(a 2, .inl (cY 0, 6, .inl fpay))]]) (va_runV (As := [.int (nI q)]) (rest := []) ⟨hx, hb, hml, hown, hts⟩ (c_X9_driftOf l D cY H.size a n k (nI 0) fto fpay g q (by omega) (by omega) (by omega) (by omega) hG hgn (by omega)) (cwV 1 hts gX9_isFair_X9_driftOf rfl rfl rfl (by decide +kernel) ⟨Nat.le_of_ble_eq_true rfl, Nat.le_of_ble_eq_true rfl⟩) (b_preV hVK hP hD [0, 1, 2] rfl rfl 0 rfl rfl) rfl rfl hl.1 rfl (lv_room (Nat.le_of_ble_eq_true rfl)) dX9_isFair_23 ⟨Nat.le_refl _, Nat.le_refl _⟩) hP hD hS hA [0, 1, 2] rfl rfl (fun _ => rfl) (fun r23 uu H locs hq hP hD hS => ?_)
        subst hq
        have hP : va_P D vwCl ([mO a (nI n) (nI k) (nI 0), [(a 1, .inl (cY 0, 72, .inl fto))], [(a 2, .inl (cY 0, 6, .inl fpay))]] : List va_W).flatten H := hP
        have hD : va_D A ([mO a (nI n) (nI k) (nI 0), [(a 1, .inl (cY 0, 72, .inl fto))], [(a 2, .inl (cY 0, 6, .inl fpay))]] : List va_W).flatten := hD
        refine lv_lconst (v := lN 0) hx hb dX9_isFair_26 (by decide) ?_
        refine W.lcmp hx hb dX9_isFair_27 ?_
        refine l_if_ne (tgt := 35) hx hb dX9_isFair_28 (by decide) (fun h28 => ?_) (fun h28 => ?_)
        · -- t
          refine lv_iconst (v := nI 0) hx hb dX9_isFair_35 (by decide) ?_
          refine eqi (x' := bI (allB (fun q => decide (DV fpay g k q = lN 0)) (q + 1))) (by first | exact l1_f (Or.inl h18) | exact l1_f (Or.inr (dec_f h28))) ?_
          refine lv_istore_n (lv' := [(1, .int (bI (allB (fun q => decide (DV fpay g k q = lN 0)) (q + 1)))), (0, .ref (a 0)), (2, .int (nI q))]) hx hb dX9_isFair_36 rfl hl (by decide) rfl (fun ls hl => ?_)
          refine lv_iinc (v := nI (q + 1)) (lv' := [(2, .int (nI (q + 1))), (1, .int (bI (allB (fun q => decide (DV fpay g k q = lN 0)) (q + 1)))), (0, .ref (a 0))]) hx hb dX9_isFair_37 hl (k := 2) rfl (nI_1 q) (by decide) rfl (fun ls hl => ?_)
          refine lv_goto (tgt := 9) hx hb dX9_isFair_40 (by decide) ?_
          exact ih9 (by omega)   _ _ hP hD hS _ (lv_sub hl [2, 1, 0] rfl)
        · -- f
          refine lv_iconst (v := nI 1) hx hb dX9_isFair_31 (by decide) ?_
          refine lv_goto (tgt := 36) hx hb dX9_isFair_32 (by decide) ?_
          refine eqi (x' := bI (allB (fun q => decide (DV fpay g k q = lN 0)) (q + 1))) (l1_t h18 (dec_t h28)) ?_
          refine lv_istore_n (lv' := [(1, .int (bI (allB (fun q => decide (DV fpay g k q = lN 0)) (q + 1)))), (0, .ref (a 0)), (2, .int (nI q))]) hx hb dX9_isFair_36 rfl hl (by decide) rfl (fun ls hl => ?_)
          refine lv_iinc (v := nI (q + 1)) (lv' := [(2, .int (nI (q + 1))), (1, .int (bI (allB (fun q => decide (DV fpay g k q = lN 0)) (q + 1)))), (0, .ref (a 0))]) hx hb dX9_isFair_37 hl (k := 2) rfl (nI_1 q) (by decide) rfl (fun ls hl => ?_)
          refine lv_goto (tgt := 9) hx hb dX9_isFair_40 (by decide) ?_
          exact ih9 (by omega)   _ _ hP hD hS _ (lv_sub hl [2, 1, 0] rfl)
  exact L9 0 (by omega)   _ _ hP hD hS _ (lv_sub hl [2, 1, 0] rfl)

set_option maxHeartbeats 4000000 in
set_option maxRecDepth 100000 in
theorem c_X9_plays (l : Launch) (D : va_G) (cY : Nat → ClassId) (sz : Nat) (a : Nat → Nat) (n : Nat) (k : Nat) (th : Int32) (fto : Nat → Int32) (fpay : Nat → Int32) (fnow : Nat → Int64) (fthn : Nat → Int64) (foth : Nat → Int64) (g : Nat → Nat → Nat) (t : Nat) (hn1 : 1 ≤ n) (hn6 : n ≤ 6) (hk1 : 1 ≤ k) (hk12 : k ≤ 12) (hG : ∀ i j, i < n → j < k → fto (12 * i + j) = nI (g i j)) (hgn : ∀ i j, i < n → j < k → g i j < n) (ht : t ≤ 12) : Met l yX9_plays wsX9_plays ({ frames := 1, cells := 0, slots := 0, locals := 40 }) (cP D cY [.ref (a 0), .int (nI t)] [mO a (nI n) (nI k) th, [(a 1, .inl (cY 0, 72, .inl fto))], [(a 2, .inl (cY 0, 6, .inl fpay))], [(a 4, .inl (cY 1, 64, .inr (.inl fnow)))], [(a 5, .inl (cY 1, 64, .inr (.inl fthn)))], [(a 6, .inl (cY 1, 6, .inr (.inl foth)))]] sz) (qV (S := (Nat → Int64) × (Nat → Int64) × (Nat → Int64)) D cY (fun u => (∀ j, j < n → u.1 j = BV fpay g k t j) ∧ ∀ j, j < n → u.2.2 j = GV fpay g k t j) (fun u => [mO a (nI n) (nI k) th, [(a 1, .inl (cY 0, 72, .inl fto))], [(a 2, .inl (cY 0, 6, .inl fpay))], [(a 4, .inl (cY 1, 64, .inr (.inl u.1)))], [(a 5, .inl (cY 1, 64, .inr (.inl u.2.1)))], [(a 6, .inl (cY 1, 6, .inr (.inl u.2.2)))]]) (va_A ([mO a (nI n) (nI k) th, [(a 1, .inl (cY 0, 72, .inl fto))], [(a 2, .inl (cY 0, 6, .inl fpay))], [(a 4, .inl (cY 1, 64, .inr (.inl fnow)))], [(a 5, .inl (cY 1, 64, .inr (.inl fthn)))], [(a 6, .inl (cY 1, 6, .inr (.inl foth)))]] : List va_W).flatten sz)) 0 0 (va_A ([mO a (nI n) (nI k) th, [(a 1, .inl (cY 0, 72, .inl fto))], [(a 2, .inl (cY 0, 6, .inl fpay))], [(a 4, .inl (cY 1, 64, .inr (.inl fnow)))], [(a 5, .inl (cY 1, 64, .inr (.inl fthn)))], [(a 6, .inl (cY 1, 6, .inr (.inl foth)))]] : List va_W).flatten sz) := by
  refine mtB (Qc := fun A => qV (S := (Nat → Int64) × (Nat → Int64) × (Nat → Int64)) D cY (fun u => (∀ j, j < n → u.1 j = BV fpay g k t j) ∧ ∀ j, j < n → u.2.2 j = GV fpay g k t j) (fun u => [mO a (nI n) (nI k) th, [(a 1, .inl (cY 0, 72, .inl fto))], [(a 2, .inl (cY 0, 6, .inl fpay))], [(a 4, .inl (cY 1, 64, .inr (.inl u.1)))], [(a 5, .inl (cY 1, 64, .inr (.inl u.2.1)))], [(a 6, .inl (cY 1, 6, .inr (.inl u.2.2)))]]) A) (cc := cX9_plays) (maxL := 6) (ret := none) (by decide) rfl (Nat.le_of_ble_eq_true rfl) ?_
  intro p e s m below meth c A ls hx hb hr hml hts hown hlocks hnm hsz hP hK hVK hD hS hA hl
  have hown : s.vm.findClass RX9 = some m.cls := hown
  have hl : lv_has ls 6 [(0, .ref (a 0)), (1, .int (nI t))] := hl
  have hP : va_P D vwCl ([mO a (nI n) (nI k) th, [(a 1, .inl (cY 0, 72, .inl fto))], [(a 2, .inl (cY 0, 6, .inl fpay))], [(a 4, .inl (cY 1, 64, .inr (.inl fnow)))], [(a 5, .inl (cY 1, 64, .inr (.inl fthn)))], [(a 6, .inl (cY 1, 6, .inr (.inl foth)))]] : List va_W).flatten s.heap := hP
  have hD : va_D A ([mO a (nI n) (nI k) th, [(a 1, .inl (cY 0, 72, .inl fto))], [(a 2, .inl (cY 0, 6, .inl fpay))], [(a 4, .inl (cY 1, 64, .inr (.inl fnow)))], [(a 5, .inl (cY 1, 64, .inr (.inl fthn)))], [(a 6, .inl (cY 1, 6, .inr (.inl foth)))]] : List va_W).flatten := hD
  refine lv_iconst (v := nI 0) hx hb dX9_plays_0 (by decide) ?_
  refine lv_istore_n (lv' := [(2, .int (nI 0)), (0, .ref (a 0)), (1, .int (nI t))]) hx hb dX9_plays_1 rfl hl (by decide) rfl (fun ls hl => ?_)
  have L2 : ∀ q : Nat, q ≤ n → ∀ (fN : Nat → Int64) (fO : Nat → Int64), (PWI fN (BV fpay g k 0) q) → (PWI fO (GV fpay g k 0) q) → ∀ (H : Heap) (locs : List Loc), va_P D vwCl ([mO a (nI n) (nI k) th, [(a 1, .inl (cY 0, 72, .inl fto))], [(a 2, .inl (cY 0, 6, .inl fpay))], [(a 4, .inl (cY 1, 64, .inr (.inl fN)))], [(a 5, .inl (cY 1, 64, .inr (.inl fthn)))], [(a 6, .inl (cY 1, 6, .inr (.inl fO)))]] : List va_W).flatten H → va_D A ([mO a (nI n) (nI k) th, [(a 1, .inl (cY 0, 72, .inl fto))], [(a 2, .inl (cY 0, 6, .inl fpay))], [(a 4, .inl (cY 1, 64, .inr (.inl fN)))], [(a 5, .inl (cY 1, 64, .inr (.inl fthn)))], [(a 6, .inl (cY 1, 6, .inr (.inl fO)))]] : List va_W).flatten → va_S A s.heap H locs → ∀ (ls : Array Slot), lv_has ls 6 [(0, .ref (a 0)), (1, .int (nI t)), (2, .int (nI q))] → W p l e ({ frames := 1, cells := 0, slots := 0, locals := 40 }) s m ([.ref (a 0), .int (nI t)] : List Value).toArray below meth c H locs 0 0 (MQ below (qV (S := (Nat → Int64) × (Nat → Int64) × (Nat → Int64)) D cY (fun u => (∀ j, j < n → u.1 j = BV fpay g k t j) ∧ ∀ j, j < n → u.2.2 j = GV fpay g k t j) (fun u => [mO a (nI n) (nI k) th, [(a 1, .inl (cY 0, 72, .inl fto))], [(a 2, .inl (cY 0, 6, .inl fpay))], [(a 4, .inl (cY 1, 64, .inr (.inl u.1)))], [(a 5, .inl (cY 1, 64, .inr (.inl u.2.1)))], [(a 6, .inl (cY 1, 6, .inr (.inl u.2.2)))]]) A) ([.ref (a 0), .int (nI t)] : List Value).toArray s 0 0 A) (F0 m 2 ls []) := by
    refine lpW n ?_
    intro q bdq ih2 fN fO hI hJ H locs hP hD hS ls hl
    refine lv_iload_n hx hb dX9_plays_2 rfl (lv_at hl 2 rfl) ?_
    refine lv_aload_n hx hb dX9_plays_3 rfl (lv_at hl 0 rfl) ?_
    refine b_get (ci := 9) (v := .int (nI n)) (C := RX9) (T := TX9) (N := 13) hx hb hts (by decide +kernel) hown hK hP 0 rfl rfl 0 (by decide) (hts (.fieldLink RX9 7 "ChanceHallModel" "states" "I") (by decide +kernel)) (fun _ h9 => h9) rfl dX9_plays_4 ?_
    refine n_icmp_ge (tgt := 42) hx hb dX9_plays_7 (by decide) (by omega) (by omega) (fun h7 => ?_) (fun h7 => ?_)
    · -- t
      refine lv_iconst (v := nI 1) hx hb dX9_plays_42 (by decide) ?_
      refine lv_istore_n (lv' := [(2, .int (nI 1)), (0, .ref (a 0)), (1, .int (nI t))]) hx hb dX9_plays_43 rfl hl (by decide) rfl (fun ls hl => ?_)
      have L44 : ∀ u : Nat, u ≤ t → ∀ (fN1 : Nat → Int64) (fT1 : Nat → Int64) (fO1 : Nat → Int64), (∀ j, j < n → fN1 j = BV fpay g k u j) → (∀ j, j < n → fO1 j = GV fpay g k u j) → ∀ (H : Heap) (locs : List Loc), va_P D vwCl ([mO a (nI n) (nI k) th, [(a 1, .inl (cY 0, 72, .inl fto))], [(a 2, .inl (cY 0, 6, .inl fpay))], [(a 4, .inl (cY 1, 64, .inr (.inl fN1)))], [(a 5, .inl (cY 1, 64, .inr (.inl fT1)))], [(a 6, .inl (cY 1, 6, .inr (.inl fO1)))]] : List va_W).flatten H → va_D A ([mO a (nI n) (nI k) th, [(a 1, .inl (cY 0, 72, .inl fto))], [(a 2, .inl (cY 0, 6, .inl fpay))], [(a 4, .inl (cY 1, 64, .inr (.inl fN1)))], [(a 5, .inl (cY 1, 64, .inr (.inl fT1)))], [(a 6, .inl (cY 1, 6, .inr (.inl fO1)))]] : List va_W).flatten → va_S A s.heap H locs → ∀ (ls : Array Slot), lv_has ls 6 [(0, .ref (a 0)), (1, .int (nI t)), (2, .int (nI (u + 1)))] → W p l e ({ frames := 1, cells := 0, slots := 0, locals := 40 }) s m ([.ref (a 0), .int (nI t)] : List Value).toArray below meth c H locs 0 0 (MQ below (qV (S := (Nat → Int64) × (Nat → Int64) × (Nat → Int64)) D cY (fun u => (∀ j, j < n → u.1 j = BV fpay g k t j) ∧ ∀ j, j < n → u.2.2 j = GV fpay g k t j) (fun u => [mO a (nI n) (nI k) th, [(a 1, .inl (cY 0, 72, .inl fto))], [(a 2, .inl (cY 0, 6, .inl fpay))], [(a 4, .inl (cY 1, 64, .inr (.inl u.1)))], [(a 5, .inl (cY 1, 64, .inr (.inl u.2.1)))], [(a 6, .inl (cY 1, 6, .inr (.inl u.2.2)))]]) A) ([.ref (a 0), .int (nI t)] : List Value).toArray s 0 0 A) (F0 m 44 ls []) := by
        refine lpW t ?_
        intro u bdu ih44 fN1 fT1 fO1 hN hO H locs hP hD hS ls hl
        refine lv_iload_n hx hb dX9_plays_44 rfl (lv_at hl 2 rfl) ?_
        refine lv_iload_n hx hb dX9_plays_45 rfl (lv_at hl 1 rfl) ?_
        refine n_icmp_gt (tgt := 189) hx hb dX9_plays_46 (by decide) (by omega) (by omega) (fun h46 => ?_) (fun h46 => ?_)
        · -- t
          exact r_v hx hb hr hlocks hP hD hS (fN1, fT1, fO1) rfl (by (have e : u = t := by omega); rw [← e]; exact ⟨hN, hO⟩) dX9_plays_189
        · -- f
          refine lv_iconst (v := nI 0) hx hb dX9_plays_49 (by decide) ?_
          refine lv_istore_n (lv' := [(3, .int (nI 0)), (0, .ref (a 0)), (1, .int (nI t)), (2, .int (nI (u + 1)))]) hx hb dX9_plays_50 rfl hl (by decide) rfl (fun ls hl => ?_)
          have L51 : ∀ q : Nat, q ≤ n → ∀ (fT2 : Nat → Int64), (PWI fT2 fN1 q) → ∀ (H : Heap) (locs : List Loc), va_P D vwCl ([mO a (nI n) (nI k) th, [(a 1, .inl (cY 0, 72, .inl fto))], [(a 2, .inl (cY 0, 6, .inl fpay))], [(a 4, .inl (cY 1, 64, .inr (.inl fN1)))], [(a 5, .inl (cY 1, 64, .inr (.inl fT2)))], [(a 6, .inl (cY 1, 6, .inr (.inl fO1)))]] : List va_W).flatten H → va_D A ([mO a (nI n) (nI k) th, [(a 1, .inl (cY 0, 72, .inl fto))], [(a 2, .inl (cY 0, 6, .inl fpay))], [(a 4, .inl (cY 1, 64, .inr (.inl fN1)))], [(a 5, .inl (cY 1, 64, .inr (.inl fT2)))], [(a 6, .inl (cY 1, 6, .inr (.inl fO1)))]] : List va_W).flatten → va_S A s.heap H locs → ∀ (ls : Array Slot), lv_has ls 6 [(0, .ref (a 0)), (1, .int (nI t)), (2, .int (nI (u + 1))), (3, .int (nI q))] → W p l e ({ frames := 1, cells := 0, slots := 0, locals := 40 }) s m ([.ref (a 0), .int (nI t)] : List Value).toArray below meth c H locs 0 0 (MQ below (qV (S := (Nat → Int64) × (Nat → Int64) × (Nat → Int64)) D cY (fun u => (∀ j, j < n → u.1 j = BV fpay g k t j) ∧ ∀ j, j < n → u.2.2 j = GV fpay g k t j) (fun u => [mO a (nI n) (nI k) th, [(a 1, .inl (cY 0, 72, .inl fto))], [(a 2, .inl (cY 0, 6, .inl fpay))], [(a 4, .inl (cY 1, 64, .inr (.inl u.1)))], [(a 5, .inl (cY 1, 64, .inr (.inl u.2.1)))], [(a 6, .inl (cY 1, 6, .inr (.inl u.2.2)))]]) A) ([.ref (a 0), .int (nI t)] : List Value).toArray s 0 0 A) (F0 m 51 ls []) := by
            refine lpW n ?_
            intro q bdq ih51 fT2 hT H locs hP hD hS ls hl
            refine lv_iload_n hx hb dX9_plays_51 rfl (lv_at hl 3 rfl) ?_
            refine lv_aload_n hx hb dX9_plays_52 rfl (lv_at hl 0 rfl) ?_
            refine b_get (ci := 9) (v := .int (nI n)) (C := RX9) (T := TX9) (N := 13) hx hb hts (by decide +kernel) hown hK hP 0 rfl rfl 0 (by decide) (hts (.fieldLink RX9 7 "ChanceHallModel" "states" "I") (by decide +kernel)) (fun _ h9 => h9) rfl dX9_plays_53 ?_
            refine n_icmp_ge (tgt := 77) hx hb dX9_plays_56 (by decide) (by omega) (by omega) (fun h56 => ?_) (fun h56 => ?_)
            · -- t
              have hT2 : ∀ j, j < n → fT2 j = BV fpay g k u j := fun j hj => by rw [hT j (by omega)]; exact hN j hj
              refine lv_iconst (v := nI 0) hx hb dX9_plays_77 (by decide) ?_
              refine lv_istore_n (lv' := [(3, .int (nI 0)), (0, .ref (a 0)), (1, .int (nI t)), (2, .int (nI (u + 1)))]) hx hb dX9_plays_78 rfl hl (by decide) rfl (fun ls hl => ?_)
              have L79 : ∀ i : Nat, i ≤ n → ∀ (fN2 : Nat → Int64) (fO2 : Nat → Int64), (PWI fN2 (BV fpay g k (u + 1)) i) → (PWI fO2 (GV fpay g k (u + 1)) i) → ∀ (H : Heap) (locs : List Loc), va_P D vwCl ([mO a (nI n) (nI k) th, [(a 1, .inl (cY 0, 72, .inl fto))], [(a 2, .inl (cY 0, 6, .inl fpay))], [(a 4, .inl (cY 1, 64, .inr (.inl fN2)))], [(a 5, .inl (cY 1, 64, .inr (.inl fT2)))], [(a 6, .inl (cY 1, 6, .inr (.inl fO2)))]] : List va_W).flatten H → va_D A ([mO a (nI n) (nI k) th, [(a 1, .inl (cY 0, 72, .inl fto))], [(a 2, .inl (cY 0, 6, .inl fpay))], [(a 4, .inl (cY 1, 64, .inr (.inl fN2)))], [(a 5, .inl (cY 1, 64, .inr (.inl fT2)))], [(a 6, .inl (cY 1, 6, .inr (.inl fO2)))]] : List va_W).flatten → va_S A s.heap H locs → ∀ (ls : Array Slot), lv_has ls 6 [(0, .ref (a 0)), (1, .int (nI t)), (2, .int (nI (u + 1))), (3, .int (nI i))] → W p l e ({ frames := 1, cells := 0, slots := 0, locals := 40 }) s m ([.ref (a 0), .int (nI t)] : List Value).toArray below meth c H locs 0 0 (MQ below (qV (S := (Nat → Int64) × (Nat → Int64) × (Nat → Int64)) D cY (fun u => (∀ j, j < n → u.1 j = BV fpay g k t j) ∧ ∀ j, j < n → u.2.2 j = GV fpay g k t j) (fun u => [mO a (nI n) (nI k) th, [(a 1, .inl (cY 0, 72, .inl fto))], [(a 2, .inl (cY 0, 6, .inl fpay))], [(a 4, .inl (cY 1, 64, .inr (.inl u.1)))], [(a 5, .inl (cY 1, 64, .inr (.inl u.2.1)))], [(a 6, .inl (cY 1, 6, .inr (.inl u.2.2)))]]) A) ([.ref (a 0), .int (nI t)] : List Value).toArray s 0 0 A) (F0 m 79 ls []) := by
                refine lpW n ?_
                intro i bdi ih79 fN2 fO2 hN2 hO2 H locs hP hD hS ls hl
                refine lv_iload_n hx hb dX9_plays_79 rfl (lv_at hl 3 rfl) ?_
                refine lv_aload_n hx hb dX9_plays_80 rfl (lv_at hl 0 rfl) ?_
                refine b_get (ci := 9) (v := .int (nI n)) (C := RX9) (T := TX9) (N := 13) hx hb hts (by decide +kernel) hown hK hP 0 rfl rfl 0 (by decide) (hts (.fieldLink RX9 7 "ChanceHallModel" "states" "I") (by decide +kernel)) (fun _ h9 => h9) rfl dX9_plays_81 ?_
                refine n_icmp_ge (tgt := 183) hx hb dX9_plays_84 (by decide) (by omega) (by omega) (fun h84 => ?_) (fun h84 => ?_)
                · -- t
                  refine lv_iinc (v := nI (u + 1 + 1)) (lv' := [(2, .int (nI (u + 1 + 1))), (0, .ref (a 0)), (1, .int (nI t)), (3, .int (nI i))]) hx hb dX9_plays_183 hl (k := 2) rfl (nI_1 (u + 1)) (by decide) rfl (fun ls hl => ?_)
                  refine lv_goto (tgt := 44) hx hb dX9_plays_186 (by decide) ?_
                  exact ih44 (by omega) fN2 fT2 fO2 (by (have e : i = n := by omega); rw [← e]; exact hN2) (by (have e : i = n := by omega); rw [← e]; exact hO2) _ _ hP hD hS _ (lv_sub hl [1, 2, 0] rfl)
                · -- f
                  refine lv_aload_n hx hb dX9_plays_87 rfl (lv_at hl 0 rfl) ?_
                  refine b_get (ci := 9) (v := .ref (a 6)) (C := RX9) (T := TX9) (N := 13) hx hb hts (by decide +kernel) hown hK hP 0 rfl rfl 7 (by decide) (hts (.fieldLink RX9 33 "ChanceHallModel" "others" "[J") (by decide +kernel)) (fun _ h9 => h9) rfl dX9_plays_88 ?_
                  refine lv_iload_n hx hb dX9_plays_91 rfl (lv_at hl 3 rfl) ?_
                  refine lv_lconst (v := lN 0) hx hb dX9_plays_92 (by decide) ?_
                  refine b_last hx hb hK hP hD hS 5 1 rfl rfl (by omega) (by decide) dX9_plays_93 (fun H locs hP hD hS => ?_)
                  have hP : va_P D vwCl ([mO a (nI n) (nI k) th, [(a 1, .inl (cY 0, 72, .inl fto))], [(a 2, .inl (cY 0, 6, .inl fpay))], [(a 4, .inl (cY 1, 64, .inr (.inl fN2)))], [(a 5, .inl (cY 1, 64, .inr (.inl fT2)))], [(a 6, .inl (cY 1, 6, .inr (.inl (vp_updL fO2 i (lN 0)))))]] : List va_W).flatten H := hP
                  have hD : va_D A ([mO a (nI n) (nI k) th, [(a 1, .inl (cY 0, 72, .inl fto))], [(a 2, .inl (cY 0, 6, .inl fpay))], [(a 4, .inl (cY 1, 64, .inr (.inl fN2)))], [(a 5, .inl (cY 1, 64, .inr (.inl fT2)))], [(a 6, .inl (cY 1, 6, .inr (.inl (vp_updL fO2 i (lN 0)))))]] : List va_W).flatten := hD
                  refine lv_iconst (v := nI 0) hx hb dX9_plays_94 (by decide) ?_
                  refine lv_istore (lv' := [(4, .int (nI 0)), (0, .ref (a 0)), (1, .int (nI t)), (2, .int (nI (u + 1))), (3, .int (nI i))]) hx hb dX9_plays_95 hl (by decide) rfl (fun ls hl => ?_)
                  have L97 : ∀ w : Nat, w ≤ k → ∀ (fO3 : Nat → Int64), (OI fpay g k u i w fO3) → ∀ (H : Heap) (locs : List Loc), va_P D vwCl ([mO a (nI n) (nI k) th, [(a 1, .inl (cY 0, 72, .inl fto))], [(a 2, .inl (cY 0, 6, .inl fpay))], [(a 4, .inl (cY 1, 64, .inr (.inl fN2)))], [(a 5, .inl (cY 1, 64, .inr (.inl fT2)))], [(a 6, .inl (cY 1, 6, .inr (.inl fO3)))]] : List va_W).flatten H → va_D A ([mO a (nI n) (nI k) th, [(a 1, .inl (cY 0, 72, .inl fto))], [(a 2, .inl (cY 0, 6, .inl fpay))], [(a 4, .inl (cY 1, 64, .inr (.inl fN2)))], [(a 5, .inl (cY 1, 64, .inr (.inl fT2)))], [(a 6, .inl (cY 1, 6, .inr (.inl fO3)))]] : List va_W).flatten → va_S A s.heap H locs → ∀ (ls : Array Slot), lv_has ls 6 [(0, .ref (a 0)), (1, .int (nI t)), (2, .int (nI (u + 1))), (3, .int (nI i)), (4, .int (nI w))] → W p l e ({ frames := 1, cells := 0, slots := 0, locals := 40 }) s m ([.ref (a 0), .int (nI t)] : List Value).toArray below meth c H locs 0 0 (MQ below (qV (S := (Nat → Int64) × (Nat → Int64) × (Nat → Int64)) D cY (fun u => (∀ j, j < n → u.1 j = BV fpay g k t j) ∧ ∀ j, j < n → u.2.2 j = GV fpay g k t j) (fun u => [mO a (nI n) (nI k) th, [(a 1, .inl (cY 0, 72, .inl fto))], [(a 2, .inl (cY 0, 6, .inl fpay))], [(a 4, .inl (cY 1, 64, .inr (.inl u.1)))], [(a 5, .inl (cY 1, 64, .inr (.inl u.2.1)))], [(a 6, .inl (cY 1, 6, .inr (.inl u.2.2)))]]) A) ([.ref (a 0), .int (nI t)] : List Value).toArray s 0 0 A) (F0 m 97 ls []) := by
                    refine lpW k ?_
                    intro w bdw ih97 fO3 hW H locs hP hD hS ls hl
                    refine lv_iload hx hb dX9_plays_97 (lv_at hl 4 rfl) ?_
                    refine lv_aload_n hx hb dX9_plays_99 rfl (lv_at hl 0 rfl) ?_
                    refine b_get (ci := 9) (v := .int (nI k)) (C := RX9) (T := TX9) (N := 13) hx hb hts (by decide +kernel) hown hK hP 0 rfl rfl 1 (by decide) (hts (.fieldLink RX9 13 "ChanceHallModel" "slots" "I") (by decide +kernel)) (fun _ h9 => h9) rfl dX9_plays_100 ?_
                    refine n_icmp_ge (tgt := 133) hx hb dX9_plays_103 (by decide) (by omega) (by omega) (fun h103 => ?_) (fun h103 => ?_)
                    · -- t
                      have hWe : OI fpay g k u i k fO3 := by (have e : w = k := by omega); rw [← e]; rw [← e] at hW; exact hW
                      have hWk := hWe.2
                      refine lv_aload_n hx hb dX9_plays_133 rfl (lv_at hl 0 rfl) ?_
                      refine b_get (ci := 9) (v := .ref (a 2)) (C := RX9) (T := TX9) (N := 13) hx hb hts (by decide +kernel) hown hK hP 0 rfl rfl 3 (by decide) (hts (.fieldLink RX9 20 "ChanceHallModel" "pay" "[I") (by decide +kernel)) (fun _ h9 => h9) rfl dX9_plays_134 ?_
                      refine lv_iload_n hx hb dX9_plays_137 rfl (lv_at hl 3 rfl) ?_
                      refine b_iald hx hb hK hP 2 0 rfl rfl (by omega) (by decide) dX9_plays_138 ?_
                      refine lv_i2l (v := ((fpay i)).toInt64) hx hb dX9_plays_139 rfl ?_
                      refine lv_aload_n hx hb dX9_plays_140 rfl (lv_at hl 0 rfl) ?_
                      refine lv_iload_n hx hb dX9_plays_141 rfl (lv_at hl 2 rfl) ?_
                      refine ca_l (CL := [mO a (nI n) (nI k) th]) (va_runV (As := [.int (nI (u + 1))]) (rest := [.long (((fpay i)).toInt64)]) ⟨hx, hb, hml, hown, hts⟩ (c_X9_power l D cY H.size a n k th (u + 1) (by omega) (by omega) (by omega) (by omega) (by omega)) (cwV 1 hts gX9_plays_X9_power rfl rfl rfl (by decide +kernel) ⟨Nat.le_of_ble_eq_true rfl, Nat.le_of_ble_eq_true rfl⟩) (b_preV hVK hP hD [0] rfl rfl 0 rfl rfl) rfl rfl hl.1 rfl (lv_room (Nat.le_of_ble_eq_true rfl)) dX9_plays_142 ⟨Nat.le_refl _, Nat.le_refl _⟩) hP hD hS hA [0] rfl rfl (fun _ => rfl) (fun r142 uu H locs hq hP hD hS => ?_)
                      subst hq
                      have hP : va_P D vwCl ([mO a (nI n) (nI k) th, [(a 1, .inl (cY 0, 72, .inl fto))], [(a 2, .inl (cY 0, 6, .inl fpay))], [(a 4, .inl (cY 1, 64, .inr (.inl fN2)))], [(a 5, .inl (cY 1, 64, .inr (.inl fT2)))], [(a 6, .inl (cY 1, 6, .inr (.inl fO3)))]] : List va_W).flatten H := hP
                      have hD : va_D A ([mO a (nI n) (nI k) th, [(a 1, .inl (cY 0, 72, .inl fto))], [(a 2, .inl (cY 0, 6, .inl fpay))], [(a 4, .inl (cY 1, 64, .inr (.inl fN2)))], [(a 5, .inl (cY 1, 64, .inr (.inl fT2)))], [(a 6, .inl (cY 1, 6, .inr (.inl fO3)))]] : List va_W).flatten := hD
                      refine lv_lmul hx hb dX9_plays_145 ?_
                      refine lv_lstore (lv' := [(4, .long ((((fpay i)).toInt64) * (lN (k ^ (u + 1))))), (0, .ref (a 0)), (1, .int (nI t)), (2, .int (nI (u + 1))), (3, .int (nI i))]) hx hb dX9_plays_146 hl (by decide) rfl (fun ls hl => ?_)
                      refine lv_aload_n hx hb dX9_plays_148 rfl (lv_at hl 1 rfl) ?_
                      refine b_get (ci := 9) (v := .ref (a 4)) (C := RX9) (T := TX9) (N := 13) hx hb hts (by decide +kernel) hown hK hP 0 rfl rfl 5 (by decide) (hts (.fieldLink RX9 26 "ChanceHallModel" "now" "[J") (by decide +kernel)) (fun _ h9 => h9) rfl dX9_plays_149 ?_
                      refine lv_iload_n hx hb dX9_plays_152 rfl (lv_at hl 4 rfl) ?_
                      refine lv_lload hx hb dX9_plays_153 (lv_at hl 0 rfl) ?_
                      refine lv_aload_n hx hb dX9_plays_155 rfl (lv_at hl 1 rfl) ?_
                      refine b_get (ci := 9) (v := .ref (a 6)) (C := RX9) (T := TX9) (N := 13) hx hb hts (by decide +kernel) hown hK hP 0 rfl rfl 7 (by decide) (hts (.fieldLink RX9 33 "ChanceHallModel" "others" "[J") (by decide +kernel)) (fun _ h9 => h9) rfl dX9_plays_156 ?_
                      refine lv_iload_n hx hb dX9_plays_159 rfl (lv_at hl 4 rfl) ?_
                      refine b_lald hx hb hK hP 5 1 rfl rfl (by omega) (by decide) dX9_plays_160 ?_
                      refine W.lcmp hx hb dX9_plays_161 ?_
                      refine l_if_ge (tgt := 174) hx hb dX9_plays_162 (by decide) (fun h162 => ?_) (fun h162 => ?_)
                      · -- t
                        refine lv_lload hx hb dX9_plays_174 (lv_at hl 0 rfl) ?_
                        refine b_last hx hb hK hP hD hS 3 1 rfl rfl (by omega) (by decide) dX9_plays_176 (fun H locs hP hD hS => ?_)
                        have hP : va_P D vwCl ([mO a (nI n) (nI k) th, [(a 1, .inl (cY 0, 72, .inl fto))], [(a 2, .inl (cY 0, 6, .inl fpay))], [(a 4, .inl (cY 1, 64, .inr (.inl (vp_updL fN2 i ((((fpay i)).toInt64) * (lN (k ^ (u + 1))))))))], [(a 5, .inl (cY 1, 64, .inr (.inl fT2)))], [(a 6, .inl (cY 1, 6, .inr (.inl fO3)))]] : List va_W).flatten H := hP
                        have hD : va_D A ([mO a (nI n) (nI k) th, [(a 1, .inl (cY 0, 72, .inl fto))], [(a 2, .inl (cY 0, 6, .inl fpay))], [(a 4, .inl (cY 1, 64, .inr (.inl (vp_updL fN2 i ((((fpay i)).toInt64) * (lN (k ^ (u + 1))))))))], [(a 5, .inl (cY 1, 64, .inr (.inl fT2)))], [(a 6, .inl (cY 1, 6, .inr (.inl fO3)))]] : List va_W).flatten := hD
                        refine lv_iinc (v := nI (i + 1)) (lv' := [(3, .int (nI (i + 1))), (4, .long ((((fpay i)).toInt64) * (lN (k ^ (u + 1))))), (0, .ref (a 0)), (1, .int (nI t)), (2, .int (nI (u + 1)))]) hx hb dX9_plays_177 hl (k := 4) rfl (nI_1 i) (by decide) rfl (fun ls hl => ?_)
                        refine lv_goto (tgt := 79) hx hb dX9_plays_180 (by decide) ?_
                        exact ih79 (by omega) (vp_updL fN2 i ((((fpay i)).toInt64) * (lN (k ^ (u + 1))))) fO3 (PWI_s hN2 (by first | exact BV_t hWk h162 | exact BV_f hWk h162)) (OI_e hWe) _ _ hP hD hS _ (lv_sub hl [2, 3, 4, 0] rfl)
                      · -- f
                        refine lv_aload_n hx hb dX9_plays_165 rfl (lv_at hl 1 rfl) ?_
                        refine b_get (ci := 9) (v := .ref (a 6)) (C := RX9) (T := TX9) (N := 13) hx hb hts (by decide +kernel) hown hK hP 0 rfl rfl 7 (by decide) (hts (.fieldLink RX9 33 "ChanceHallModel" "others" "[J") (by decide +kernel)) (fun _ h9 => h9) rfl dX9_plays_166 ?_
                        refine lv_iload_n hx hb dX9_plays_169 rfl (lv_at hl 4 rfl) ?_
                        refine b_lald hx hb hK hP 5 1 rfl rfl (by omega) (by decide) dX9_plays_170 ?_
                        refine lv_goto (tgt := 176) hx hb dX9_plays_171 (by decide) ?_
                        refine b_last hx hb hK hP hD hS 3 1 rfl rfl (by omega) (by decide) dX9_plays_176 (fun H locs hP hD hS => ?_)
                        have hP : va_P D vwCl ([mO a (nI n) (nI k) th, [(a 1, .inl (cY 0, 72, .inl fto))], [(a 2, .inl (cY 0, 6, .inl fpay))], [(a 4, .inl (cY 1, 64, .inr (.inl (vp_updL fN2 i (fO3 i)))))], [(a 5, .inl (cY 1, 64, .inr (.inl fT2)))], [(a 6, .inl (cY 1, 6, .inr (.inl fO3)))]] : List va_W).flatten H := hP
                        have hD : va_D A ([mO a (nI n) (nI k) th, [(a 1, .inl (cY 0, 72, .inl fto))], [(a 2, .inl (cY 0, 6, .inl fpay))], [(a 4, .inl (cY 1, 64, .inr (.inl (vp_updL fN2 i (fO3 i)))))], [(a 5, .inl (cY 1, 64, .inr (.inl fT2)))], [(a 6, .inl (cY 1, 6, .inr (.inl fO3)))]] : List va_W).flatten := hD
                        refine lv_iinc (v := nI (i + 1)) (lv' := [(3, .int (nI (i + 1))), (4, .long ((((fpay i)).toInt64) * (lN (k ^ (u + 1))))), (0, .ref (a 0)), (1, .int (nI t)), (2, .int (nI (u + 1)))]) hx hb dX9_plays_177 hl (k := 4) rfl (nI_1 i) (by decide) rfl (fun ls hl => ?_)
                        refine lv_goto (tgt := 79) hx hb dX9_plays_180 (by decide) ?_
                        exact ih79 (by omega) (vp_updL fN2 i (fO3 i)) fO3 (PWI_s hN2 (by first | exact BV_t hWk h162 | exact BV_f hWk h162)) (OI_e hWe) _ _ hP hD hS _ (lv_sub hl [2, 3, 4, 0] rfl)
                    · -- f
                      refine lv_aload_n hx hb dX9_plays_106 rfl (lv_at hl 0 rfl) ?_
                      refine b_get (ci := 9) (v := .ref (a 6)) (C := RX9) (T := TX9) (N := 13) hx hb hts (by decide +kernel) hown hK hP 0 rfl rfl 7 (by decide) (hts (.fieldLink RX9 33 "ChanceHallModel" "others" "[J") (by decide +kernel)) (fun _ h9 => h9) rfl dX9_plays_107 ?_
                      refine lv_iload_n hx hb dX9_plays_110 rfl (lv_at hl 3 rfl) ?_
                      refine lv_dup2_11 hx hb dX9_plays_111 rfl rfl ?_
                      refine b_lald hx hb hK hP 5 1 rfl rfl (by omega) (by decide) dX9_plays_112 ?_
                      refine lv_aload_n hx hb dX9_plays_113 rfl (lv_at hl 0 rfl) ?_
                      refine b_get (ci := 9) (v := .ref (a 5)) (C := RX9) (T := TX9) (N := 13) hx hb hts (by decide +kernel) hown hK hP 0 rfl rfl 6 (by decide) (hts (.fieldLink RX9 30 "ChanceHallModel" "then" "[J") (by decide +kernel)) (fun _ h9 => h9) rfl dX9_plays_114 ?_
                      refine lv_aload_n hx hb dX9_plays_117 rfl (lv_at hl 0 rfl) ?_
                      refine lv_iload_n hx hb dX9_plays_118 rfl (lv_at hl 3 rfl) ?_
                      refine lv_iload hx hb dX9_plays_119 (lv_at hl 4 rfl) ?_
                      refine ca_i (CL := [mO a (nI n) (nI k) th, [(a 1, .inl (cY 0, 72, .inl fto))]]) (va_runV (As := [.int (nI i), .int (nI w)]) (rest := [.ref (a 5), .long (fO3 i), .int (nI i), .ref (a 6)]) ⟨hx, hb, hml, hown, hts⟩ (c_X9_goes l D cY H.size a n k th fto g i w (by omega) (by omega) (by omega) (by omega) hG (by omega) (by omega)) (cwV 2 hts gX9_plays_X9_goes rfl rfl rfl (by decide +kernel) ⟨Nat.le_of_ble_eq_true rfl, Nat.le_of_ble_eq_true rfl⟩) (b_preV hVK hP hD [0, 1] rfl rfl 0 rfl rfl) rfl rfl hl.1 rfl (lv_room (Nat.le_of_ble_eq_true rfl)) dX9_plays_121 ⟨Nat.le_refl _, Nat.le_refl _⟩) hP hD hS hA [0, 1] rfl rfl (fun _ => rfl) (fun r121 uu H locs hq hP hD hS => ?_)
                      subst hq
                      have hP : va_P D vwCl ([mO a (nI n) (nI k) th, [(a 1, .inl (cY 0, 72, .inl fto))], [(a 2, .inl (cY 0, 6, .inl fpay))], [(a 4, .inl (cY 1, 64, .inr (.inl fN2)))], [(a 5, .inl (cY 1, 64, .inr (.inl fT2)))], [(a 6, .inl (cY 1, 6, .inr (.inl fO3)))]] : List va_W).flatten H := hP
                      have hD : va_D A ([mO a (nI n) (nI k) th, [(a 1, .inl (cY 0, 72, .inl fto))], [(a 2, .inl (cY 0, 6, .inl fpay))], [(a 4, .inl (cY 1, 64, .inr (.inl fN2)))], [(a 5, .inl (cY 1, 64, .inr (.inl fT2)))], [(a 6, .inl (cY 1, 6, .inr (.inl fO3)))]] : List va_W).flatten := hD
                      have hgi := hgn i w (by omega) (by omega)
                      refine b_lald hx hb hK hP 4 1 rfl rfl (by omega) (by decide) dX9_plays_124 ?_
                      refine lv_ladd hx hb dX9_plays_125 ?_
                      refine b_last hx hb hK hP hD hS 5 1 rfl rfl (by omega) (by decide) dX9_plays_126 (fun H locs hP hD hS => ?_)
                      have hP : va_P D vwCl ([mO a (nI n) (nI k) th, [(a 1, .inl (cY 0, 72, .inl fto))], [(a 2, .inl (cY 0, 6, .inl fpay))], [(a 4, .inl (cY 1, 64, .inr (.inl fN2)))], [(a 5, .inl (cY 1, 64, .inr (.inl fT2)))], [(a 6, .inl (cY 1, 6, .inr (.inl (vp_updL fO3 i ((fO3 i) + (fT2 (g i w)))))))]] : List va_W).flatten H := hP
                      have hD : va_D A ([mO a (nI n) (nI k) th, [(a 1, .inl (cY 0, 72, .inl fto))], [(a 2, .inl (cY 0, 6, .inl fpay))], [(a 4, .inl (cY 1, 64, .inr (.inl fN2)))], [(a 5, .inl (cY 1, 64, .inr (.inl fT2)))], [(a 6, .inl (cY 1, 6, .inr (.inl (vp_updL fO3 i ((fO3 i) + (fT2 (g i w)))))))]] : List va_W).flatten := hD
                      refine lv_iinc (v := nI (w + 1)) (lv' := [(4, .int (nI (w + 1))), (0, .ref (a 0)), (1, .int (nI t)), (2, .int (nI (u + 1))), (3, .int (nI i))]) hx hb dX9_plays_127 hl (k := 4) rfl (nI_1 w) (by decide) rfl (fun ls hl => ?_)
                      refine lv_goto (tgt := 97) hx hb dX9_plays_130 (by decide) ?_
                      exact ih97 (by omega) (vp_updL fO3 i ((fO3 i) + (fT2 (g i w)))) (OI_s hW (hT2 _ hgi)) _ _ hP hD hS _ (lv_sub hl [1, 2, 3, 4, 0] rfl)
                  exact L97 0 (by omega) (vp_updL fO2 i (lN 0)) (OI_0 hO2) _ _ hP hD hS _ (lv_sub hl [1, 2, 3, 4, 0] rfl)
              exact L79 0 (by omega) fN1 fO1 PWI_0 PWI_0 _ _ hP hD hS _ (lv_sub hl [1, 2, 3, 0] rfl)
            · -- f
              refine lv_aload_n hx hb dX9_plays_59 rfl (lv_at hl 0 rfl) ?_
              refine b_get (ci := 9) (v := .ref (a 5)) (C := RX9) (T := TX9) (N := 13) hx hb hts (by decide +kernel) hown hK hP 0 rfl rfl 6 (by decide) (hts (.fieldLink RX9 30 "ChanceHallModel" "then" "[J") (by decide +kernel)) (fun _ h9 => h9) rfl dX9_plays_60 ?_
              refine lv_iload_n hx hb dX9_plays_63 rfl (lv_at hl 3 rfl) ?_
              refine lv_aload_n hx hb dX9_plays_64 rfl (lv_at hl 0 rfl) ?_
              refine b_get (ci := 9) (v := .ref (a 4)) (C := RX9) (T := TX9) (N := 13) hx hb hts (by decide +kernel) hown hK hP 0 rfl rfl 5 (by decide) (hts (.fieldLink RX9 26 "ChanceHallModel" "now" "[J") (by decide +kernel)) (fun _ h9 => h9) rfl dX9_plays_65 ?_
              refine lv_iload_n hx hb dX9_plays_68 rfl (lv_at hl 3 rfl) ?_
              refine b_lald hx hb hK hP 3 1 rfl rfl (by omega) (by decide) dX9_plays_69 ?_
              refine b_last hx hb hK hP hD hS 4 1 rfl rfl (by omega) (by decide) dX9_plays_70 (fun H locs hP hD hS => ?_)
              have hP : va_P D vwCl ([mO a (nI n) (nI k) th, [(a 1, .inl (cY 0, 72, .inl fto))], [(a 2, .inl (cY 0, 6, .inl fpay))], [(a 4, .inl (cY 1, 64, .inr (.inl fN1)))], [(a 5, .inl (cY 1, 64, .inr (.inl (vp_updL fT2 q (fN1 q)))))], [(a 6, .inl (cY 1, 6, .inr (.inl fO1)))]] : List va_W).flatten H := hP
              have hD : va_D A ([mO a (nI n) (nI k) th, [(a 1, .inl (cY 0, 72, .inl fto))], [(a 2, .inl (cY 0, 6, .inl fpay))], [(a 4, .inl (cY 1, 64, .inr (.inl fN1)))], [(a 5, .inl (cY 1, 64, .inr (.inl (vp_updL fT2 q (fN1 q)))))], [(a 6, .inl (cY 1, 6, .inr (.inl fO1)))]] : List va_W).flatten := hD
              refine lv_iinc (v := nI (q + 1)) (lv' := [(3, .int (nI (q + 1))), (0, .ref (a 0)), (1, .int (nI t)), (2, .int (nI (u + 1)))]) hx hb dX9_plays_71 hl (k := 3) rfl (nI_1 q) (by decide) rfl (fun ls hl => ?_)
              refine lv_goto (tgt := 51) hx hb dX9_plays_74 (by decide) ?_
              exact ih51 (by omega) (vp_updL fT2 q (fN1 q)) (PWI_s hT rfl) _ _ hP hD hS _ (lv_sub hl [1, 2, 3, 0] rfl)
          exact L51 0 (by omega) fT1 PWI_0 _ _ hP hD hS _ (lv_sub hl [1, 2, 3, 0] rfl)
      exact L44 0 (by omega) fN fthn fO (by (have e : q = n := by omega); rw [← e]; exact hI) (by (have e : q = n := by omega); rw [← e]; exact hJ) _ _ hP hD hS _ (lv_sub hl [1, 2, 0] rfl)
    · -- f
      refine lv_aload_n hx hb dX9_plays_10 rfl (lv_at hl 0 rfl) ?_
      refine b_get (ci := 9) (v := .ref (a 4)) (C := RX9) (T := TX9) (N := 13) hx hb hts (by decide +kernel) hown hK hP 0 rfl rfl 5 (by decide) (hts (.fieldLink RX9 26 "ChanceHallModel" "now" "[J") (by decide +kernel)) (fun _ h9 => h9) rfl dX9_plays_11 ?_
      refine lv_iload_n hx hb dX9_plays_14 rfl (lv_at hl 2 rfl) ?_
      refine lv_aload_n hx hb dX9_plays_15 rfl (lv_at hl 0 rfl) ?_
      refine b_get (ci := 9) (v := .ref (a 2)) (C := RX9) (T := TX9) (N := 13) hx hb hts (by decide +kernel) hown hK hP 0 rfl rfl 3 (by decide) (hts (.fieldLink RX9 20 "ChanceHallModel" "pay" "[I") (by decide +kernel)) (fun _ h9 => h9) rfl dX9_plays_16 ?_
      refine lv_iload_n hx hb dX9_plays_19 rfl (lv_at hl 2 rfl) ?_
      refine b_iald hx hb hK hP 2 0 rfl rfl (by omega) (by decide) dX9_plays_20 ?_
      refine lv_i2l (v := ((fpay q)).toInt64) hx hb dX9_plays_21 rfl ?_
      refine b_last hx hb hK hP hD hS 3 1 rfl rfl (by omega) (by decide) dX9_plays_22 (fun H locs hP hD hS => ?_)
      have hP : va_P D vwCl ([mO a (nI n) (nI k) th, [(a 1, .inl (cY 0, 72, .inl fto))], [(a 2, .inl (cY 0, 6, .inl fpay))], [(a 4, .inl (cY 1, 64, .inr (.inl (vp_updL fN q (((fpay q)).toInt64)))))], [(a 5, .inl (cY 1, 64, .inr (.inl fthn)))], [(a 6, .inl (cY 1, 6, .inr (.inl fO)))]] : List va_W).flatten H := hP
      have hD : va_D A ([mO a (nI n) (nI k) th, [(a 1, .inl (cY 0, 72, .inl fto))], [(a 2, .inl (cY 0, 6, .inl fpay))], [(a 4, .inl (cY 1, 64, .inr (.inl (vp_updL fN q (((fpay q)).toInt64)))))], [(a 5, .inl (cY 1, 64, .inr (.inl fthn)))], [(a 6, .inl (cY 1, 6, .inr (.inl fO)))]] : List va_W).flatten := hD
      refine lv_aload_n hx hb dX9_plays_23 rfl (lv_at hl 0 rfl) ?_
      refine b_get (ci := 9) (v := .ref (a 6)) (C := RX9) (T := TX9) (N := 13) hx hb hts (by decide +kernel) hown hK hP 0 rfl rfl 7 (by decide) (hts (.fieldLink RX9 33 "ChanceHallModel" "others" "[J") (by decide +kernel)) (fun _ h9 => h9) rfl dX9_plays_24 ?_
      refine lv_iload_n hx hb dX9_plays_27 rfl (lv_at hl 2 rfl) ?_
      refine lv_aload_n hx hb dX9_plays_28 rfl (lv_at hl 0 rfl) ?_
      refine b_get (ci := 9) (v := .ref (a 2)) (C := RX9) (T := TX9) (N := 13) hx hb hts (by decide +kernel) hown hK hP 0 rfl rfl 3 (by decide) (hts (.fieldLink RX9 20 "ChanceHallModel" "pay" "[I") (by decide +kernel)) (fun _ h9 => h9) rfl dX9_plays_29 ?_
      refine lv_iload_n hx hb dX9_plays_32 rfl (lv_at hl 2 rfl) ?_
      refine b_iald hx hb hK hP 2 0 rfl rfl (by omega) (by decide) dX9_plays_33 ?_
      refine lv_i2l (v := ((fpay q)).toInt64) hx hb dX9_plays_34 rfl ?_
      refine b_last hx hb hK hP hD hS 5 1 rfl rfl (by omega) (by decide) dX9_plays_35 (fun H locs hP hD hS => ?_)
      have hP : va_P D vwCl ([mO a (nI n) (nI k) th, [(a 1, .inl (cY 0, 72, .inl fto))], [(a 2, .inl (cY 0, 6, .inl fpay))], [(a 4, .inl (cY 1, 64, .inr (.inl (vp_updL fN q (((fpay q)).toInt64)))))], [(a 5, .inl (cY 1, 64, .inr (.inl fthn)))], [(a 6, .inl (cY 1, 6, .inr (.inl (vp_updL fO q (((fpay q)).toInt64)))))]] : List va_W).flatten H := hP
      have hD : va_D A ([mO a (nI n) (nI k) th, [(a 1, .inl (cY 0, 72, .inl fto))], [(a 2, .inl (cY 0, 6, .inl fpay))], [(a 4, .inl (cY 1, 64, .inr (.inl (vp_updL fN q (((fpay q)).toInt64)))))], [(a 5, .inl (cY 1, 64, .inr (.inl fthn)))], [(a 6, .inl (cY 1, 6, .inr (.inl (vp_updL fO q (((fpay q)).toInt64)))))]] : List va_W).flatten := hD
      refine lv_iinc (v := nI (q + 1)) (lv' := [(2, .int (nI (q + 1))), (0, .ref (a 0)), (1, .int (nI t))]) hx hb dX9_plays_36 hl (k := 2) rfl (nI_1 q) (by decide) rfl (fun ls hl => ?_)
      refine lv_goto (tgt := 2) hx hb dX9_plays_39 (by decide) ?_
      exact ih2 (by omega) (vp_updL fN q (((fpay q)).toInt64)) (vp_updL fO q (((fpay q)).toInt64)) (PWI_s hI rfl) (PWI_s hJ rfl) _ _ hP hD hS _ (lv_sub hl [1, 2, 0] rfl)
  exact L2 0 (by omega) fnow foth PWI_0 PWI_0 _ _ hP hD hS _ (lv_sub hl [1, 2, 0] rfl)

set_option maxHeartbeats 4000000 in
set_option maxRecDepth 100000 in
theorem c_X9_weighColour (l : Launch) (D : va_G) (cY : Nat → ClassId) (sz : Nat) (a : Nat → Nat) (n : Nat) (k : Nat) (th : Int32) (fto : Nat → Int32) (fcol : Nat → Int32) (g : Nat → Nat → Nat) (col : Nat → Nat) (i : Nat) (x : Nat) (hn1 : 1 ≤ n) (hn6 : n ≤ 6) (hk1 : 1 ≤ k) (hk12 : k ≤ 12) (hG : ∀ i j, i < n → j < k → fto (12 * i + j) = nI (g i j)) (hgn : ∀ i j, i < n → j < k → g i j < n) (hC : ∀ j, j < n → fcol j = nI (col j)) (hcl : ∀ j, j < n → col j < 6) (hi : i < n) (hx6 : x < 6) : Met l yX9_weighColour wsX9_weighColour ({ frames := 2, cells := 0, slots := 0, locals := 80 }) (cP D cY [.ref (a 0), .int (nI i), .int (nI x)] [mO a (nI n) (nI k) th, [(a 1, .inl (cY 0, 72, .inl fto))], [(a 3, .inl (cY 0, 6, .inl fcol))]] sz) (qI (S := Unit) D cY (fun r u => r = nI (WC g k col n i x)) (fun u => [mO a (nI n) (nI k) th, [(a 1, .inl (cY 0, 72, .inl fto))], [(a 3, .inl (cY 0, 6, .inl fcol))]]) (va_A ([mO a (nI n) (nI k) th, [(a 1, .inl (cY 0, 72, .inl fto))], [(a 3, .inl (cY 0, 6, .inl fcol))]] : List va_W).flatten sz)) 0 0 (va_A ([mO a (nI n) (nI k) th, [(a 1, .inl (cY 0, 72, .inl fto))], [(a 3, .inl (cY 0, 6, .inl fcol))]] : List va_W).flatten sz) := by
  refine mtB (Qc := fun A => qI (S := Unit) D cY (fun r u => r = nI (WC g k col n i x)) (fun u => [mO a (nI n) (nI k) th, [(a 1, .inl (cY 0, 72, .inl fto))], [(a 3, .inl (cY 0, 6, .inl fcol))]]) A) (cc := cX9_weighColour) (maxL := 5) (ret := (some .int)) (by decide) rfl (Nat.le_of_ble_eq_true rfl) ?_
  intro p e s m below meth c A ls hx hb hr hml hts hown hlocks hnm hsz hP hK hVK hD hS hA hl
  have hown : s.vm.findClass RX9 = some m.cls := hown
  have hl : lv_has ls 5 [(0, .ref (a 0)), (1, .int (nI i)), (2, .int (nI x))] := hl
  have hP : va_P D vwCl ([mO a (nI n) (nI k) th, [(a 1, .inl (cY 0, 72, .inl fto))], [(a 3, .inl (cY 0, 6, .inl fcol))]] : List va_W).flatten s.heap := hP
  have hD : va_D A ([mO a (nI n) (nI k) th, [(a 1, .inl (cY 0, 72, .inl fto))], [(a 3, .inl (cY 0, 6, .inl fcol))]] : List va_W).flatten := hD
  refine lv_iconst (v := nI 0) hx hb dX9_weighColour_0 (by decide) ?_
  refine lv_istore_n (lv' := [(3, .int (nI 0)), (0, .ref (a 0)), (1, .int (nI i)), (2, .int (nI x))]) hx hb dX9_weighColour_1 rfl hl (by decide) rfl (fun ls hl => ?_)
  refine lv_iconst (v := nI 0) hx hb dX9_weighColour_2 (by decide) ?_
  refine lv_istore (lv' := [(4, .int (nI 0)), (3, .int (nI 0)), (0, .ref (a 0)), (1, .int (nI i)), (2, .int (nI x))]) hx hb dX9_weighColour_3 hl (by decide) rfl (fun ls hl => ?_)
  have L5 : ∀ q : Nat, q ≤ n →  ∀ (H : Heap) (locs : List Loc), va_P D vwCl ([mO a (nI n) (nI k) th, [(a 1, .inl (cY 0, 72, .inl fto))], [(a 3, .inl (cY 0, 6, .inl fcol))]] : List va_W).flatten H → va_D A ([mO a (nI n) (nI k) th, [(a 1, .inl (cY 0, 72, .inl fto))], [(a 3, .inl (cY 0, 6, .inl fcol))]] : List va_W).flatten → va_S A s.heap H locs → ∀ (ls : Array Slot), lv_has ls 5 [(0, .ref (a 0)), (1, .int (nI i)), (2, .int (nI x)), (3, .int (nI (sm (fun q => if col q = x then cnt (g i) q k else 0) q))), (4, .int (nI q))] → W p l e ({ frames := 2, cells := 0, slots := 0, locals := 80 }) s m ([.ref (a 0), .int (nI i), .int (nI x)] : List Value).toArray below meth c H locs 0 0 (MQ below (qI (S := Unit) D cY (fun r u => r = nI (WC g k col n i x)) (fun u => [mO a (nI n) (nI k) th, [(a 1, .inl (cY 0, 72, .inl fto))], [(a 3, .inl (cY 0, 6, .inl fcol))]]) A) ([.ref (a 0), .int (nI i), .int (nI x)] : List Value).toArray s 0 0 A) (F0 m 5 ls []) := by
    refine lpW n ?_
    intro q bdq ih5   H locs hP hD hS ls hl
    refine lv_iload hx hb dX9_weighColour_5 (lv_at hl 4 rfl) ?_
    refine lv_aload_n hx hb dX9_weighColour_7 rfl (lv_at hl 0 rfl) ?_
    refine b_get (ci := 9) (v := .int (nI n)) (C := RX9) (T := TX9) (N := 13) hx hb hts (by decide +kernel) hown hK hP 0 rfl rfl 0 (by decide) (hts (.fieldLink RX9 7 "ChanceHallModel" "states" "I") (by decide +kernel)) (fun _ h9 => h9) rfl dX9_weighColour_8 ?_
    refine n_icmp_ge (tgt := 45) hx hb dX9_weighColour_11 (by decide) (by omega) (by omega) (fun h11 => ?_) (fun h11 => ?_)
    · -- t
      refine lv_iload_n hx hb dX9_weighColour_45 rfl (lv_at hl 3 rfl) ?_
      exact r_i hx hb hr hlocks hP hD hS () rfl (by (have e : q = n := by omega); subst e; rfl) dX9_weighColour_46
    · -- f
      refine lv_iload_n hx hb dX9_weighColour_14 rfl (lv_at hl 3 rfl) ?_
      refine lv_aload_n hx hb dX9_weighColour_15 rfl (lv_at hl 0 rfl) ?_
      refine b_get (ci := 9) (v := .ref (a 3)) (C := RX9) (T := TX9) (N := 13) hx hb hts (by decide +kernel) hown hK hP 0 rfl rfl 4 (by decide) (hts (.fieldLink RX9 23 "ChanceHallModel" "colour" "[I") (by decide +kernel)) (fun _ h9 => h9) rfl dX9_weighColour_16 ?_
      refine lv_iload hx hb dX9_weighColour_19 (lv_at hl 4 rfl) ?_
      refine b_iald hx hb hK hP 2 0 rfl rfl (by omega) (by decide) dX9_weighColour_21 ?_
      refine eqi (x' := nI (col q)) (hC q (by omega)) ?_
      have hcq := hcl q (by omega)
      refine lv_iload_n hx hb dX9_weighColour_22 rfl (lv_at hl 2 rfl) ?_
      refine n_icmp_ne (tgt := 36) hx hb dX9_weighColour_23 (by decide) (by omega) (by omega) (fun h23 => ?_) (fun h23 => ?_)
      · -- t
        refine lv_iconst (v := nI 0) hx hb dX9_weighColour_36 (by decide) ?_
        refine lv_iadd hx hb dX9_weighColour_37 ?_
        refine eqi (x' := nI (sm (fun q => if col q = x then cnt (g i) q k else 0) q)) (nI_add _ _) ?_
        refine eqi (x' := nI (sm (fun q => if col q = x then cnt (g i) q k else 0) (q + 1))) (congrArg nI (by simp [sm, h23])) ?_
        refine lv_istore_n (lv' := [(3, .int (nI (sm (fun q => if col q = x then cnt (g i) q k else 0) (q + 1)))), (0, .ref (a 0)), (1, .int (nI i)), (2, .int (nI x)), (4, .int (nI q))]) hx hb dX9_weighColour_38 rfl hl (by decide) rfl (fun ls hl => ?_)
        refine lv_iinc (v := nI (q + 1)) (lv' := [(4, .int (nI (q + 1))), (3, .int (nI (sm (fun q => if col q = x then cnt (g i) q k else 0) (q + 1)))), (0, .ref (a 0)), (1, .int (nI i)), (2, .int (nI x))]) hx hb dX9_weighColour_39 hl (k := 4) rfl (nI_1 q) (by decide) rfl (fun ls hl => ?_)
        refine lv_goto (tgt := 5) hx hb dX9_weighColour_42 (by decide) ?_
        exact ih5 (by omega)   _ _ hP hD hS _ (lv_sub hl [2, 3, 4, 1, 0] rfl)
      · -- f
        refine lv_aload_n hx hb dX9_weighColour_26 rfl (lv_at hl 0 rfl) ?_
        refine lv_iload_n hx hb dX9_weighColour_27 rfl (lv_at hl 1 rfl) ?_
        refine lv_iload hx hb dX9_weighColour_28 (lv_at hl 4 rfl) ?_
        refine ca_i (CL := [mO a (nI n) (nI k) th, [(a 1, .inl (cY 0, 72, .inl fto))]]) (va_runV (As := [.int (nI i), .int (nI q)]) (rest := [.int (nI (sm (fun q => if col q = x then cnt (g i) q k else 0) q))]) ⟨hx, hb, hml, hown, hts⟩ (c_X9_weigh l D cY H.size a n k th fto g i q (by omega) (by omega) (by omega) (by omega) hG hgn (by omega) (by omega)) (cwV 2 hts gX9_weighColour_X9_weigh rfl rfl rfl (by decide +kernel) ⟨Nat.le_of_ble_eq_true rfl, Nat.le_of_ble_eq_true rfl⟩) (b_preV hVK hP hD [0, 1] rfl rfl 0 rfl rfl) rfl rfl hl.1 rfl (lv_room (Nat.le_of_ble_eq_true rfl)) dX9_weighColour_30 ⟨Nat.le_refl _, Nat.le_refl _⟩) hP hD hS hA [0, 1] rfl rfl (fun _ => rfl) (fun r30 uu H locs hq hP hD hS => ?_)
        subst hq
        have hP : va_P D vwCl ([mO a (nI n) (nI k) th, [(a 1, .inl (cY 0, 72, .inl fto))], [(a 3, .inl (cY 0, 6, .inl fcol))]] : List va_W).flatten H := hP
        have hD : va_D A ([mO a (nI n) (nI k) th, [(a 1, .inl (cY 0, 72, .inl fto))], [(a 3, .inl (cY 0, 6, .inl fcol))]] : List va_W).flatten := hD
        refine lv_goto (tgt := 37) hx hb dX9_weighColour_33 (by decide) ?_
        refine lv_iadd hx hb dX9_weighColour_37 ?_
        refine eqi (x' := nI (sm (fun q => if col q = x then cnt (g i) q k else 0) q + cnt (g i) q k)) (nI_add _ _) ?_
        refine eqi (x' := nI (sm (fun q => if col q = x then cnt (g i) q k else 0) (q + 1))) (congrArg nI (by simp [sm, h23])) ?_
        refine lv_istore_n (lv' := [(3, .int (nI (sm (fun q => if col q = x then cnt (g i) q k else 0) (q + 1)))), (0, .ref (a 0)), (1, .int (nI i)), (2, .int (nI x)), (4, .int (nI q))]) hx hb dX9_weighColour_38 rfl hl (by decide) rfl (fun ls hl => ?_)
        refine lv_iinc (v := nI (q + 1)) (lv' := [(4, .int (nI (q + 1))), (3, .int (nI (sm (fun q => if col q = x then cnt (g i) q k else 0) (q + 1)))), (0, .ref (a 0)), (1, .int (nI i)), (2, .int (nI x))]) hx hb dX9_weighColour_39 hl (k := 4) rfl (nI_1 q) (by decide) rfl (fun ls hl => ?_)
        refine lv_goto (tgt := 5) hx hb dX9_weighColour_42 (by decide) ?_
        exact ih5 (by omega)   _ _ hP hD hS _ (lv_sub hl [2, 3, 4, 1, 0] rfl)
  exact L5 0 (by omega)   _ _ hP hD hS _ (lv_sub hl [2, 3, 4, 1, 0] rfl)

set_option maxHeartbeats 4000000 in
set_option maxRecDepth 100000 in
theorem c_X9_isLumped (l : Launch) (D : va_G) (cY : Nat → ClassId) (sz : Nat) (a : Nat → Nat) (n : Nat) (k : Nat) (th : Int32) (fto : Nat → Int32) (fcol : Nat → Int32) (g : Nat → Nat → Nat) (col : Nat → Nat) (hn1 : 1 ≤ n) (hn6 : n ≤ 6) (hk1 : 1 ≤ k) (hk12 : k ≤ 12) (hG : ∀ i j, i < n → j < k → fto (12 * i + j) = nI (g i j)) (hgn : ∀ i j, i < n → j < k → g i j < n) (hC : ∀ j, j < n → fcol j = nI (col j)) (hcl : ∀ j, j < n → col j < 6) : Met l yX9_isLumped wsX9_isLumped ({ frames := 3, cells := 0, slots := 0, locals := 120 }) (cP D cY [.ref (a 0)] [mO a (nI n) (nI k) th, [(a 1, .inl (cY 0, 72, .inl fto))], [(a 3, .inl (cY 0, 6, .inl fcol))]] sz) (qI (S := Unit) D cY (fun r u => r = bI (lmB g n k col)) (fun u => [mO a (nI n) (nI k) (nI 0), [(a 1, .inl (cY 0, 72, .inl fto))], [(a 3, .inl (cY 0, 6, .inl fcol))]]) (va_A ([mO a (nI n) (nI k) th, [(a 1, .inl (cY 0, 72, .inl fto))], [(a 3, .inl (cY 0, 6, .inl fcol))]] : List va_W).flatten sz)) 0 0 (va_A ([mO a (nI n) (nI k) th, [(a 1, .inl (cY 0, 72, .inl fto))], [(a 3, .inl (cY 0, 6, .inl fcol))]] : List va_W).flatten sz) := by
  refine mtB (Qc := fun A => qI (S := Unit) D cY (fun r u => r = bI (lmB g n k col)) (fun u => [mO a (nI n) (nI k) (nI 0), [(a 1, .inl (cY 0, 72, .inl fto))], [(a 3, .inl (cY 0, 6, .inl fcol))]]) A) (cc := cX9_isLumped) (maxL := 5) (ret := (some .boolean)) (by decide) rfl (Nat.le_of_ble_eq_true rfl) ?_
  intro p e s m below meth c A ls hx hb hr hml hts hown hlocks hnm hsz hP hK hVK hD hS hA hl
  have hown : s.vm.findClass RX9 = some m.cls := hown
  have hl : lv_has ls 5 [(0, .ref (a 0))] := hl
  have hP : va_P D vwCl ([mO a (nI n) (nI k) th, [(a 1, .inl (cY 0, 72, .inl fto))], [(a 3, .inl (cY 0, 6, .inl fcol))]] : List va_W).flatten s.heap := hP
  have hD : va_D A ([mO a (nI n) (nI k) th, [(a 1, .inl (cY 0, 72, .inl fto))], [(a 3, .inl (cY 0, 6, .inl fcol))]] : List va_W).flatten := hD
  refine lv_aload_n hx hb dX9_isLumped_0 rfl (lv_at hl 0 rfl) ?_
  refine lv_iconst (v := nI 0) hx hb dX9_isLumped_1 (by decide) ?_
  refine b_put (ci := 9) (v := .int (nI 0)) (ty := .int) (C := RX9) (T := TX9) (N := 13) hx hb hts (by decide +kernel) tyX9 tyX9_ok nmX9 hown hK hP hD hS 0 rfl rfl 12 (by decide) (hts (.fieldLink RX9 48 "ChanceHallModel" "thrown" "I") (by decide +kernel)) (fun _ h9 => h9) rfl (by decide +kernel) rfl rfl (Nat.le_of_ble_eq_true rfl) dX9_isLumped_2 (fun H locs hP hD hS => ?_)
  have hP : va_P D vwCl ([mO a (nI n) (nI k) (nI 0), [(a 1, .inl (cY 0, 72, .inl fto))], [(a 3, .inl (cY 0, 6, .inl fcol))]] : List va_W).flatten H := hP
  have hD : va_D A ([mO a (nI n) (nI k) (nI 0), [(a 1, .inl (cY 0, 72, .inl fto))], [(a 3, .inl (cY 0, 6, .inl fcol))]] : List va_W).flatten := hD
  refine lv_iconst (v := nI 1) hx hb dX9_isLumped_5 (by decide) ?_
  refine lv_istore_n (lv' := [(1, .int (nI 1)), (0, .ref (a 0))]) hx hb dX9_isLumped_6 rfl hl (by decide) rfl (fun ls hl => ?_)
  refine lv_iconst (v := nI 0) hx hb dX9_isLumped_7 (by decide) ?_
  refine lv_istore_n (lv' := [(2, .int (nI 0)), (1, .int (nI 1)), (0, .ref (a 0))]) hx hb dX9_isLumped_8 rfl hl (by decide) rfl (fun ls hl => ?_)
  have L9 : ∀ u : Nat, u ≤ n →  ∀ (H : Heap) (locs : List Loc), va_P D vwCl ([mO a (nI n) (nI k) (nI 0), [(a 1, .inl (cY 0, 72, .inl fto))], [(a 3, .inl (cY 0, 6, .inl fcol))]] : List va_W).flatten H → va_D A ([mO a (nI n) (nI k) (nI 0), [(a 1, .inl (cY 0, 72, .inl fto))], [(a 3, .inl (cY 0, 6, .inl fcol))]] : List va_W).flatten → va_S A s.heap H locs → ∀ (ls : Array Slot), lv_has ls 5 [(0, .ref (a 0)), (1, .int (bI (allB (fun u => allB (fun w => allB (fun x => lmK g n k col u w x) 6) u) u))), (2, .int (nI u))] → W p l e ({ frames := 3, cells := 0, slots := 0, locals := 120 }) s m ([.ref (a 0)] : List Value).toArray below meth c H locs 0 0 (MQ below (qI (S := Unit) D cY (fun r u => r = bI (lmB g n k col)) (fun u => [mO a (nI n) (nI k) (nI 0), [(a 1, .inl (cY 0, 72, .inl fto))], [(a 3, .inl (cY 0, 6, .inl fcol))]]) A) ([.ref (a 0)] : List Value).toArray s 0 0 A) (F0 m 9 ls []) := by
    refine lpW n ?_
    intro u bdu ih9   H locs hP hD hS ls hl
    refine lv_iload_n hx hb dX9_isLumped_9 rfl (lv_at hl 2 rfl) ?_
    refine lv_aload_n hx hb dX9_isLumped_10 rfl (lv_at hl 0 rfl) ?_
    refine b_get (ci := 9) (v := .int (nI n)) (C := RX9) (T := TX9) (N := 13) hx hb hts (by decide +kernel) hown hK hP 0 rfl rfl 0 (by decide) (hts (.fieldLink RX9 7 "ChanceHallModel" "states" "I") (by decide +kernel)) (fun _ h9 => h9) rfl dX9_isLumped_11 ?_
    refine n_icmp_ge (tgt := 94) hx hb dX9_isLumped_14 (by decide) (by omega) (by omega) (fun h14 => ?_) (fun h14 => ?_)
    · -- t
      refine lv_iload_n hx hb dX9_isLumped_94 rfl (lv_at hl 1 rfl) ?_
      exact r_z hx hb hr hlocks hP hD hS () rfl (by (have e : u = n := by omega); subst e; rfl) dX9_isLumped_95
    · -- f
      refine lv_iconst (v := nI 0) hx hb dX9_isLumped_17 (by decide) ?_
      refine lv_istore_n (lv' := [(3, .int (nI 0)), (0, .ref (a 0)), (1, .int (bI (allB (fun u => allB (fun w => allB (fun x => lmK g n k col u w x) 6) u) u))), (2, .int (nI u))]) hx hb dX9_isLumped_18 rfl hl (by decide) rfl (fun ls hl => ?_)
      have L19 : ∀ w : Nat, w ≤ u →  ∀ (H : Heap) (locs : List Loc), va_P D vwCl ([mO a (nI n) (nI k) (nI 0), [(a 1, .inl (cY 0, 72, .inl fto))], [(a 3, .inl (cY 0, 6, .inl fcol))]] : List va_W).flatten H → va_D A ([mO a (nI n) (nI k) (nI 0), [(a 1, .inl (cY 0, 72, .inl fto))], [(a 3, .inl (cY 0, 6, .inl fcol))]] : List va_W).flatten → va_S A s.heap H locs → ∀ (ls : Array Slot), lv_has ls 5 [(0, .ref (a 0)), (1, .int (bI (allB (fun w => allB (fun x => lmK g n k col u w x) 6) w && allB (fun u => allB (fun w => allB (fun x => lmK g n k col u w x) 6) u) u))), (2, .int (nI u)), (3, .int (nI w))] → W p l e ({ frames := 3, cells := 0, slots := 0, locals := 120 }) s m ([.ref (a 0)] : List Value).toArray below meth c H locs 0 0 (MQ below (qI (S := Unit) D cY (fun r u => r = bI (lmB g n k col)) (fun u => [mO a (nI n) (nI k) (nI 0), [(a 1, .inl (cY 0, 72, .inl fto))], [(a 3, .inl (cY 0, 6, .inl fcol))]]) A) ([.ref (a 0)] : List Value).toArray s 0 0 A) (F0 m 19 ls []) := by
        refine lpW u ?_
        intro w bdw ih19   H locs hP hD hS ls hl
        refine lv_iload_n hx hb dX9_isLumped_19 rfl (lv_at hl 3 rfl) ?_
        refine lv_iload_n hx hb dX9_isLumped_20 rfl (lv_at hl 2 rfl) ?_
        refine n_icmp_ge (tgt := 88) hx hb dX9_isLumped_21 (by decide) (by omega) (by omega) (fun h21 => ?_) (fun h21 => ?_)
        · -- t
          have e21 : w = u := by omega
          refine lv_iinc (v := nI (u + 1)) (lv' := [(2, .int (nI (u + 1))), (0, .ref (a 0)), (1, .int (bI (allB (fun w => allB (fun x => lmK g n k col u w x) 6) w && allB (fun u => allB (fun w => allB (fun x => lmK g n k col u w x) 6) u) u))), (3, .int (nI w))]) hx hb dX9_isLumped_88 hl (k := 2) rfl (nI_1 u) (by decide) rfl (fun ls hl => ?_)
          refine lv_goto (tgt := 9) hx hb dX9_isLumped_91 (by decide) ?_
          exact ih9 (by omega)   _ _ hP hD hS _ (lv_sub hl [1, 2, 0] (by rw [e21]; rfl))
        · -- f
          refine lv_iconst (v := nI 0) hx hb dX9_isLumped_24 (by decide) ?_
          refine lv_istore (lv' := [(4, .int (nI 0)), (0, .ref (a 0)), (1, .int (bI (allB (fun w => allB (fun x => lmK g n k col u w x) 6) w && allB (fun u => allB (fun w => allB (fun x => lmK g n k col u w x) 6) u) u))), (2, .int (nI u)), (3, .int (nI w))]) hx hb dX9_isLumped_25 hl (by decide) rfl (fun ls hl => ?_)
          have L27 : ∀ x : Nat, x ≤ 6 →  ∀ (H : Heap) (locs : List Loc), va_P D vwCl ([mO a (nI n) (nI k) (nI 0), [(a 1, .inl (cY 0, 72, .inl fto))], [(a 3, .inl (cY 0, 6, .inl fcol))]] : List va_W).flatten H → va_D A ([mO a (nI n) (nI k) (nI 0), [(a 1, .inl (cY 0, 72, .inl fto))], [(a 3, .inl (cY 0, 6, .inl fcol))]] : List va_W).flatten → va_S A s.heap H locs → ∀ (ls : Array Slot), lv_has ls 5 [(0, .ref (a 0)), (1, .int (bI (allB (lmK g n k col u w) x && allB (fun w => allB (fun x => lmK g n k col u w x) 6) w && allB (fun u => allB (fun w => allB (fun x => lmK g n k col u w x) 6) u) u))), (2, .int (nI u)), (3, .int (nI w)), (4, .int (nI x))] → W p l e ({ frames := 3, cells := 0, slots := 0, locals := 120 }) s m ([.ref (a 0)] : List Value).toArray below meth c H locs 0 0 (MQ below (qI (S := Unit) D cY (fun r u => r = bI (lmB g n k col)) (fun u => [mO a (nI n) (nI k) (nI 0), [(a 1, .inl (cY 0, 72, .inl fto))], [(a 3, .inl (cY 0, 6, .inl fcol))]]) A) ([.ref (a 0)] : List Value).toArray s 0 0 A) (F0 m 27 ls []) := by
            refine lpW 6 ?_
            intro x bdx ih27   H locs hP hD hS ls hl
            refine lv_iload hx hb dX9_isLumped_27 (lv_at hl 4 rfl) ?_
            refine lv_bipush (v := nI 6) hx hb dX9_isLumped_29 (by decide) ?_
            refine n_icmp_ge (tgt := 82) hx hb dX9_isLumped_31 (by decide) (by omega) (by omega) (fun h31 => ?_) (fun h31 => ?_)
            · -- t
              have e31 : x = 6 := by omega
              refine lv_iinc (v := nI (w + 1)) (lv' := [(3, .int (nI (w + 1))), (0, .ref (a 0)), (1, .int (bI (allB (lmK g n k col u w) x && allB (fun w => allB (fun x => lmK g n k col u w x) 6) w && allB (fun u => allB (fun w => allB (fun x => lmK g n k col u w x) 6) u) u))), (2, .int (nI u)), (4, .int (nI x))]) hx hb dX9_isLumped_82 hl (k := 3) rfl (nI_1 w) (by decide) rfl (fun ls hl => ?_)
              refine lv_goto (tgt := 19) hx hb dX9_isLumped_85 (by decide) ?_
              exact ih19 (by omega)   _ _ hP hD hS _ (lv_sub hl [1, 2, 3, 0] (by rw [e31]; rfl))
            · -- f
              refine lv_iload_n hx hb dX9_isLumped_34 rfl (lv_at hl 1 rfl) ?_
              refine b_if_eq (tgt := 74) hx hb dX9_isLumped_35 (by decide) (fun h35 => ?_) (fun h35 => ?_)
              · -- t
                refine lv_iconst (v := nI 0) hx hb dX9_isLumped_74 (by decide) ?_
                refine eqi (x' := bI (allB (lmK g n k col u w) (x + 1) && allB (fun w => allB (fun x => lmK g n k col u w x) 6) w && allB (fun u => allB (fun w => allB (fun x => lmK g n k col u w x) 6) u) u)) (by first | exact lall_f (Or.inl h35) | exact lall_f (Or.inr (or_ff (not_f (dec_t h50)) (dec_f h67)))) ?_
                refine lv_istore_n (lv' := [(1, .int (bI (allB (lmK g n k col u w) (x + 1) && allB (fun w => allB (fun x => lmK g n k col u w x) 6) w && allB (fun u => allB (fun w => allB (fun x => lmK g n k col u w x) 6) u) u))), (0, .ref (a 0)), (2, .int (nI u)), (3, .int (nI w)), (4, .int (nI x))]) hx hb dX9_isLumped_75 rfl hl (by decide) rfl (fun ls hl => ?_)
                refine lv_iinc (v := nI (x + 1)) (lv' := [(4, .int (nI (x + 1))), (1, .int (bI (allB (lmK g n k col u w) (x + 1) && allB (fun w => allB (fun x => lmK g n k col u w x) 6) w && allB (fun u => allB (fun w => allB (fun x => lmK g n k col u w x) 6) u) u))), (0, .ref (a 0)), (2, .int (nI u)), (3, .int (nI w))]) hx hb dX9_isLumped_76 hl (k := 4) rfl (nI_1 x) (by decide) rfl (fun ls hl => ?_)
                refine lv_goto (tgt := 27) hx hb dX9_isLumped_79 (by decide) ?_
                exact ih27 (by omega)   _ _ hP hD hS _ (lv_sub hl [2, 1, 3, 4, 0] rfl)
              · -- f
                refine lv_aload_n hx hb dX9_isLumped_38 rfl (lv_at hl 0 rfl) ?_
                refine b_get (ci := 9) (v := .ref (a 3)) (C := RX9) (T := TX9) (N := 13) hx hb hts (by decide +kernel) hown hK hP 0 rfl rfl 4 (by decide) (hts (.fieldLink RX9 23 "ChanceHallModel" "colour" "[I") (by decide +kernel)) (fun _ h9 => h9) rfl dX9_isLumped_39 ?_
                refine lv_iload_n hx hb dX9_isLumped_42 rfl (lv_at hl 2 rfl) ?_
                refine b_iald hx hb hK hP 2 0 rfl rfl (by omega) (by decide) dX9_isLumped_43 ?_
                refine eqi (x' := nI (col u)) (hC u (by omega)) ?_
                refine lv_aload_n hx hb dX9_isLumped_44 rfl (lv_at hl 0 rfl) ?_
                refine b_get (ci := 9) (v := .ref (a 3)) (C := RX9) (T := TX9) (N := 13) hx hb hts (by decide +kernel) hown hK hP 0 rfl rfl 4 (by decide) (hts (.fieldLink RX9 23 "ChanceHallModel" "colour" "[I") (by decide +kernel)) (fun _ h9 => h9) rfl dX9_isLumped_45 ?_
                refine lv_iload_n hx hb dX9_isLumped_48 rfl (lv_at hl 3 rfl) ?_
                refine b_iald hx hb hK hP 2 0 rfl rfl (by omega) (by decide) dX9_isLumped_49 ?_
                refine eqi (x' := nI (col w)) (hC w (by omega)) ?_
                have hcu := hcl u (by omega)
                have hcw := hcl w (by omega)
                refine n_icmp_ne (tgt := 70) hx hb dX9_isLumped_50 (by decide) (by omega) (by omega) (fun h50 => ?_) (fun h50 => ?_)
                · -- t
                  refine lv_iconst (v := nI 1) hx hb dX9_isLumped_70 (by decide) ?_
                  refine lv_goto (tgt := 75) hx hb dX9_isLumped_71 (by decide) ?_
                  refine eqi (x' := bI (allB (lmK g n k col u w) (x + 1) && allB (fun w => allB (fun x => lmK g n k col u w x) 6) w && allB (fun u => allB (fun w => allB (fun x => lmK g n k col u w x) 6) u) u)) (by first | exact lall_t h35 (or_1 (not_t (dec_f h50))) | exact lall_t h35 (or_2 (dec_t h67))) ?_
                  refine lv_istore_n (lv' := [(1, .int (bI (allB (lmK g n k col u w) (x + 1) && allB (fun w => allB (fun x => lmK g n k col u w x) 6) w && allB (fun u => allB (fun w => allB (fun x => lmK g n k col u w x) 6) u) u))), (0, .ref (a 0)), (2, .int (nI u)), (3, .int (nI w)), (4, .int (nI x))]) hx hb dX9_isLumped_75 rfl hl (by decide) rfl (fun ls hl => ?_)
                  refine lv_iinc (v := nI (x + 1)) (lv' := [(4, .int (nI (x + 1))), (1, .int (bI (allB (lmK g n k col u w) (x + 1) && allB (fun w => allB (fun x => lmK g n k col u w x) 6) w && allB (fun u => allB (fun w => allB (fun x => lmK g n k col u w x) 6) u) u))), (0, .ref (a 0)), (2, .int (nI u)), (3, .int (nI w))]) hx hb dX9_isLumped_76 hl (k := 4) rfl (nI_1 x) (by decide) rfl (fun ls hl => ?_)
                  refine lv_goto (tgt := 27) hx hb dX9_isLumped_79 (by decide) ?_
                  exact ih27 (by omega)   _ _ hP hD hS _ (lv_sub hl [2, 1, 3, 4, 0] rfl)
                · -- f
                  refine lv_aload_n hx hb dX9_isLumped_53 rfl (lv_at hl 0 rfl) ?_
                  refine lv_iload_n hx hb dX9_isLumped_54 rfl (lv_at hl 2 rfl) ?_
                  refine lv_iload hx hb dX9_isLumped_55 (lv_at hl 4 rfl) ?_
                  refine ca_i (CL := [mO a (nI n) (nI k) (nI 0), [(a 1, .inl (cY 0, 72, .inl fto))], [(a 3, .inl (cY 0, 6, .inl fcol))]]) (va_runV (As := [.int (nI u), .int (nI x)]) (rest := []) ⟨hx, hb, hml, hown, hts⟩ (c_X9_weighColour l D cY H.size a n k (nI 0) fto fcol g col u x (by omega) (by omega) (by omega) (by omega) hG hgn hC hcl (by omega) (by omega)) (cwV 2 hts gX9_isLumped_X9_weighColour rfl rfl rfl (by decide +kernel) ⟨Nat.le_of_ble_eq_true rfl, Nat.le_of_ble_eq_true rfl⟩) (b_preV hVK hP hD [0, 1, 2] rfl rfl 0 rfl rfl) rfl rfl hl.1 rfl (lv_room (Nat.le_of_ble_eq_true rfl)) dX9_isLumped_57 ⟨Nat.le_refl _, Nat.le_refl _⟩) hP hD hS hA [0, 1, 2] rfl rfl (fun _ => rfl) (fun r57 uu H locs hq hP hD hS => ?_)
                  subst hq
                  have hP : va_P D vwCl ([mO a (nI n) (nI k) (nI 0), [(a 1, .inl (cY 0, 72, .inl fto))], [(a 3, .inl (cY 0, 6, .inl fcol))]] : List va_W).flatten H := hP
                  have hD : va_D A ([mO a (nI n) (nI k) (nI 0), [(a 1, .inl (cY 0, 72, .inl fto))], [(a 3, .inl (cY 0, 6, .inl fcol))]] : List va_W).flatten := hD
                  refine lv_aload_n hx hb dX9_isLumped_60 rfl (lv_at hl 0 rfl) ?_
                  refine lv_iload_n hx hb dX9_isLumped_61 rfl (lv_at hl 3 rfl) ?_
                  refine lv_iload hx hb dX9_isLumped_62 (lv_at hl 4 rfl) ?_
                  refine ca_i (CL := [mO a (nI n) (nI k) (nI 0), [(a 1, .inl (cY 0, 72, .inl fto))], [(a 3, .inl (cY 0, 6, .inl fcol))]]) (va_runV (As := [.int (nI w), .int (nI x)]) (rest := [.int (nI (WC g k col n u x))]) ⟨hx, hb, hml, hown, hts⟩ (c_X9_weighColour l D cY H.size a n k (nI 0) fto fcol g col w x (by omega) (by omega) (by omega) (by omega) hG hgn hC hcl (by omega) (by omega)) (cwV 2 hts gX9_isLumped_X9_weighColour rfl rfl rfl (by decide +kernel) ⟨Nat.le_of_ble_eq_true rfl, Nat.le_of_ble_eq_true rfl⟩) (b_preV hVK hP hD [0, 1, 2] rfl rfl 0 rfl rfl) rfl rfl hl.1 rfl (lv_room (Nat.le_of_ble_eq_true rfl)) dX9_isLumped_64 ⟨Nat.le_refl _, Nat.le_refl _⟩) hP hD hS hA [0, 1, 2] rfl rfl (fun _ => rfl) (fun r64 uu H locs hq hP hD hS => ?_)
                  subst hq
                  have hP : va_P D vwCl ([mO a (nI n) (nI k) (nI 0), [(a 1, .inl (cY 0, 72, .inl fto))], [(a 3, .inl (cY 0, 6, .inl fcol))]] : List va_W).flatten H := hP
                  have hD : va_D A ([mO a (nI n) (nI k) (nI 0), [(a 1, .inl (cY 0, 72, .inl fto))], [(a 3, .inl (cY 0, 6, .inl fcol))]] : List va_W).flatten := hD
                  have hwu := WC_le (g := g) (k := k) (col := col) (n := n) (i := u) (x := x)
                  have hww := WC_le (g := g) (k := k) (col := col) (n := n) (i := w) (x := x)
                  refine n_icmp_ne (tgt := 74) hx hb dX9_isLumped_67 (by decide) (by omega) (by omega) (fun h67 => ?_) (fun h67 => ?_)
                  · -- t
                    refine lv_iconst (v := nI 0) hx hb dX9_isLumped_74 (by decide) ?_
                    refine eqi (x' := bI (allB (lmK g n k col u w) (x + 1) && allB (fun w => allB (fun x => lmK g n k col u w x) 6) w && allB (fun u => allB (fun w => allB (fun x => lmK g n k col u w x) 6) u) u)) (by first | exact lall_f (Or.inl h35) | exact lall_f (Or.inr (or_ff (not_f (dec_t h50)) (dec_f h67)))) ?_
                    refine lv_istore_n (lv' := [(1, .int (bI (allB (lmK g n k col u w) (x + 1) && allB (fun w => allB (fun x => lmK g n k col u w x) 6) w && allB (fun u => allB (fun w => allB (fun x => lmK g n k col u w x) 6) u) u))), (0, .ref (a 0)), (2, .int (nI u)), (3, .int (nI w)), (4, .int (nI x))]) hx hb dX9_isLumped_75 rfl hl (by decide) rfl (fun ls hl => ?_)
                    refine lv_iinc (v := nI (x + 1)) (lv' := [(4, .int (nI (x + 1))), (1, .int (bI (allB (lmK g n k col u w) (x + 1) && allB (fun w => allB (fun x => lmK g n k col u w x) 6) w && allB (fun u => allB (fun w => allB (fun x => lmK g n k col u w x) 6) u) u))), (0, .ref (a 0)), (2, .int (nI u)), (3, .int (nI w))]) hx hb dX9_isLumped_76 hl (k := 4) rfl (nI_1 x) (by decide) rfl (fun ls hl => ?_)
                    refine lv_goto (tgt := 27) hx hb dX9_isLumped_79 (by decide) ?_
                    exact ih27 (by omega)   _ _ hP hD hS _ (lv_sub hl [2, 1, 3, 4, 0] rfl)
                  · -- f
                    refine lv_iconst (v := nI 1) hx hb dX9_isLumped_70 (by decide) ?_
                    refine lv_goto (tgt := 75) hx hb dX9_isLumped_71 (by decide) ?_
                    refine eqi (x' := bI (allB (lmK g n k col u w) (x + 1) && allB (fun w => allB (fun x => lmK g n k col u w x) 6) w && allB (fun u => allB (fun w => allB (fun x => lmK g n k col u w x) 6) u) u)) (by first | exact lall_t h35 (or_1 (not_t (dec_f h50))) | exact lall_t h35 (or_2 (dec_t h67))) ?_
                    refine lv_istore_n (lv' := [(1, .int (bI (allB (lmK g n k col u w) (x + 1) && allB (fun w => allB (fun x => lmK g n k col u w x) 6) w && allB (fun u => allB (fun w => allB (fun x => lmK g n k col u w x) 6) u) u))), (0, .ref (a 0)), (2, .int (nI u)), (3, .int (nI w)), (4, .int (nI x))]) hx hb dX9_isLumped_75 rfl hl (by decide) rfl (fun ls hl => ?_)
                    refine lv_iinc (v := nI (x + 1)) (lv' := [(4, .int (nI (x + 1))), (1, .int (bI (allB (lmK g n k col u w) (x + 1) && allB (fun w => allB (fun x => lmK g n k col u w x) 6) w && allB (fun u => allB (fun w => allB (fun x => lmK g n k col u w x) 6) u) u))), (0, .ref (a 0)), (2, .int (nI u)), (3, .int (nI w))]) hx hb dX9_isLumped_76 hl (k := 4) rfl (nI_1 x) (by decide) rfl (fun ls hl => ?_)
                    refine lv_goto (tgt := 27) hx hb dX9_isLumped_79 (by decide) ?_
                    exact ih27 (by omega)   _ _ hP hD hS _ (lv_sub hl [2, 1, 3, 4, 0] rfl)
          exact L27 0 (by omega)   _ _ hP hD hS _ (lv_sub hl [1, 2, 3, 4, 0] rfl)
      exact L19 0 (by omega)   _ _ hP hD hS _ (lv_sub hl [1, 2, 3, 0] rfl)
  exact L9 0 (by omega)   _ _ hP hD hS _ (lv_sub hl [2, 1, 0] rfl)

set_option maxHeartbeats 4000000 in
set_option maxRecDepth 100000 in
theorem c_X9_reverses (l : Launch) (D : va_G) (cY : Nat → ClassId) (sz : Nat) (a : Nat → Nat) (n : Nat) (k : Nat) (th : Int32) (fto : Nat → Int32) (fmnr : Nat → Int64) (fwts : Nat → Int64) (g : Nat → Nat → Nat) (hn1 : 1 ≤ n) (hn6 : n ≤ 6) (hk1 : 1 ≤ k) (hk12 : k ≤ 12) (hG : ∀ i j, i < n → j < k → fto (12 * i + j) = nI (g i j)) (hgn : ∀ i j, i < n → j < k → g i j < n) : Met l yX9_reverses wsX9_reverses ({ frames := 5, cells := 0, slots := 0, locals := 200 }) (cP D cY [.ref (a 0)] [mO a (nI n) (nI k) th, [(a 1, .inl (cY 0, 72, .inl fto))], [(a 7, .inl (cY 1, 32, .inr (.inl fmnr)))], [(a 8, .inl (cY 1, 25, .inr (.inl fwts)))]] sz) (qI (S := (Nat → Int64) × (Nat → Int64)) D cY (fun r u => r = bI (rvB g n k)) (fun u => [mO a (nI n) (nI k) (nI 0), [(a 1, .inl (cY 0, 72, .inl fto))], [(a 7, .inl (cY 1, 32, .inr (.inl u.1)))], [(a 8, .inl (cY 1, 25, .inr (.inl u.2)))]]) (va_A ([mO a (nI n) (nI k) th, [(a 1, .inl (cY 0, 72, .inl fto))], [(a 7, .inl (cY 1, 32, .inr (.inl fmnr)))], [(a 8, .inl (cY 1, 25, .inr (.inl fwts)))]] : List va_W).flatten sz)) 0 0 (va_A ([mO a (nI n) (nI k) th, [(a 1, .inl (cY 0, 72, .inl fto))], [(a 7, .inl (cY 1, 32, .inr (.inl fmnr)))], [(a 8, .inl (cY 1, 25, .inr (.inl fwts)))]] : List va_W).flatten sz) := by
  refine mtB (Qc := fun A => qI (S := (Nat → Int64) × (Nat → Int64)) D cY (fun r u => r = bI (rvB g n k)) (fun u => [mO a (nI n) (nI k) (nI 0), [(a 1, .inl (cY 0, 72, .inl fto))], [(a 7, .inl (cY 1, 32, .inr (.inl u.1)))], [(a 8, .inl (cY 1, 25, .inr (.inl u.2)))]]) A) (cc := cX9_reverses) (maxL := 4) (ret := (some .boolean)) (by decide) rfl (Nat.le_of_ble_eq_true rfl) ?_
  intro p e s m below meth c A ls hx hb hr hml hts hown hlocks hnm hsz hP hK hVK hD hS hA hl
  have hown : s.vm.findClass RX9 = some m.cls := hown
  have hl : lv_has ls 4 [(0, .ref (a 0))] := hl
  have hP : va_P D vwCl ([mO a (nI n) (nI k) th, [(a 1, .inl (cY 0, 72, .inl fto))], [(a 7, .inl (cY 1, 32, .inr (.inl fmnr)))], [(a 8, .inl (cY 1, 25, .inr (.inl fwts)))]] : List va_W).flatten s.heap := hP
  have hD : va_D A ([mO a (nI n) (nI k) th, [(a 1, .inl (cY 0, 72, .inl fto))], [(a 7, .inl (cY 1, 32, .inr (.inl fmnr)))], [(a 8, .inl (cY 1, 25, .inr (.inl fwts)))]] : List va_W).flatten := hD
  refine lv_aload_n hx hb dX9_reverses_0 rfl (lv_at hl 0 rfl) ?_
  refine lv_iconst (v := nI 0) hx hb dX9_reverses_1 (by decide) ?_
  refine b_put (ci := 9) (v := .int (nI 0)) (ty := .int) (C := RX9) (T := TX9) (N := 13) hx hb hts (by decide +kernel) tyX9 tyX9_ok nmX9 hown hK hP hD hS 0 rfl rfl 12 (by decide) (hts (.fieldLink RX9 48 "ChanceHallModel" "thrown" "I") (by decide +kernel)) (fun _ h9 => h9) rfl (by decide +kernel) rfl rfl (Nat.le_of_ble_eq_true rfl) dX9_reverses_2 (fun H locs hP hD hS => ?_)
  have hP : va_P D vwCl ([mO a (nI n) (nI k) (nI 0), [(a 1, .inl (cY 0, 72, .inl fto))], [(a 7, .inl (cY 1, 32, .inr (.inl fmnr)))], [(a 8, .inl (cY 1, 25, .inr (.inl fwts)))]] : List va_W).flatten H := hP
  have hD : va_D A ([mO a (nI n) (nI k) (nI 0), [(a 1, .inl (cY 0, 72, .inl fto))], [(a 7, .inl (cY 1, 32, .inr (.inl fmnr)))], [(a 8, .inl (cY 1, 25, .inr (.inl fwts)))]] : List va_W).flatten := hD
  refine lv_aload_n hx hb dX9_reverses_5 rfl (lv_at hl 0 rfl) ?_
  refine ca_l (CL := [mO a (nI n) (nI k) (nI 0), [(a 1, .inl (cY 0, 72, .inl fto))], [(a 7, .inl (cY 1, 32, .inr (.inl fmnr)))], [(a 8, .inl (cY 1, 25, .inr (.inl fwts)))]]) (va_runV (As := []) (rest := []) ⟨hx, hb, hml, hown, hts⟩ (c_X9_wholeRest l D cY H.size a n k (nI 0) fto fmnr fwts g (by omega) (by omega) (by omega) (by omega) hG hgn) (cwV 0 hts gX9_reverses_X9_wholeRest rfl rfl rfl (by decide +kernel) ⟨Nat.le_of_ble_eq_true rfl, Nat.le_of_ble_eq_true rfl⟩) (b_preV hVK hP hD [0, 1, 2, 3] rfl rfl 0 rfl rfl) rfl rfl hl.1 rfl (lv_room (Nat.le_of_ble_eq_true rfl)) dX9_reverses_6 ⟨Nat.le_refl _, Nat.le_refl _⟩) hP hD hS hA [0, 1, 2, 3] rfl rfl (fun _ => rfl) (fun r6 uu H locs hq hP hD hS => ?_)
  obtain ⟨fmnr1_1, fwts1_2⟩ := uu
  try dsimp only at hq
  subst hq
  have hP : va_P D vwCl ([mO a (nI n) (nI k) (nI 0), [(a 1, .inl (cY 0, 72, .inl fto))], [(a 7, .inl (cY 1, 32, .inr (.inl fmnr1_1)))], [(a 8, .inl (cY 1, 25, .inr (.inl fwts1_2)))]] : List va_W).flatten H := hP
  have hD : va_D A ([mO a (nI n) (nI k) (nI 0), [(a 1, .inl (cY 0, 72, .inl fto))], [(a 7, .inl (cY 1, 32, .inr (.inl fmnr1_1)))], [(a 8, .inl (cY 1, 25, .inr (.inl fwts1_2)))]] : List va_W).flatten := hD
  refine lv_lconst (v := lN 0) hx hb dX9_reverses_9 (by decide) ?_
  refine W.lcmp hx hb dX9_reverses_10 ?_
  refine l_if_eq (tgt := 18) hx hb dX9_reverses_11 (by decide) (fun h11 => ?_) (fun h11 => ?_)
  · -- t
    refine lv_iconst (v := nI 0) hx hb dX9_reverses_18 (by decide) ?_
    refine eqi (x' := bI (!decide (WR g n k = lN 0))) (bF (not_f (dec_t h11))) ?_
    refine lv_istore_n (lv' := [(1, .int (bI (!decide (WR g n k = lN 0)))), (0, .ref (a 0))]) hx hb dX9_reverses_19 rfl hl (by decide) rfl (fun ls hl => ?_)
    refine lv_iconst (v := nI 0) hx hb dX9_reverses_20 (by decide) ?_
    refine lv_istore_n (lv' := [(2, .int (nI 0)), (1, .int (bI (!decide (WR g n k = lN 0)))), (0, .ref (a 0))]) hx hb dX9_reverses_21 rfl hl (by decide) rfl (fun ls hl => ?_)
    have L22 : ∀ u : Nat, u ≤ n → ∀ (fM : Nat → Int64) (fW : Nat → Int64), ∀ (H : Heap) (locs : List Loc), va_P D vwCl ([mO a (nI n) (nI k) (nI 0), [(a 1, .inl (cY 0, 72, .inl fto))], [(a 7, .inl (cY 1, 32, .inr (.inl fM)))], [(a 8, .inl (cY 1, 25, .inr (.inl fW)))]] : List va_W).flatten H → va_D A ([mO a (nI n) (nI k) (nI 0), [(a 1, .inl (cY 0, 72, .inl fto))], [(a 7, .inl (cY 1, 32, .inr (.inl fM)))], [(a 8, .inl (cY 1, 25, .inr (.inl fW)))]] : List va_W).flatten → va_S A s.heap H locs → ∀ (ls : Array Slot), lv_has ls 4 [(0, .ref (a 0)), (1, .int (bI (allB (fun u => allB (fun w => rvG g n k u w) u) u && !decide (WR g n k = lN 0)))), (2, .int (nI u))] → W p l e ({ frames := 5, cells := 0, slots := 0, locals := 200 }) s m ([.ref (a 0)] : List Value).toArray below meth c H locs 0 0 (MQ below (qI (S := (Nat → Int64) × (Nat → Int64)) D cY (fun r u => r = bI (rvB g n k)) (fun u => [mO a (nI n) (nI k) (nI 0), [(a 1, .inl (cY 0, 72, .inl fto))], [(a 7, .inl (cY 1, 32, .inr (.inl u.1)))], [(a 8, .inl (cY 1, 25, .inr (.inl u.2)))]]) A) ([.ref (a 0)] : List Value).toArray s 0 0 A) (F0 m 22 ls []) := by
      refine lpW n ?_
      intro u bdu ih22 fM fW  H locs hP hD hS ls hl
      refine lv_iload_n hx hb dX9_reverses_22 rfl (lv_at hl 2 rfl) ?_
      refine lv_aload_n hx hb dX9_reverses_23 rfl (lv_at hl 0 rfl) ?_
      refine b_get (ci := 9) (v := .int (nI n)) (C := RX9) (T := TX9) (N := 13) hx hb hts (by decide +kernel) hown hK hP 0 rfl rfl 0 (by decide) (hts (.fieldLink RX9 7 "ChanceHallModel" "states" "I") (by decide +kernel)) (fun _ h9 => h9) rfl dX9_reverses_24 ?_
      refine n_icmp_ge (tgt := 89) hx hb dX9_reverses_27 (by decide) (by omega) (by omega) (fun h27 => ?_) (fun h27 => ?_)
      · -- t
        refine lv_iload_n hx hb dX9_reverses_89 rfl (lv_at hl 1 rfl) ?_
        exact r_z hx hb hr hlocks hP hD hS (fM, fW) rfl (by (have e : u = n := by omega); subst e; rfl) dX9_reverses_90
      · -- f
        refine lv_iconst (v := nI 0) hx hb dX9_reverses_30 (by decide) ?_
        refine lv_istore_n (lv' := [(3, .int (nI 0)), (0, .ref (a 0)), (1, .int (bI (allB (fun u => allB (fun w => rvG g n k u w) u) u && !decide (WR g n k = lN 0)))), (2, .int (nI u))]) hx hb dX9_reverses_31 rfl hl (by decide) rfl (fun ls hl => ?_)
        have L32 : ∀ w : Nat, w ≤ u → ∀ (fM2 : Nat → Int64) (fW2 : Nat → Int64), ∀ (H : Heap) (locs : List Loc), va_P D vwCl ([mO a (nI n) (nI k) (nI 0), [(a 1, .inl (cY 0, 72, .inl fto))], [(a 7, .inl (cY 1, 32, .inr (.inl fM2)))], [(a 8, .inl (cY 1, 25, .inr (.inl fW2)))]] : List va_W).flatten H → va_D A ([mO a (nI n) (nI k) (nI 0), [(a 1, .inl (cY 0, 72, .inl fto))], [(a 7, .inl (cY 1, 32, .inr (.inl fM2)))], [(a 8, .inl (cY 1, 25, .inr (.inl fW2)))]] : List va_W).flatten → va_S A s.heap H locs → ∀ (ls : Array Slot), lv_has ls 4 [(0, .ref (a 0)), (1, .int (bI (allB (fun w => rvG g n k u w) w && allB (fun u => allB (fun w => rvG g n k u w) u) u && !decide (WR g n k = lN 0)))), (2, .int (nI u)), (3, .int (nI w))] → W p l e ({ frames := 5, cells := 0, slots := 0, locals := 200 }) s m ([.ref (a 0)] : List Value).toArray below meth c H locs 0 0 (MQ below (qI (S := (Nat → Int64) × (Nat → Int64)) D cY (fun r u => r = bI (rvB g n k)) (fun u => [mO a (nI n) (nI k) (nI 0), [(a 1, .inl (cY 0, 72, .inl fto))], [(a 7, .inl (cY 1, 32, .inr (.inl u.1)))], [(a 8, .inl (cY 1, 25, .inr (.inl u.2)))]]) A) ([.ref (a 0)] : List Value).toArray s 0 0 A) (F0 m 32 ls []) := by
          refine lpW u ?_
          intro w bdw ih32 fM2 fW2  H locs hP hD hS ls hl
          refine lv_iload_n hx hb dX9_reverses_32 rfl (lv_at hl 3 rfl) ?_
          refine lv_iload_n hx hb dX9_reverses_33 rfl (lv_at hl 2 rfl) ?_
          refine n_icmp_ge (tgt := 83) hx hb dX9_reverses_34 (by decide) (by omega) (by omega) (fun h34 => ?_) (fun h34 => ?_)
          · -- t
            have hEx : (allB (fun w => rvG g n k u w) w && allB (fun u => allB (fun w => rvG g n k u w) u) u && !decide (WR g n k = lN 0)) = (allB (fun w => rvG g n k u w) u && allB (fun u => allB (fun w => rvG g n k u w) u) u && !decide (WR g n k = lN 0)) := by (have e : w = u := by omega); rw [e]
            refine lv_iinc (v := nI (u + 1)) (lv' := [(2, .int (nI (u + 1))), (0, .ref (a 0)), (1, .int (bI (allB (fun w => rvG g n k u w) w && allB (fun u => allB (fun w => rvG g n k u w) u) u && !decide (WR g n k = lN 0)))), (3, .int (nI w))]) hx hb dX9_reverses_83 hl (k := 2) rfl (nI_1 u) (by decide) rfl (fun ls hl => ?_)
            refine lv_goto (tgt := 22) hx hb dX9_reverses_86 (by decide) ?_
            exact ih22 (by omega) fM2 fW2  _ _ hP hD hS _ (lv_sub hl [1, 2, 0] (by rw [hEx]; rfl))
          · -- f
            refine lv_iload_n hx hb dX9_reverses_37 rfl (lv_at hl 1 rfl) ?_
            refine b_if_eq (tgt := 83) hx hb dX9_reverses_38 (by decide) (fun h38 => ?_) (fun h38 => ?_)
            · -- t
              have hEx : (allB (fun w => rvG g n k u w) w && allB (fun u => allB (fun w => rvG g n k u w) u) u && !decide (WR g n k = lN 0)) = (allB (fun w => rvG g n k u w) u && allB (fun u => allB (fun w => rvG g n k u w) u) u && !decide (WR g n k = lN 0)) := rv_x (by omega) h38
              refine lv_iinc (v := nI (u + 1)) (lv' := [(2, .int (nI (u + 1))), (0, .ref (a 0)), (1, .int (bI (allB (fun w => rvG g n k u w) w && allB (fun u => allB (fun w => rvG g n k u w) u) u && !decide (WR g n k = lN 0)))), (3, .int (nI w))]) hx hb dX9_reverses_83 hl (k := 2) rfl (nI_1 u) (by decide) rfl (fun ls hl => ?_)
              refine lv_goto (tgt := 22) hx hb dX9_reverses_86 (by decide) ?_
              exact ih22 (by omega) fM2 fW2  _ _ hP hD hS _ (lv_sub hl [1, 2, 0] (by rw [hEx]; rfl))
            · -- f
              refine lv_aload_n hx hb dX9_reverses_41 rfl (lv_at hl 0 rfl) ?_
              refine lv_iload_n hx hb dX9_reverses_42 rfl (lv_at hl 2 rfl) ?_
              refine ca_l (CL := [mO a (nI n) (nI k) (nI 0), [(a 1, .inl (cY 0, 72, .inl fto))], [(a 7, .inl (cY 1, 32, .inr (.inl fM2)))], [(a 8, .inl (cY 1, 25, .inr (.inl fW2)))]]) (va_runV (As := [.int (nI u)]) (rest := []) ⟨hx, hb, hml, hown, hts⟩ (c_X9_restOf l D cY H.size a n k (nI 0) fto fM2 fW2 g u (by omega) (by omega) (by omega) (by omega) hG hgn (by omega)) (cwV 1 hts gX9_reverses_X9_restOf rfl rfl rfl (by decide +kernel) ⟨Nat.le_of_ble_eq_true rfl, Nat.le_of_ble_eq_true rfl⟩) (b_preV hVK hP hD [0, 1, 2, 3] rfl rfl 0 rfl rfl) rfl rfl hl.1 rfl (lv_room (Nat.le_of_ble_eq_true rfl)) dX9_reverses_43 ⟨Nat.le_refl _, Nat.le_refl _⟩) hP hD hS hA [0, 1, 2, 3] rfl rfl (fun _ => rfl) (fun r43 uu H locs hq hP hD hS => ?_)
              obtain ⟨fmnr1_3, fwts1_4⟩ := uu
              try dsimp only at hq
              subst hq
              have hP : va_P D vwCl ([mO a (nI n) (nI k) (nI 0), [(a 1, .inl (cY 0, 72, .inl fto))], [(a 7, .inl (cY 1, 32, .inr (.inl fmnr1_3)))], [(a 8, .inl (cY 1, 25, .inr (.inl fwts1_4)))]] : List va_W).flatten H := hP
              have hD : va_D A ([mO a (nI n) (nI k) (nI 0), [(a 1, .inl (cY 0, 72, .inl fto))], [(a 7, .inl (cY 1, 32, .inr (.inl fmnr1_3)))], [(a 8, .inl (cY 1, 25, .inr (.inl fwts1_4)))]] : List va_W).flatten := hD
              refine lv_aload_n hx hb dX9_reverses_46 rfl (lv_at hl 0 rfl) ?_
              refine lv_iload_n hx hb dX9_reverses_47 rfl (lv_at hl 2 rfl) ?_
              refine lv_iload_n hx hb dX9_reverses_48 rfl (lv_at hl 3 rfl) ?_
              refine ca_i (CL := [mO a (nI n) (nI k) (nI 0), [(a 1, .inl (cY 0, 72, .inl fto))]]) (va_runV (As := [.int (nI u), .int (nI w)]) (rest := [.long (RV g n k u)]) ⟨hx, hb, hml, hown, hts⟩ (c_X9_weigh l D cY H.size a n k (nI 0) fto g u w (by omega) (by omega) (by omega) (by omega) hG hgn (by omega) (by omega)) (cwV 2 hts gX9_reverses_X9_weigh rfl rfl rfl (by decide +kernel) ⟨Nat.le_of_ble_eq_true rfl, Nat.le_of_ble_eq_true rfl⟩) (b_preV hVK hP hD [0, 1] rfl rfl 0 rfl rfl) rfl rfl hl.1 rfl (lv_room (Nat.le_of_ble_eq_true rfl)) dX9_reverses_49 ⟨Nat.le_refl _, Nat.le_refl _⟩) hP hD hS hA [0, 1] rfl rfl (fun _ => rfl) (fun r49 uu H locs hq hP hD hS => ?_)
              subst hq
              have hP : va_P D vwCl ([mO a (nI n) (nI k) (nI 0), [(a 1, .inl (cY 0, 72, .inl fto))], [(a 7, .inl (cY 1, 32, .inr (.inl fmnr1_3)))], [(a 8, .inl (cY 1, 25, .inr (.inl fwts1_4)))]] : List va_W).flatten H := hP
              have hD : va_D A ([mO a (nI n) (nI k) (nI 0), [(a 1, .inl (cY 0, 72, .inl fto))], [(a 7, .inl (cY 1, 32, .inr (.inl fmnr1_3)))], [(a 8, .inl (cY 1, 25, .inr (.inl fwts1_4)))]] : List va_W).flatten := hD
              have hc1 := cnt_le (g u) w k
              refine lv_i2l (v := lN (cnt (g u) w k)) hx hb dX9_reverses_52 (nI_l (by omega)) ?_
              refine lv_lmul hx hb dX9_reverses_53 ?_
              refine lv_aload_n hx hb dX9_reverses_54 rfl (lv_at hl 0 rfl) ?_
              refine lv_iload_n hx hb dX9_reverses_55 rfl (lv_at hl 3 rfl) ?_
              refine ca_l (CL := [mO a (nI n) (nI k) (nI 0), [(a 1, .inl (cY 0, 72, .inl fto))], [(a 7, .inl (cY 1, 32, .inr (.inl fmnr1_3)))], [(a 8, .inl (cY 1, 25, .inr (.inl fwts1_4)))]]) (va_runV (As := [.int (nI w)]) (rest := [.long ((RV g n k u) * (lN (cnt (g u) w k)))]) ⟨hx, hb, hml, hown, hts⟩ (c_X9_restOf l D cY H.size a n k (nI 0) fto fmnr1_3 fwts1_4 g w (by omega) (by omega) (by omega) (by omega) hG hgn (by omega)) (cwV 1 hts gX9_reverses_X9_restOf rfl rfl rfl (by decide +kernel) ⟨Nat.le_of_ble_eq_true rfl, Nat.le_of_ble_eq_true rfl⟩) (b_preV hVK hP hD [0, 1, 2, 3] rfl rfl 0 rfl rfl) rfl rfl hl.1 rfl (lv_room (Nat.le_of_ble_eq_true rfl)) dX9_reverses_56 ⟨Nat.le_refl _, Nat.le_refl _⟩) hP hD hS hA [0, 1, 2, 3] rfl rfl (fun _ => rfl) (fun r56 uu H locs hq hP hD hS => ?_)
              obtain ⟨fmnr1_5, fwts1_6⟩ := uu
              try dsimp only at hq
              subst hq
              have hP : va_P D vwCl ([mO a (nI n) (nI k) (nI 0), [(a 1, .inl (cY 0, 72, .inl fto))], [(a 7, .inl (cY 1, 32, .inr (.inl fmnr1_5)))], [(a 8, .inl (cY 1, 25, .inr (.inl fwts1_6)))]] : List va_W).flatten H := hP
              have hD : va_D A ([mO a (nI n) (nI k) (nI 0), [(a 1, .inl (cY 0, 72, .inl fto))], [(a 7, .inl (cY 1, 32, .inr (.inl fmnr1_5)))], [(a 8, .inl (cY 1, 25, .inr (.inl fwts1_6)))]] : List va_W).flatten := hD
              refine lv_aload_n hx hb dX9_reverses_59 rfl (lv_at hl 0 rfl) ?_
              refine lv_iload_n hx hb dX9_reverses_60 rfl (lv_at hl 3 rfl) ?_
              refine lv_iload_n hx hb dX9_reverses_61 rfl (lv_at hl 2 rfl) ?_
              refine ca_i (CL := [mO a (nI n) (nI k) (nI 0), [(a 1, .inl (cY 0, 72, .inl fto))]]) (va_runV (As := [.int (nI w), .int (nI u)]) (rest := [.long (RV g n k w), .long ((RV g n k u) * (lN (cnt (g u) w k)))]) ⟨hx, hb, hml, hown, hts⟩ (c_X9_weigh l D cY H.size a n k (nI 0) fto g w u (by omega) (by omega) (by omega) (by omega) hG hgn (by omega) (by omega)) (cwV 2 hts gX9_reverses_X9_weigh rfl rfl rfl (by decide +kernel) ⟨Nat.le_of_ble_eq_true rfl, Nat.le_of_ble_eq_true rfl⟩) (b_preV hVK hP hD [0, 1] rfl rfl 0 rfl rfl) rfl rfl hl.1 rfl (lv_room (Nat.le_of_ble_eq_true rfl)) dX9_reverses_62 ⟨Nat.le_refl _, Nat.le_refl _⟩) hP hD hS hA [0, 1] rfl rfl (fun _ => rfl) (fun r62 uu H locs hq hP hD hS => ?_)
              subst hq
              have hP : va_P D vwCl ([mO a (nI n) (nI k) (nI 0), [(a 1, .inl (cY 0, 72, .inl fto))], [(a 7, .inl (cY 1, 32, .inr (.inl fmnr1_5)))], [(a 8, .inl (cY 1, 25, .inr (.inl fwts1_6)))]] : List va_W).flatten H := hP
              have hD : va_D A ([mO a (nI n) (nI k) (nI 0), [(a 1, .inl (cY 0, 72, .inl fto))], [(a 7, .inl (cY 1, 32, .inr (.inl fmnr1_5)))], [(a 8, .inl (cY 1, 25, .inr (.inl fwts1_6)))]] : List va_W).flatten := hD
              have hc2 := cnt_le (g w) u k
              refine lv_i2l (v := lN (cnt (g w) u k)) hx hb dX9_reverses_65 (nI_l (by omega)) ?_
              refine lv_lmul hx hb dX9_reverses_66 ?_
              refine W.lcmp hx hb dX9_reverses_67 ?_
              refine l_if_ne (tgt := 75) hx hb dX9_reverses_68 (by decide) (fun h68 => ?_) (fun h68 => ?_)
              · -- t
                refine lv_iconst (v := nI 0) hx hb dX9_reverses_75 (by decide) ?_
                refine eqi (x' := bI (allB (fun w => rvG g n k u w) (w + 1) && allB (fun u => allB (fun w => rvG g n k u w) u) u && !decide (WR g n k = lN 0))) (lall_f (Or.inr (dec_f h68))) ?_
                refine lv_istore_n (lv' := [(1, .int (bI (allB (fun w => rvG g n k u w) (w + 1) && allB (fun u => allB (fun w => rvG g n k u w) u) u && !decide (WR g n k = lN 0)))), (0, .ref (a 0)), (2, .int (nI u)), (3, .int (nI w))]) hx hb dX9_reverses_76 rfl hl (by decide) rfl (fun ls hl => ?_)
                refine lv_iinc (v := nI (w + 1)) (lv' := [(3, .int (nI (w + 1))), (1, .int (bI (allB (fun w => rvG g n k u w) (w + 1) && allB (fun u => allB (fun w => rvG g n k u w) u) u && !decide (WR g n k = lN 0)))), (0, .ref (a 0)), (2, .int (nI u))]) hx hb dX9_reverses_77 hl (k := 3) rfl (nI_1 w) (by decide) rfl (fun ls hl => ?_)
                refine lv_goto (tgt := 32) hx hb dX9_reverses_80 (by decide) ?_
                exact ih32 (by omega) fmnr1_5 fwts1_6  _ _ hP hD hS _ (lv_sub hl [2, 1, 3, 0] rfl)
              · -- f
                refine lv_iconst (v := nI 1) hx hb dX9_reverses_71 (by decide) ?_
                refine lv_goto (tgt := 76) hx hb dX9_reverses_72 (by decide) ?_
                refine eqi (x' := bI (allB (fun w => rvG g n k u w) (w + 1) && allB (fun u => allB (fun w => rvG g n k u w) u) u && !decide (WR g n k = lN 0))) (lall_t h38 (dec_t h68)) ?_
                refine lv_istore_n (lv' := [(1, .int (bI (allB (fun w => rvG g n k u w) (w + 1) && allB (fun u => allB (fun w => rvG g n k u w) u) u && !decide (WR g n k = lN 0)))), (0, .ref (a 0)), (2, .int (nI u)), (3, .int (nI w))]) hx hb dX9_reverses_76 rfl hl (by decide) rfl (fun ls hl => ?_)
                refine lv_iinc (v := nI (w + 1)) (lv' := [(3, .int (nI (w + 1))), (1, .int (bI (allB (fun w => rvG g n k u w) (w + 1) && allB (fun u => allB (fun w => rvG g n k u w) u) u && !decide (WR g n k = lN 0)))), (0, .ref (a 0)), (2, .int (nI u))]) hx hb dX9_reverses_77 hl (k := 3) rfl (nI_1 w) (by decide) rfl (fun ls hl => ?_)
                refine lv_goto (tgt := 32) hx hb dX9_reverses_80 (by decide) ?_
                exact ih32 (by omega) fmnr1_5 fwts1_6  _ _ hP hD hS _ (lv_sub hl [2, 1, 3, 0] rfl)
        exact L32 0 (by omega) fM fW  _ _ hP hD hS _ (lv_sub hl [1, 2, 3, 0] rfl)
    exact L22 0 (by omega) fmnr1_1 fwts1_2  _ _ hP hD hS _ (lv_sub hl [2, 1, 0] rfl)
  · -- f
    refine lv_iconst (v := nI 1) hx hb dX9_reverses_14 (by decide) ?_
    refine eqi (x' := bI (!decide (WR g n k = lN 0))) (bT (not_t (dec_f h11))) ?_
    refine lv_goto (tgt := 19) hx hb dX9_reverses_15 (by decide) ?_
    refine lv_istore_n (lv' := [(1, .int (bI (!decide (WR g n k = lN 0)))), (0, .ref (a 0))]) hx hb dX9_reverses_19 rfl hl (by decide) rfl (fun ls hl => ?_)
    refine lv_iconst (v := nI 0) hx hb dX9_reverses_20 (by decide) ?_
    refine lv_istore_n (lv' := [(2, .int (nI 0)), (1, .int (bI (!decide (WR g n k = lN 0)))), (0, .ref (a 0))]) hx hb dX9_reverses_21 rfl hl (by decide) rfl (fun ls hl => ?_)
    have L22 : ∀ u : Nat, u ≤ n → ∀ (fM : Nat → Int64) (fW : Nat → Int64), ∀ (H : Heap) (locs : List Loc), va_P D vwCl ([mO a (nI n) (nI k) (nI 0), [(a 1, .inl (cY 0, 72, .inl fto))], [(a 7, .inl (cY 1, 32, .inr (.inl fM)))], [(a 8, .inl (cY 1, 25, .inr (.inl fW)))]] : List va_W).flatten H → va_D A ([mO a (nI n) (nI k) (nI 0), [(a 1, .inl (cY 0, 72, .inl fto))], [(a 7, .inl (cY 1, 32, .inr (.inl fM)))], [(a 8, .inl (cY 1, 25, .inr (.inl fW)))]] : List va_W).flatten → va_S A s.heap H locs → ∀ (ls : Array Slot), lv_has ls 4 [(0, .ref (a 0)), (1, .int (bI (allB (fun u => allB (fun w => rvG g n k u w) u) u && !decide (WR g n k = lN 0)))), (2, .int (nI u))] → W p l e ({ frames := 5, cells := 0, slots := 0, locals := 200 }) s m ([.ref (a 0)] : List Value).toArray below meth c H locs 0 0 (MQ below (qI (S := (Nat → Int64) × (Nat → Int64)) D cY (fun r u => r = bI (rvB g n k)) (fun u => [mO a (nI n) (nI k) (nI 0), [(a 1, .inl (cY 0, 72, .inl fto))], [(a 7, .inl (cY 1, 32, .inr (.inl u.1)))], [(a 8, .inl (cY 1, 25, .inr (.inl u.2)))]]) A) ([.ref (a 0)] : List Value).toArray s 0 0 A) (F0 m 22 ls []) := by
      refine lpW n ?_
      intro u bdu ih22 fM fW  H locs hP hD hS ls hl
      refine lv_iload_n hx hb dX9_reverses_22 rfl (lv_at hl 2 rfl) ?_
      refine lv_aload_n hx hb dX9_reverses_23 rfl (lv_at hl 0 rfl) ?_
      refine b_get (ci := 9) (v := .int (nI n)) (C := RX9) (T := TX9) (N := 13) hx hb hts (by decide +kernel) hown hK hP 0 rfl rfl 0 (by decide) (hts (.fieldLink RX9 7 "ChanceHallModel" "states" "I") (by decide +kernel)) (fun _ h9 => h9) rfl dX9_reverses_24 ?_
      refine n_icmp_ge (tgt := 89) hx hb dX9_reverses_27 (by decide) (by omega) (by omega) (fun h27 => ?_) (fun h27 => ?_)
      · -- t
        refine lv_iload_n hx hb dX9_reverses_89 rfl (lv_at hl 1 rfl) ?_
        exact r_z hx hb hr hlocks hP hD hS (fM, fW) rfl (by (have e : u = n := by omega); subst e; rfl) dX9_reverses_90
      · -- f
        refine lv_iconst (v := nI 0) hx hb dX9_reverses_30 (by decide) ?_
        refine lv_istore_n (lv' := [(3, .int (nI 0)), (0, .ref (a 0)), (1, .int (bI (allB (fun u => allB (fun w => rvG g n k u w) u) u && !decide (WR g n k = lN 0)))), (2, .int (nI u))]) hx hb dX9_reverses_31 rfl hl (by decide) rfl (fun ls hl => ?_)
        have L32 : ∀ w : Nat, w ≤ u → ∀ (fM2 : Nat → Int64) (fW2 : Nat → Int64), ∀ (H : Heap) (locs : List Loc), va_P D vwCl ([mO a (nI n) (nI k) (nI 0), [(a 1, .inl (cY 0, 72, .inl fto))], [(a 7, .inl (cY 1, 32, .inr (.inl fM2)))], [(a 8, .inl (cY 1, 25, .inr (.inl fW2)))]] : List va_W).flatten H → va_D A ([mO a (nI n) (nI k) (nI 0), [(a 1, .inl (cY 0, 72, .inl fto))], [(a 7, .inl (cY 1, 32, .inr (.inl fM2)))], [(a 8, .inl (cY 1, 25, .inr (.inl fW2)))]] : List va_W).flatten → va_S A s.heap H locs → ∀ (ls : Array Slot), lv_has ls 4 [(0, .ref (a 0)), (1, .int (bI (allB (fun w => rvG g n k u w) w && allB (fun u => allB (fun w => rvG g n k u w) u) u && !decide (WR g n k = lN 0)))), (2, .int (nI u)), (3, .int (nI w))] → W p l e ({ frames := 5, cells := 0, slots := 0, locals := 200 }) s m ([.ref (a 0)] : List Value).toArray below meth c H locs 0 0 (MQ below (qI (S := (Nat → Int64) × (Nat → Int64)) D cY (fun r u => r = bI (rvB g n k)) (fun u => [mO a (nI n) (nI k) (nI 0), [(a 1, .inl (cY 0, 72, .inl fto))], [(a 7, .inl (cY 1, 32, .inr (.inl u.1)))], [(a 8, .inl (cY 1, 25, .inr (.inl u.2)))]]) A) ([.ref (a 0)] : List Value).toArray s 0 0 A) (F0 m 32 ls []) := by
          refine lpW u ?_
          intro w bdw ih32 fM2 fW2  H locs hP hD hS ls hl
          refine lv_iload_n hx hb dX9_reverses_32 rfl (lv_at hl 3 rfl) ?_
          refine lv_iload_n hx hb dX9_reverses_33 rfl (lv_at hl 2 rfl) ?_
          refine n_icmp_ge (tgt := 83) hx hb dX9_reverses_34 (by decide) (by omega) (by omega) (fun h34 => ?_) (fun h34 => ?_)
          · -- t
            have hEx : (allB (fun w => rvG g n k u w) w && allB (fun u => allB (fun w => rvG g n k u w) u) u && !decide (WR g n k = lN 0)) = (allB (fun w => rvG g n k u w) u && allB (fun u => allB (fun w => rvG g n k u w) u) u && !decide (WR g n k = lN 0)) := by (have e : w = u := by omega); rw [e]
            refine lv_iinc (v := nI (u + 1)) (lv' := [(2, .int (nI (u + 1))), (0, .ref (a 0)), (1, .int (bI (allB (fun w => rvG g n k u w) w && allB (fun u => allB (fun w => rvG g n k u w) u) u && !decide (WR g n k = lN 0)))), (3, .int (nI w))]) hx hb dX9_reverses_83 hl (k := 2) rfl (nI_1 u) (by decide) rfl (fun ls hl => ?_)
            refine lv_goto (tgt := 22) hx hb dX9_reverses_86 (by decide) ?_
            exact ih22 (by omega) fM2 fW2  _ _ hP hD hS _ (lv_sub hl [1, 2, 0] (by rw [hEx]; rfl))
          · -- f
            refine lv_iload_n hx hb dX9_reverses_37 rfl (lv_at hl 1 rfl) ?_
            refine b_if_eq (tgt := 83) hx hb dX9_reverses_38 (by decide) (fun h38 => ?_) (fun h38 => ?_)
            · -- t
              have hEx : (allB (fun w => rvG g n k u w) w && allB (fun u => allB (fun w => rvG g n k u w) u) u && !decide (WR g n k = lN 0)) = (allB (fun w => rvG g n k u w) u && allB (fun u => allB (fun w => rvG g n k u w) u) u && !decide (WR g n k = lN 0)) := rv_x (by omega) h38
              refine lv_iinc (v := nI (u + 1)) (lv' := [(2, .int (nI (u + 1))), (0, .ref (a 0)), (1, .int (bI (allB (fun w => rvG g n k u w) w && allB (fun u => allB (fun w => rvG g n k u w) u) u && !decide (WR g n k = lN 0)))), (3, .int (nI w))]) hx hb dX9_reverses_83 hl (k := 2) rfl (nI_1 u) (by decide) rfl (fun ls hl => ?_)
              refine lv_goto (tgt := 22) hx hb dX9_reverses_86 (by decide) ?_
              exact ih22 (by omega) fM2 fW2  _ _ hP hD hS _ (lv_sub hl [1, 2, 0] (by rw [hEx]; rfl))
            · -- f
              refine lv_aload_n hx hb dX9_reverses_41 rfl (lv_at hl 0 rfl) ?_
              refine lv_iload_n hx hb dX9_reverses_42 rfl (lv_at hl 2 rfl) ?_
              refine ca_l (CL := [mO a (nI n) (nI k) (nI 0), [(a 1, .inl (cY 0, 72, .inl fto))], [(a 7, .inl (cY 1, 32, .inr (.inl fM2)))], [(a 8, .inl (cY 1, 25, .inr (.inl fW2)))]]) (va_runV (As := [.int (nI u)]) (rest := []) ⟨hx, hb, hml, hown, hts⟩ (c_X9_restOf l D cY H.size a n k (nI 0) fto fM2 fW2 g u (by omega) (by omega) (by omega) (by omega) hG hgn (by omega)) (cwV 1 hts gX9_reverses_X9_restOf rfl rfl rfl (by decide +kernel) ⟨Nat.le_of_ble_eq_true rfl, Nat.le_of_ble_eq_true rfl⟩) (b_preV hVK hP hD [0, 1, 2, 3] rfl rfl 0 rfl rfl) rfl rfl hl.1 rfl (lv_room (Nat.le_of_ble_eq_true rfl)) dX9_reverses_43 ⟨Nat.le_refl _, Nat.le_refl _⟩) hP hD hS hA [0, 1, 2, 3] rfl rfl (fun _ => rfl) (fun r43 uu H locs hq hP hD hS => ?_)
              obtain ⟨fmnr1_7, fwts1_8⟩ := uu
              try dsimp only at hq
              subst hq
              have hP : va_P D vwCl ([mO a (nI n) (nI k) (nI 0), [(a 1, .inl (cY 0, 72, .inl fto))], [(a 7, .inl (cY 1, 32, .inr (.inl fmnr1_7)))], [(a 8, .inl (cY 1, 25, .inr (.inl fwts1_8)))]] : List va_W).flatten H := hP
              have hD : va_D A ([mO a (nI n) (nI k) (nI 0), [(a 1, .inl (cY 0, 72, .inl fto))], [(a 7, .inl (cY 1, 32, .inr (.inl fmnr1_7)))], [(a 8, .inl (cY 1, 25, .inr (.inl fwts1_8)))]] : List va_W).flatten := hD
              refine lv_aload_n hx hb dX9_reverses_46 rfl (lv_at hl 0 rfl) ?_
              refine lv_iload_n hx hb dX9_reverses_47 rfl (lv_at hl 2 rfl) ?_
              refine lv_iload_n hx hb dX9_reverses_48 rfl (lv_at hl 3 rfl) ?_
              refine ca_i (CL := [mO a (nI n) (nI k) (nI 0), [(a 1, .inl (cY 0, 72, .inl fto))]]) (va_runV (As := [.int (nI u), .int (nI w)]) (rest := [.long (RV g n k u)]) ⟨hx, hb, hml, hown, hts⟩ (c_X9_weigh l D cY H.size a n k (nI 0) fto g u w (by omega) (by omega) (by omega) (by omega) hG hgn (by omega) (by omega)) (cwV 2 hts gX9_reverses_X9_weigh rfl rfl rfl (by decide +kernel) ⟨Nat.le_of_ble_eq_true rfl, Nat.le_of_ble_eq_true rfl⟩) (b_preV hVK hP hD [0, 1] rfl rfl 0 rfl rfl) rfl rfl hl.1 rfl (lv_room (Nat.le_of_ble_eq_true rfl)) dX9_reverses_49 ⟨Nat.le_refl _, Nat.le_refl _⟩) hP hD hS hA [0, 1] rfl rfl (fun _ => rfl) (fun r49 uu H locs hq hP hD hS => ?_)
              subst hq
              have hP : va_P D vwCl ([mO a (nI n) (nI k) (nI 0), [(a 1, .inl (cY 0, 72, .inl fto))], [(a 7, .inl (cY 1, 32, .inr (.inl fmnr1_7)))], [(a 8, .inl (cY 1, 25, .inr (.inl fwts1_8)))]] : List va_W).flatten H := hP
              have hD : va_D A ([mO a (nI n) (nI k) (nI 0), [(a 1, .inl (cY 0, 72, .inl fto))], [(a 7, .inl (cY 1, 32, .inr (.inl fmnr1_7)))], [(a 8, .inl (cY 1, 25, .inr (.inl fwts1_8)))]] : List va_W).flatten := hD
              have hc1 := cnt_le (g u) w k
              refine lv_i2l (v := lN (cnt (g u) w k)) hx hb dX9_reverses_52 (nI_l (by omega)) ?_
              refine lv_lmul hx hb dX9_reverses_53 ?_
              refine lv_aload_n hx hb dX9_reverses_54 rfl (lv_at hl 0 rfl) ?_
              refine lv_iload_n hx hb dX9_reverses_55 rfl (lv_at hl 3 rfl) ?_
              refine ca_l (CL := [mO a (nI n) (nI k) (nI 0), [(a 1, .inl (cY 0, 72, .inl fto))], [(a 7, .inl (cY 1, 32, .inr (.inl fmnr1_7)))], [(a 8, .inl (cY 1, 25, .inr (.inl fwts1_8)))]]) (va_runV (As := [.int (nI w)]) (rest := [.long ((RV g n k u) * (lN (cnt (g u) w k)))]) ⟨hx, hb, hml, hown, hts⟩ (c_X9_restOf l D cY H.size a n k (nI 0) fto fmnr1_7 fwts1_8 g w (by omega) (by omega) (by omega) (by omega) hG hgn (by omega)) (cwV 1 hts gX9_reverses_X9_restOf rfl rfl rfl (by decide +kernel) ⟨Nat.le_of_ble_eq_true rfl, Nat.le_of_ble_eq_true rfl⟩) (b_preV hVK hP hD [0, 1, 2, 3] rfl rfl 0 rfl rfl) rfl rfl hl.1 rfl (lv_room (Nat.le_of_ble_eq_true rfl)) dX9_reverses_56 ⟨Nat.le_refl _, Nat.le_refl _⟩) hP hD hS hA [0, 1, 2, 3] rfl rfl (fun _ => rfl) (fun r56 uu H locs hq hP hD hS => ?_)
              obtain ⟨fmnr1_9, fwts1_10⟩ := uu
              try dsimp only at hq
              subst hq
              have hP : va_P D vwCl ([mO a (nI n) (nI k) (nI 0), [(a 1, .inl (cY 0, 72, .inl fto))], [(a 7, .inl (cY 1, 32, .inr (.inl fmnr1_9)))], [(a 8, .inl (cY 1, 25, .inr (.inl fwts1_10)))]] : List va_W).flatten H := hP
              have hD : va_D A ([mO a (nI n) (nI k) (nI 0), [(a 1, .inl (cY 0, 72, .inl fto))], [(a 7, .inl (cY 1, 32, .inr (.inl fmnr1_9)))], [(a 8, .inl (cY 1, 25, .inr (.inl fwts1_10)))]] : List va_W).flatten := hD
              refine lv_aload_n hx hb dX9_reverses_59 rfl (lv_at hl 0 rfl) ?_
              refine lv_iload_n hx hb dX9_reverses_60 rfl (lv_at hl 3 rfl) ?_
              refine lv_iload_n hx hb dX9_reverses_61 rfl (lv_at hl 2 rfl) ?_
              refine ca_i (CL := [mO a (nI n) (nI k) (nI 0), [(a 1, .inl (cY 0, 72, .inl fto))]]) (va_runV (As := [.int (nI w), .int (nI u)]) (rest := [.long (RV g n k w), .long ((RV g n k u) * (lN (cnt (g u) w k)))]) ⟨hx, hb, hml, hown, hts⟩ (c_X9_weigh l D cY H.size a n k (nI 0) fto g w u (by omega) (by omega) (by omega) (by omega) hG hgn (by omega) (by omega)) (cwV 2 hts gX9_reverses_X9_weigh rfl rfl rfl (by decide +kernel) ⟨Nat.le_of_ble_eq_true rfl, Nat.le_of_ble_eq_true rfl⟩) (b_preV hVK hP hD [0, 1] rfl rfl 0 rfl rfl) rfl rfl hl.1 rfl (lv_room (Nat.le_of_ble_eq_true rfl)) dX9_reverses_62 ⟨Nat.le_refl _, Nat.le_refl _⟩) hP hD hS hA [0, 1] rfl rfl (fun _ => rfl) (fun r62 uu H locs hq hP hD hS => ?_)
              subst hq
              have hP : va_P D vwCl ([mO a (nI n) (nI k) (nI 0), [(a 1, .inl (cY 0, 72, .inl fto))], [(a 7, .inl (cY 1, 32, .inr (.inl fmnr1_9)))], [(a 8, .inl (cY 1, 25, .inr (.inl fwts1_10)))]] : List va_W).flatten H := hP
              have hD : va_D A ([mO a (nI n) (nI k) (nI 0), [(a 1, .inl (cY 0, 72, .inl fto))], [(a 7, .inl (cY 1, 32, .inr (.inl fmnr1_9)))], [(a 8, .inl (cY 1, 25, .inr (.inl fwts1_10)))]] : List va_W).flatten := hD
              have hc2 := cnt_le (g w) u k
              refine lv_i2l (v := lN (cnt (g w) u k)) hx hb dX9_reverses_65 (nI_l (by omega)) ?_
              refine lv_lmul hx hb dX9_reverses_66 ?_
              refine W.lcmp hx hb dX9_reverses_67 ?_
              refine l_if_ne (tgt := 75) hx hb dX9_reverses_68 (by decide) (fun h68 => ?_) (fun h68 => ?_)
              · -- t
                refine lv_iconst (v := nI 0) hx hb dX9_reverses_75 (by decide) ?_
                refine eqi (x' := bI (allB (fun w => rvG g n k u w) (w + 1) && allB (fun u => allB (fun w => rvG g n k u w) u) u && !decide (WR g n k = lN 0))) (lall_f (Or.inr (dec_f h68))) ?_
                refine lv_istore_n (lv' := [(1, .int (bI (allB (fun w => rvG g n k u w) (w + 1) && allB (fun u => allB (fun w => rvG g n k u w) u) u && !decide (WR g n k = lN 0)))), (0, .ref (a 0)), (2, .int (nI u)), (3, .int (nI w))]) hx hb dX9_reverses_76 rfl hl (by decide) rfl (fun ls hl => ?_)
                refine lv_iinc (v := nI (w + 1)) (lv' := [(3, .int (nI (w + 1))), (1, .int (bI (allB (fun w => rvG g n k u w) (w + 1) && allB (fun u => allB (fun w => rvG g n k u w) u) u && !decide (WR g n k = lN 0)))), (0, .ref (a 0)), (2, .int (nI u))]) hx hb dX9_reverses_77 hl (k := 3) rfl (nI_1 w) (by decide) rfl (fun ls hl => ?_)
                refine lv_goto (tgt := 32) hx hb dX9_reverses_80 (by decide) ?_
                exact ih32 (by omega) fmnr1_9 fwts1_10  _ _ hP hD hS _ (lv_sub hl [2, 1, 3, 0] rfl)
              · -- f
                refine lv_iconst (v := nI 1) hx hb dX9_reverses_71 (by decide) ?_
                refine lv_goto (tgt := 76) hx hb dX9_reverses_72 (by decide) ?_
                refine eqi (x' := bI (allB (fun w => rvG g n k u w) (w + 1) && allB (fun u => allB (fun w => rvG g n k u w) u) u && !decide (WR g n k = lN 0))) (lall_t h38 (dec_t h68)) ?_
                refine lv_istore_n (lv' := [(1, .int (bI (allB (fun w => rvG g n k u w) (w + 1) && allB (fun u => allB (fun w => rvG g n k u w) u) u && !decide (WR g n k = lN 0)))), (0, .ref (a 0)), (2, .int (nI u)), (3, .int (nI w))]) hx hb dX9_reverses_76 rfl hl (by decide) rfl (fun ls hl => ?_)
                refine lv_iinc (v := nI (w + 1)) (lv' := [(3, .int (nI (w + 1))), (1, .int (bI (allB (fun w => rvG g n k u w) (w + 1) && allB (fun u => allB (fun w => rvG g n k u w) u) u && !decide (WR g n k = lN 0)))), (0, .ref (a 0)), (2, .int (nI u))]) hx hb dX9_reverses_77 hl (k := 3) rfl (nI_1 w) (by decide) rfl (fun ls hl => ?_)
                refine lv_goto (tgt := 32) hx hb dX9_reverses_80 (by decide) ?_
                exact ih32 (by omega) fmnr1_9 fwts1_10  _ _ hP hD hS _ (lv_sub hl [2, 1, 3, 0] rfl)
        exact L32 0 (by omega) fM fW  _ _ hP hD hS _ (lv_sub hl [1, 2, 3, 0] rfl)
    exact L22 0 (by omega) fmnr1_1 fwts1_2  _ _ hP hD hS _ (lv_sub hl [2, 1, 0] rfl)

set_option maxHeartbeats 4000000 in
set_option maxRecDepth 100000 in
theorem c_X9_mixing (l : Launch) (D : va_G) (cY : Nat → ClassId) (sz : Nat) (a : Nat → Nat) (n : Nat) (k : Nat) (th : Int32) (fto : Nat → Int32) (fnow : Nat → Int64) (fthn : Nat → Int64) (foth : Nat → Int64) (g : Nat → Nat → Nat) (th2 : Nat) (hn1 : 1 ≤ n) (hn6 : n ≤ 6) (hk1 : 1 ≤ k) (hk12 : k ≤ 12) (hG : ∀ i j, i < n → j < k → fto (12 * i + j) = nI (g i j)) (hgn : ∀ i j, i < n → j < k → g i j < n) (hth : th2 ≤ 1000) : Met l yX9_mixing wsX9_mixing ({ frames := 4, cells := 0, slots := 0, locals := 160 }) (cP D cY [.ref (a 0), .int (nI th2)] [mO a (nI n) (nI k) th, [(a 1, .inl (cY 0, 72, .inl fto))], [(a 4, .inl (cY 1, 64, .inr (.inl fnow)))], [(a 5, .inl (cY 1, 64, .inr (.inl fthn)))], [(a 6, .inl (cY 1, 6, .inr (.inl foth)))]] sz) (qI (S := (Nat → Int64) × (Nat → Int64) × (Nat → Int64)) D cY (fun r u => r = fnd (mixB g n k th2) 13) (fun u => [mO a (nI n) (nI k) (nI 0), [(a 1, .inl (cY 0, 72, .inl fto))], [(a 4, .inl (cY 1, 64, .inr (.inl u.1)))], [(a 5, .inl (cY 1, 64, .inr (.inl u.2.1)))], [(a 6, .inl (cY 1, 6, .inr (.inl u.2.2)))]]) (va_A ([mO a (nI n) (nI k) th, [(a 1, .inl (cY 0, 72, .inl fto))], [(a 4, .inl (cY 1, 64, .inr (.inl fnow)))], [(a 5, .inl (cY 1, 64, .inr (.inl fthn)))], [(a 6, .inl (cY 1, 6, .inr (.inl foth)))]] : List va_W).flatten sz)) 0 0 (va_A ([mO a (nI n) (nI k) th, [(a 1, .inl (cY 0, 72, .inl fto))], [(a 4, .inl (cY 1, 64, .inr (.inl fnow)))], [(a 5, .inl (cY 1, 64, .inr (.inl fthn)))], [(a 6, .inl (cY 1, 6, .inr (.inl foth)))]] : List va_W).flatten sz) := by
  refine mtB (Qc := fun A => qI (S := (Nat → Int64) × (Nat → Int64) × (Nat → Int64)) D cY (fun r u => r = fnd (mixB g n k th2) 13) (fun u => [mO a (nI n) (nI k) (nI 0), [(a 1, .inl (cY 0, 72, .inl fto))], [(a 4, .inl (cY 1, 64, .inr (.inl u.1)))], [(a 5, .inl (cY 1, 64, .inr (.inl u.2.1)))], [(a 6, .inl (cY 1, 6, .inr (.inl u.2.2)))]]) A) (cc := cX9_mixing) (maxL := 4) (ret := (some .int)) (by decide) rfl (Nat.le_of_ble_eq_true rfl) ?_
  intro p e s m below meth c A ls hx hb hr hml hts hown hlocks hnm hsz hP hK hVK hD hS hA hl
  have hown : s.vm.findClass RX9 = some m.cls := hown
  have hl : lv_has ls 4 [(0, .ref (a 0)), (1, .int (nI th2))] := hl
  have hP : va_P D vwCl ([mO a (nI n) (nI k) th, [(a 1, .inl (cY 0, 72, .inl fto))], [(a 4, .inl (cY 1, 64, .inr (.inl fnow)))], [(a 5, .inl (cY 1, 64, .inr (.inl fthn)))], [(a 6, .inl (cY 1, 6, .inr (.inl foth)))]] : List va_W).flatten s.heap := hP
  have hD : va_D A ([mO a (nI n) (nI k) th, [(a 1, .inl (cY 0, 72, .inl fto))], [(a 4, .inl (cY 1, 64, .inr (.inl fnow)))], [(a 5, .inl (cY 1, 64, .inr (.inl fthn)))], [(a 6, .inl (cY 1, 6, .inr (.inl foth)))]] : List va_W).flatten := hD
  have hin2 : inR (nI th2) (nI 0) (nI 1000) = true := inR_t (by omega) (by omega) (by omega)
  refine lv_aload_n hx hb dX9_mixing_0 rfl (lv_at hl 0 rfl) ?_
  refine lv_iload_n hx hb dX9_mixing_1 rfl (lv_at hl 1 rfl) ?_
  refine lv_iconst (v := nI 0) hx hb dX9_mixing_2 (by decide) ?_
  refine lv_sipush (v := nI 1000) hx hb dX9_mixing_3 (by decide) ?_
  refine ca_i (CL := []) (va_runS (As := [.int (nI th2), .int (nI 0), .int (nI 1000)]) (rest := [.ref (a 0)]) ⟨hx, hb, hml, hown, hts⟩ (c_X9_isIn l D cY s.heap.size (nI th2) (nI 0) (nI 1000)) (va_cwS 3 hts gX9_mixing_X9_isIn rfl rfl rfl (by decide +kernel) ⟨Nat.le_of_ble_eq_true rfl, Nat.le_of_ble_eq_true rfl⟩) (b_preS hVK hP hD [] rfl rfl) rfl rfl hl.1 rfl (lv_room (Nat.le_of_ble_eq_true rfl)) dX9_mixing_6 ⟨Nat.le_refl _, Nat.le_refl _⟩) hP hD hS hA [] rfl rfl (fun _ => rfl) (fun r6 uu H locs hq hP hD hS => ?_)
  subst hq
  have hP : va_P D vwCl ([mO a (nI n) (nI k) th, [(a 1, .inl (cY 0, 72, .inl fto))], [(a 4, .inl (cY 1, 64, .inr (.inl fnow)))], [(a 5, .inl (cY 1, 64, .inr (.inl fthn)))], [(a 6, .inl (cY 1, 6, .inr (.inl foth)))]] : List va_W).flatten H := hP
  have hD : va_D A ([mO a (nI n) (nI k) th, [(a 1, .inl (cY 0, 72, .inl fto))], [(a 4, .inl (cY 1, 64, .inr (.inl fnow)))], [(a 5, .inl (cY 1, 64, .inr (.inl fthn)))], [(a 6, .inl (cY 1, 6, .inr (.inl foth)))]] : List va_W).flatten := hD
  refine b_if_eq (tgt := 16) hx hb dX9_mixing_9 (by decide) (fun h9 => ?_) (fun h9 => ?_)
  · -- t
    exact absurd (h9.symm.trans hin2) (by decide)
  · -- f
    refine lv_iconst (v := nI 0) hx hb dX9_mixing_12 (by decide) ?_
    refine lv_goto (tgt := 17) hx hb dX9_mixing_13 (by decide) ?_
    refine ca_i (CL := [mO a (nI n) (nI k) th]) (va_runV (As := [.int (nI 0)]) (rest := []) ⟨hx, hb, hml, hown, hts⟩ (c_X9_can l D cY H.size a n k th 0 (by omega)) (cwV 1 hts gX9_mixing_X9_can rfl rfl rfl (by decide +kernel) ⟨Nat.le_of_ble_eq_true rfl, Nat.le_of_ble_eq_true rfl⟩) (b_preV hVK hP hD [0] rfl rfl 0 rfl rfl) rfl rfl hl.1 rfl (lv_room (Nat.le_of_ble_eq_true rfl)) dX9_mixing_17 ⟨Nat.le_refl _, Nat.le_refl _⟩) hP hD hS hA [0] rfl rfl (fun _ => rfl) (fun r17 uu H locs hq hP hD hS => ?_)
    subst hq
    have hP : va_P D vwCl ([mO a (nI n) (nI k) (nI 0), [(a 1, .inl (cY 0, 72, .inl fto))], [(a 4, .inl (cY 1, 64, .inr (.inl fnow)))], [(a 5, .inl (cY 1, 64, .inr (.inl fthn)))], [(a 6, .inl (cY 1, 6, .inr (.inl foth)))]] : List va_W).flatten H := hP
    have hD : va_D A ([mO a (nI n) (nI k) (nI 0), [(a 1, .inl (cY 0, 72, .inl fto))], [(a 4, .inl (cY 1, 64, .inr (.inl fnow)))], [(a 5, .inl (cY 1, 64, .inr (.inl fthn)))], [(a 6, .inl (cY 1, 6, .inr (.inl foth)))]] : List va_W).flatten := hD
    refine b_if_ne (tgt := 25) hx hb dX9_mixing_20 (by decide) (fun h20 => ?_) (fun h20 => ?_)
    · -- t
      refine lv_iconst (v := (-1)) hx hb dX9_mixing_25 (by decide) ?_
      refine lv_istore_n (lv' := [(2, .int (-1)), (0, .ref (a 0)), (1, .int (nI th2))]) hx hb dX9_mixing_26 rfl hl (by decide) rfl (fun ls hl => ?_)
      refine lv_bipush (v := nI 12) hx hb dX9_mixing_27 (by decide) ?_
      refine lv_istore_n (lv' := [(3, .int (nI 12)), (2, .int (-1)), (0, .ref (a 0)), (1, .int (nI th2))]) hx hb dX9_mixing_29 rfl hl (by decide) rfl (fun ls hl => ?_)
      have L30 : ∀ q : Nat, q ≤ 13 → ∀ (fN : Nat → Int64) (fT : Nat → Int64) (fO : Nat → Int64), ∀ (H : Heap) (locs : List Loc), va_P D vwCl ([mO a (nI n) (nI k) (nI 0), [(a 1, .inl (cY 0, 72, .inl fto))], [(a 4, .inl (cY 1, 64, .inr (.inl fN)))], [(a 5, .inl (cY 1, 64, .inr (.inl fT)))], [(a 6, .inl (cY 1, 6, .inr (.inl fO)))]] : List va_W).flatten H → va_D A ([mO a (nI n) (nI k) (nI 0), [(a 1, .inl (cY 0, 72, .inl fto))], [(a 4, .inl (cY 1, 64, .inr (.inl fN)))], [(a 5, .inl (cY 1, 64, .inr (.inl fT)))], [(a 6, .inl (cY 1, 6, .inr (.inl fO)))]] : List va_W).flatten → va_S A s.heap H locs → ∀ (ls : Array Slot), lv_has ls 4 [(0, .ref (a 0)), (1, .int (nI th2)), (2, .int (fnd (mixB g n k th2) q)), (3, .int (dI q))] → W p l e ({ frames := 4, cells := 0, slots := 0, locals := 160 }) s m ([.ref (a 0), .int (nI th2)] : List Value).toArray below meth c H locs 0 0 (MQ below (qI (S := (Nat → Int64) × (Nat → Int64) × (Nat → Int64)) D cY (fun r u => r = fnd (mixB g n k th2) 13) (fun u => [mO a (nI n) (nI k) (nI 0), [(a 1, .inl (cY 0, 72, .inl fto))], [(a 4, .inl (cY 1, 64, .inr (.inl u.1)))], [(a 5, .inl (cY 1, 64, .inr (.inl u.2.1)))], [(a 6, .inl (cY 1, 6, .inr (.inl u.2.2)))]]) A) ([.ref (a 0), .int (nI th2)] : List Value).toArray s 0 0 A) (F0 m 30 ls []) := by
        refine lpW 13 ?_
        intro q bdq ih30 fN fT fO  H locs hP hD hS ls hl
        refine lv_iload_n hx hb dX9_mixing_30 rfl (lv_at hl 3 rfl) ?_
        refine lv_if_lt (tgt := 55) hx hb dX9_mixing_31 (by decide) (fun h31 => ?_) (fun h31 => ?_)
        · -- t
          have e31 : q = 13 := by
            apply Classical.byContradiction
            intro z
            exact dI_lt q (by omega) h31
          refine lv_iload_n hx hb dX9_mixing_55 rfl (lv_at hl 2 rfl) ?_
          exact r_i hx hb hr hlocks hP hD hS (fN, fT, fO) rfl (by rw [e31]) dX9_mixing_56
        · -- f
          have e31 : q < 13 := by
            apply Classical.byContradiction
            intro z
            have z2 : q = 13 := by omega
            rw [z2] at h31
            exact h31 dI_13
          refine lv_aload_n hx hb dX9_mixing_34 rfl (lv_at hl 0 rfl) ?_
          refine lv_iload_n hx hb dX9_mixing_35 rfl (lv_at hl 1 rfl) ?_
          refine lv_iload_n hx hb dX9_mixing_36 rfl (lv_at hl 3 rfl) ?_
          refine eqi (x' := nI (12 - q)) (dI_n q e31) ?_
          refine ca_i (CL := [mO a (nI n) (nI k) (nI 0), [(a 1, .inl (cY 0, 72, .inl fto))], [(a 4, .inl (cY 1, 64, .inr (.inl fN)))], [(a 5, .inl (cY 1, 64, .inr (.inl fT)))], [(a 6, .inl (cY 1, 6, .inr (.inl fO)))]]) (va_runV (As := [.int (nI th2), .int (nI (12 - q))]) (rest := []) ⟨hx, hb, hml, hown, hts⟩ (c_X9_isMixed l D cY H.size a n k (nI 0) fto fN fT fO g th2 (12 - q) (by omega) (by omega) (by omega) (by omega) hG hgn (by omega) (by omega)) (cwV 2 hts gX9_mixing_X9_isMixed rfl rfl rfl (by decide +kernel) ⟨Nat.le_of_ble_eq_true rfl, Nat.le_of_ble_eq_true rfl⟩) (b_preV hVK hP hD [0, 1, 2, 3, 4] rfl rfl 0 rfl rfl) rfl rfl hl.1 rfl (lv_room (Nat.le_of_ble_eq_true rfl)) dX9_mixing_37 ⟨Nat.le_refl _, Nat.le_refl _⟩) hP hD hS hA [0, 1, 2, 3, 4] rfl rfl (fun _ => rfl) (fun r37 uu H locs hq hP hD hS => ?_)
          obtain ⟨fnow1_1, fthn1_2, foth1_3⟩ := uu
          try dsimp only at hq
          subst hq
          have hP : va_P D vwCl ([mO a (nI n) (nI k) (nI 0), [(a 1, .inl (cY 0, 72, .inl fto))], [(a 4, .inl (cY 1, 64, .inr (.inl fnow1_1)))], [(a 5, .inl (cY 1, 64, .inr (.inl fthn1_2)))], [(a 6, .inl (cY 1, 6, .inr (.inl foth1_3)))]] : List va_W).flatten H := hP
          have hD : va_D A ([mO a (nI n) (nI k) (nI 0), [(a 1, .inl (cY 0, 72, .inl fto))], [(a 4, .inl (cY 1, 64, .inr (.inl fnow1_1)))], [(a 5, .inl (cY 1, 64, .inr (.inl fthn1_2)))], [(a 6, .inl (cY 1, 6, .inr (.inl foth1_3)))]] : List va_W).flatten := hD
          refine b_if_eq (tgt := 47) hx hb dX9_mixing_40 (by decide) (fun h40 => ?_) (fun h40 => ?_)
          · -- t
            refine lv_iload_n hx hb dX9_mixing_47 rfl (lv_at hl 2 rfl) ?_
            refine eqi (x' := fnd (mixB g n k th2) (q + 1)) (by show _ = (if _ then _ else _); rw [h40]; rfl) ?_
            refine lv_istore_n (lv' := [(2, .int (fnd (mixB g n k th2) (q + 1))), (0, .ref (a 0)), (1, .int (nI th2)), (3, .int (dI q))]) hx hb dX9_mixing_48 rfl hl (by decide) rfl (fun ls hl => ?_)
            refine lv_iinc (v := dI (q + 1)) (lv' := [(3, .int (dI (q + 1))), (2, .int (fnd (mixB g n k th2) (q + 1))), (0, .ref (a 0)), (1, .int (nI th2))]) hx hb dX9_mixing_49 hl (k := 3) rfl (dI_s q e31) (by decide) rfl (fun ls hl => ?_)
            refine lv_goto (tgt := 30) hx hb dX9_mixing_52 (by decide) ?_
            exact ih30 (by omega) fnow1_1 fthn1_2 foth1_3  _ _ hP hD hS _ (lv_sub hl [2, 3, 1, 0] rfl)
          · -- f
            refine lv_iload_n hx hb dX9_mixing_43 rfl (lv_at hl 3 rfl) ?_
            refine eqi (x' := fnd (mixB g n k th2) (q + 1)) (by rw [dI_n q e31]; exact (if_pos h40).symm) ?_
            refine lv_goto (tgt := 48) hx hb dX9_mixing_44 (by decide) ?_
            refine lv_istore_n (lv' := [(2, .int (fnd (mixB g n k th2) (q + 1))), (0, .ref (a 0)), (1, .int (nI th2)), (3, .int (dI q))]) hx hb dX9_mixing_48 rfl hl (by decide) rfl (fun ls hl => ?_)
            refine lv_iinc (v := dI (q + 1)) (lv' := [(3, .int (dI (q + 1))), (2, .int (fnd (mixB g n k th2) (q + 1))), (0, .ref (a 0)), (1, .int (nI th2))]) hx hb dX9_mixing_49 hl (k := 3) rfl (dI_s q e31) (by decide) rfl (fun ls hl => ?_)
            refine lv_goto (tgt := 30) hx hb dX9_mixing_52 (by decide) ?_
            exact ih30 (by omega) fnow1_1 fthn1_2 foth1_3  _ _ hP hD hS _ (lv_sub hl [2, 3, 1, 0] rfl)
      exact L30 0 (by omega) fnow fthn foth  _ _ hP hD hS _ (lv_sub hl [2, 3, 1, 0] rfl)
    · -- f
      exact absurd h20 (by decide)

