set_option maxHeartbeats 4000000 in
set_option maxRecDepth 100000 in
theorem c_L_areLaws (l : Launch) (D : va_G) (cY : Nat → ClassId) (sz : Nat) (b : Nat → Nat) (rr : Nat → Nat → Nat) (n : Nat) (k : Nat) (fW : Nat → Nat → Int32) (fR : Nat → Nat → Int64) (fG : Nat → Nat → Int32) (g : Nat → Nat → Nat) (cc0 : Nat) (fc : Nat → Int32) (x : Nat) (hn1 : 1 ≤ n) (hn6 : n ≤ 6) (hk1 : 1 ≤ k) (hk12 : k ≤ 12) (hcn : fc 0 = nI n) (hck : fc 1 = nI k) (hG : ∀ i j, i < n → j < k → fG i j = nI (g i j)) (hgn : ∀ i j, i < n → j < k → g i j < n) (hW : ∀ i j, i < n → j < n → fW i j = nI (cnt (g i) j k)) (hx30 : x < 1073741824) : Met l yL_areLaws wsL_areLaws ({ frames := 7, cells := 0, slots := 0, locals := 280 }) (cP D cY [.ref (b 0), .int (nI x), .ref cc0] [hO b, cO b (nI n) (nI k), lO b, oQ (cY 2) (b 3) (rr 1) 6, gI (cY 0) (rr 1) 6 fW 6, oQ (cY 3) (b 5) (rr 2) 13, gJ (cY 1) (rr 2) 36 fR 13, oQ (cY 2) (b 2) (rr 0) 6, gI (cY 0) (rr 0) 12 fG 6, sO b, [(cc0, .inl (cY 0, 2, .inl fc))]] sz) (qI (S := (Nat → Nat → Int64)) D cY (fun r uu => r = bI true) (fun uu => [hO b, cO b (nI n) (nI k), lO b, oQ (cY 2) (b 3) (rr 1) 6, gI (cY 0) (rr 1) 6 fW 6, oQ (cY 3) (b 5) (rr 2) 13, gJ (cY 1) (rr 2) 36 uu 13, oQ (cY 2) (b 2) (rr 0) 6, gI (cY 0) (rr 0) 12 fG 6, sO b, [(cc0, .inl (cY 0, 2, .inl fc))]]) (va_A ([hO b, cO b (nI n) (nI k), lO b, oQ (cY 2) (b 3) (rr 1) 6, gI (cY 0) (rr 1) 6 fW 6, oQ (cY 3) (b 5) (rr 2) 13, gJ (cY 1) (rr 2) 36 fR 13, oQ (cY 2) (b 2) (rr 0) 6, gI (cY 0) (rr 0) 12 fG 6, sO b, [(cc0, .inl (cY 0, 2, .inl fc))]] : List va_W).flatten sz)) 0 0 (va_A ([hO b, cO b (nI n) (nI k), lO b, oQ (cY 2) (b 3) (rr 1) 6, gI (cY 0) (rr 1) 6 fW 6, oQ (cY 3) (b 5) (rr 2) 13, gJ (cY 1) (rr 2) 36 fR 13, oQ (cY 2) (b 2) (rr 0) 6, gI (cY 0) (rr 0) 12 fG 6, sO b, [(cc0, .inl (cY 0, 2, .inl fc))]] : List va_W).flatten sz) := by
  refine mtB (Qc := fun A => qI (S := (Nat → Nat → Int64)) D cY (fun r uu => r = bI true) (fun uu => [hO b, cO b (nI n) (nI k), lO b, oQ (cY 2) (b 3) (rr 1) 6, gI (cY 0) (rr 1) 6 fW 6, oQ (cY 3) (b 5) (rr 2) 13, gJ (cY 1) (rr 2) 36 uu 13, oQ (cY 2) (b 2) (rr 0) 6, gI (cY 0) (rr 0) 12 fG 6, sO b, [(cc0, .inl (cY 0, 2, .inl fc))]]) A) (cc := cL_areLaws) (maxL := 13) (ret := (some .boolean)) (by decide) rfl (Nat.le_of_ble_eq_true rfl) ?_
  intro p e s m below meth c A ls hx hb hr hml hts hown hlocks hnm hsz hP hK hVK hD hS hA hl
  have hown : s.vm.findClass RL = some m.cls := hown
  have hl : lv_has ls 13 [(0, .ref (b 0)), (1, .int (nI x)), (2, .ref cc0)] := hl
  have hP : va_P D vwCl ([hO b, cO b (nI n) (nI k), lO b, oQ (cY 2) (b 3) (rr 1) 6, gI (cY 0) (rr 1) 6 fW 6, oQ (cY 3) (b 5) (rr 2) 13, gJ (cY 1) (rr 2) 36 fR 13, oQ (cY 2) (b 2) (rr 0) 6, gI (cY 0) (rr 0) 12 fG 6, sO b, [(cc0, .inl (cY 0, 2, .inl fc))]] : List va_W).flatten s.heap := hP
  have hD : va_D A ([hO b, cO b (nI n) (nI k), lO b, oQ (cY 2) (b 3) (rr 1) 6, gI (cY 0) (rr 1) 6 fW 6, oQ (cY 3) (b 5) (rr 2) 13, gJ (cY 1) (rr 2) 36 fR 13, oQ (cY 2) (b 2) (rr 0) 6, gI (cY 0) (rr 0) 12 fG 6, sO b, [(cc0, .inl (cY 0, 2, .inl fc))]] : List va_W).flatten := hD
  refine lv_iload_n hx hb dL_areLaws_0 rfl (lv_at hl 1 rfl) ?_
  refine lv_aload_n hx hb dL_areLaws_1 rfl (lv_at hl 2 rfl) ?_
  refine lv_iconst (v := nI 0) hx hb dL_areLaws_2 (by decide) ?_
  refine b_iald hx hb hK hP 10 0 rfl rfl (by omega) (by decide) dL_areLaws_3 ?_
  refine eqi (x' := nI n) (hcn) ?_
  refine lv_irem hx hb dL_areLaws_4 (nI_ne0 (by omega) (by omega)) ?_
  refine eqi (x' := nI (x % n)) (pk_rem (by omega) (by omega) (by omega)) ?_
  obtain ⟨i0, ei0⟩ : ∃ q, q = x % n := ⟨_, rfl⟩
  have hi0 : i0 < n := by rw [ei0]; exact Nat.mod_lt _ (by omega)
  refine eqi (x' := nI i0) (congrArg nI ei0.symm) ?_
  refine lv_istore_n (lv' := [(3, .int (nI i0)), (0, .ref (b 0)), (1, .int (nI x)), (2, .ref cc0)]) hx hb dL_areLaws_5 rfl hl (by decide) rfl (fun ls hl => ?_)
  refine lv_iload_n hx hb dL_areLaws_6 rfl (lv_at hl 2 rfl) ?_
  refine lv_bipush (v := nI 6) hx hb dL_areLaws_7 (by decide) ?_
  refine lv_idiv hx hb dL_areLaws_9 (nI_ne0 (by omega) (by omega)) ?_
  refine eqi (x' := nI (x / 6)) (pk_div (by omega) (by omega) (by omega)) ?_
  refine lv_aload_n hx hb dL_areLaws_10 rfl (lv_at hl 3 rfl) ?_
  refine lv_iconst (v := nI 0) hx hb dL_areLaws_11 (by decide) ?_
  refine b_iald hx hb hK hP 10 0 rfl rfl (by omega) (by decide) dL_areLaws_12 ?_
  refine eqi (x' := nI n) (hcn) ?_
  refine lv_irem hx hb dL_areLaws_13 (nI_ne0 (by omega) (by omega)) ?_
  refine eqi (x' := nI ((x / 6) % n)) (pk_rem (by omega) (by omega) (by omega)) ?_
  obtain ⟨j0, ej0⟩ : ∃ q, q = x / 6 % n := ⟨_, rfl⟩
  have hj0 : j0 < n := by rw [ej0]; exact Nat.mod_lt _ (by omega)
  refine eqi (x' := nI j0) (congrArg nI ej0.symm) ?_
  refine lv_istore (lv' := [(4, .int (nI j0)), (3, .int (nI i0)), (0, .ref (b 0)), (1, .int (nI x)), (2, .ref cc0)]) hx hb dL_areLaws_14 hl (by decide) rfl (fun ls hl => ?_)
  refine lv_iload_n hx hb dL_areLaws_16 rfl (lv_at hl 3 rfl) ?_
  refine lv_bipush (v := nI 36) hx hb dL_areLaws_17 (by decide) ?_
  refine lv_idiv hx hb dL_areLaws_19 (nI_ne0 (by omega) (by omega)) ?_
  refine eqi (x' := nI (x / 36)) (pk_div (by omega) (by omega) (by omega)) ?_
  refine lv_bipush (v := nI 6) hx hb dL_areLaws_20 (by decide) ?_
  refine lv_irem hx hb dL_areLaws_22 (nI_ne0 (by omega) (by omega)) ?_
  refine eqi (x' := nI ((x / 36) % 6)) (pk_rem (by omega) (by omega) (by omega)) ?_
  obtain ⟨t0, et0⟩ : ∃ q, q = x / 36 % 6 := ⟨_, rfl⟩
  have ht0 : t0 < 6 := by omega
  refine eqi (x' := nI t0) (congrArg nI et0.symm) ?_
  refine lv_istore (lv' := [(5, .int (nI t0)), (4, .int (nI j0)), (3, .int (nI i0)), (0, .ref (b 0)), (1, .int (nI x)), (2, .ref cc0)]) hx hb dL_areLaws_23 hl (by decide) rfl (fun ls hl => ?_)
  refine lv_iload_n hx hb dL_areLaws_25 rfl (lv_at hl 4 rfl) ?_
  refine lv_sipush (v := nI 216) hx hb dL_areLaws_26 (by decide) ?_
  refine lv_idiv hx hb dL_areLaws_29 (nI_ne0 (by omega) (by omega)) ?_
  refine eqi (x' := nI (x / 216)) (pk_div (by omega) (by omega) (by omega)) ?_
  refine lv_bipush (v := nI 6) hx hb dL_areLaws_30 (by decide) ?_
  refine lv_irem hx hb dL_areLaws_32 (nI_ne0 (by omega) (by omega)) ?_
  refine eqi (x' := nI ((x / 216) % 6)) (pk_rem (by omega) (by omega) (by omega)) ?_
  obtain ⟨u0, eu0⟩ : ∃ q, q = x / 216 % 6 := ⟨_, rfl⟩
  have hu0 : u0 < 6 := by omega
  refine eqi (x' := nI u0) (congrArg nI eu0.symm) ?_
  refine lv_istore (lv' := [(6, .int (nI u0)), (5, .int (nI t0)), (4, .int (nI j0)), (3, .int (nI i0)), (0, .ref (b 0)), (1, .int (nI x)), (2, .ref cc0)]) hx hb dL_areLaws_33 hl (by decide) rfl (fun ls hl => ?_)
  refine lv_lconst (v := lN 0) hx hb dL_areLaws_35 (by decide) ?_
  refine lv_lstore (lv' := [(7, .long (lN 0)), (6, .int (nI u0)), (5, .int (nI t0)), (4, .int (nI j0)), (3, .int (nI i0)), (0, .ref (b 0)), (1, .int (nI x)), (2, .ref cc0)]) hx hb dL_areLaws_36 hl (by decide) rfl (fun ls hl => ?_)
  refine lv_lconst (v := lN 0) hx hb dL_areLaws_38 (by decide) ?_
  refine lv_lstore (lv' := [(9, .long (lN 0)), (7, .long (lN 0)), (6, .int (nI u0)), (5, .int (nI t0)), (4, .int (nI j0)), (3, .int (nI i0)), (0, .ref (b 0)), (1, .int (nI x)), (2, .ref cc0)]) hx hb dL_areLaws_39 hl (by decide) rfl (fun ls hl => ?_)
  refine lv_aload_n hx hb dL_areLaws_41 rfl (lv_at hl 6 rfl) ?_
  refine lv_iload_n hx hb dL_areLaws_42 rfl (lv_at hl 5 rfl) ?_
  refine lv_iload hx hb dL_areLaws_43 (lv_at hl 4 rfl) ?_
  refine ca_i (CL := [hO b, cO b (nI n) (nI k), oQ (cY 2) (b 3) (rr 1) 6, gI (cY 0) (rr 1) 6 fW 6]) (va_runV (As := [.int (nI i0), .int (nI j0)]) (rest := []) ⟨hx, hb, hml, hown, hts⟩ (c_X8_weight_ok l D cY s.heap.size b rr n k fW g i0 j0 (by omega) (by omega) (by omega) (by omega) hW (by omega) (by omega)) (cwV 2 hts gL_areLaws_X8_weight rfl rfl rfl (by decide +kernel) ⟨Nat.le_of_ble_eq_true rfl, Nat.le_of_ble_eq_true rfl⟩) (b_preV hVK hP hD [0, 1, 3, 4] rfl rfl 0 rfl rfl) rfl rfl hl.1 rfl (lv_room (Nat.le_of_ble_eq_true rfl)) dL_areLaws_45 ⟨Nat.le_refl _, Nat.le_refl _⟩) hP hD hS hA [0, 1, 3, 4] rfl rfl (fun _ => rfl) (fun r45 uu H locs hq hP hD hS => ?_)
  subst hq
  have hP : va_P D vwCl ([hO b, cO b (nI n) (nI k), lO b, oQ (cY 2) (b 3) (rr 1) 6, gI (cY 0) (rr 1) 6 fW 6, oQ (cY 3) (b 5) (rr 2) 13, gJ (cY 1) (rr 2) 36 fR 13, oQ (cY 2) (b 2) (rr 0) 6, gI (cY 0) (rr 0) 12 fG 6, sO b, [(cc0, .inl (cY 0, 2, .inl fc))]] : List va_W).flatten H := hP
  have hD : va_D A ([hO b, cO b (nI n) (nI k), lO b, oQ (cY 2) (b 3) (rr 1) 6, gI (cY 0) (rr 1) 6 fW 6, oQ (cY 3) (b 5) (rr 2) 13, gJ (cY 1) (rr 2) 36 fR 13, oQ (cY 2) (b 2) (rr 0) 6, gI (cY 0) (rr 0) 12 fG 6, sO b, [(cc0, .inl (cY 0, 2, .inl fc))]] : List va_W).flatten := hD
  have hcl := cnt_le (g i0) j0 k
  refine lv_i2l (v := lN (cnt (g i0) j0 k)) hx hb dL_areLaws_48 (nI_l (by omega)) ?_
  refine lv_aload_n hx hb dL_areLaws_49 rfl (lv_at hl 6 rfl) ?_
  refine lv_iload_n hx hb dL_areLaws_50 rfl (lv_at hl 5 rfl) ?_
  refine lv_iconst (v := nI 1) hx hb dL_areLaws_51 (by decide) ?_
  refine lv_iload hx hb dL_areLaws_52 (lv_at hl 4 rfl) ?_
  refine ca_l (CL := [hO b, cO b (nI n) (nI k), lO b, oQ (cY 2) (b 3) (rr 1) 6, gI (cY 0) (rr 1) 6 fW 6, oQ (cY 3) (b 5) (rr 2) 13, gJ (cY 1) (rr 2) 36 fR 13]) (va_runV (As := [.int (nI i0), .int (nI 1), .int (nI j0)]) (rest := [.long (lN (cnt (g i0) j0 k))]) ⟨hx, hb, hml, hown, hts⟩ (c_X8_law_ok l D cY H.size b rr n k fW fR g i0 1 j0 (by omega) (by omega) (by omega) (by omega) hW (by omega) (by omega) (by omega)) (cwV 3 hts gL_areLaws_X8_law rfl rfl rfl (by decide +kernel) ⟨Nat.le_of_ble_eq_true rfl, Nat.le_of_ble_eq_true rfl⟩) (b_preV hVK hP hD [0, 1, 2, 3, 4, 5, 6] rfl rfl 0 rfl rfl) rfl rfl hl.1 rfl (lv_room (Nat.le_of_ble_eq_true rfl)) dL_areLaws_54 ⟨Nat.le_refl _, Nat.le_refl _⟩) hP hD hS hA [0, 1, 2, 3, 4, 5, 6] rfl rfl (fun _ => rfl) (fun r54 uu H locs hq hP hD hS => ?_)
  obtain ⟨fR1_1, rfl⟩ : ∃ z, z = uu := ⟨_, rfl⟩
  try dsimp only at hq
  subst hq
  have hP : va_P D vwCl ([hO b, cO b (nI n) (nI k), lO b, oQ (cY 2) (b 3) (rr 1) 6, gI (cY 0) (rr 1) 6 fW 6, oQ (cY 3) (b 5) (rr 2) 13, gJ (cY 1) (rr 2) 36 fR1_1 13, oQ (cY 2) (b 2) (rr 0) 6, gI (cY 0) (rr 0) 12 fG 6, sO b, [(cc0, .inl (cY 0, 2, .inl fc))]] : List va_W).flatten H := hP
  have hD : va_D A ([hO b, cO b (nI n) (nI k), lO b, oQ (cY 2) (b 3) (rr 1) 6, gI (cY 0) (rr 1) 6 fW 6, oQ (cY 3) (b 5) (rr 2) 13, gJ (cY 1) (rr 2) 36 fR1_1 13, oQ (cY 2) (b 2) (rr 0) 6, gI (cY 0) (rr 0) 12 fG 6, sO b, [(cc0, .inl (cY 0, 2, .inl fc))]] : List va_W).flatten := hD
  refine eql (x' := lN (cnt (g i0) j0 k)) (congrArg lN (PL_1 (by omega))) ?_
  refine W.lcmp hx hb dL_areLaws_57 ?_
  refine l_if_ne (tgt := 117) hx hb dL_areLaws_58 (by decide) (fun h58 => ?_) (fun h58 => ?_)
  · -- t
    exact absurd rfl h58
  · -- f
    refine lv_aload_n hx hb dL_areLaws_61 rfl (lv_at hl 6 rfl) ?_
    refine lv_iload_n hx hb dL_areLaws_62 rfl (lv_at hl 5 rfl) ?_
    refine lv_iload hx hb dL_areLaws_63 (lv_at hl 3 rfl) ?_
    refine lv_iconst (v := nI 3) hx hb dL_areLaws_65 (by decide) ?_
    refine lv_irem hx hb dL_areLaws_66 (nI_ne0 (by omega) (by omega)) ?_
    refine eqi (x' := nI (t0 % 3)) (pk_rem (by omega) (by omega) (by omega)) ?_
    refine lv_iload hx hb dL_areLaws_67 (lv_at hl 4 rfl) ?_
    refine ca_l (CL := [hO b, cO b (nI n) (nI k), oQ (cY 2) (b 2) (rr 0) 6, gI (cY 0) (rr 0) 12 fG 6]) (va_runV (As := [.int (nI i0), .int (nI (t0 % 3)), .int (nI j0)]) (rest := []) ⟨hx, hb, hml, hown, hts⟩ (c_X8_lawAnew_ok l D cY H.size b rr n k fG g i0 (t0 % 3) j0 (by omega) (by omega) (by omega) (by omega) hG hgn (by omega) (by omega) (by omega)) (cwV 3 hts gL_areLaws_X8_lawAnew rfl rfl rfl (by decide +kernel) ⟨Nat.le_of_ble_eq_true rfl, Nat.le_of_ble_eq_true rfl⟩) (b_preV hVK hP hD [0, 1, 7, 8] rfl rfl 0 rfl rfl) rfl rfl hl.1 rfl (lv_room (Nat.le_of_ble_eq_true rfl)) dL_areLaws_69 ⟨Nat.le_refl _, Nat.le_refl _⟩) hP hD hS hA [0, 1, 7, 8] rfl rfl (fun _ => rfl) (fun r69 uu H locs hq hP hD hS => ?_)
    subst hq
    have hP : va_P D vwCl ([hO b, cO b (nI n) (nI k), lO b, oQ (cY 2) (b 3) (rr 1) 6, gI (cY 0) (rr 1) 6 fW 6, oQ (cY 3) (b 5) (rr 2) 13, gJ (cY 1) (rr 2) 36 fR1_1 13, oQ (cY 2) (b 2) (rr 0) 6, gI (cY 0) (rr 0) 12 fG 6, sO b, [(cc0, .inl (cY 0, 2, .inl fc))]] : List va_W).flatten H := hP
    have hD : va_D A ([hO b, cO b (nI n) (nI k), lO b, oQ (cY 2) (b 3) (rr 1) 6, gI (cY 0) (rr 1) 6 fW 6, oQ (cY 3) (b 5) (rr 2) 13, gJ (cY 1) (rr 2) 36 fR1_1 13, oQ (cY 2) (b 2) (rr 0) 6, gI (cY 0) (rr 0) 12 fG 6, sO b, [(cc0, .inl (cY 0, 2, .inl fc))]] : List va_W).flatten := hD
    refine eql (x' := lN (PL g n k i0 (t0 % 3) j0)) (congrArg lN (RW_PL hgn (by omega) _ _ (by omega))) ?_
    refine lv_aload_n hx hb dL_areLaws_72 rfl (lv_at hl 6 rfl) ?_
    refine lv_iload_n hx hb dL_areLaws_73 rfl (lv_at hl 5 rfl) ?_
    refine lv_iload hx hb dL_areLaws_74 (lv_at hl 3 rfl) ?_
    refine lv_iconst (v := nI 3) hx hb dL_areLaws_76 (by decide) ?_
    refine lv_irem hx hb dL_areLaws_77 (nI_ne0 (by omega) (by omega)) ?_
    refine eqi (x' := nI (t0 % 3)) (pk_rem (by omega) (by omega) (by omega)) ?_
    refine lv_iload hx hb dL_areLaws_78 (lv_at hl 4 rfl) ?_
    refine ca_l (CL := [hO b, cO b (nI n) (nI k), lO b, oQ (cY 2) (b 3) (rr 1) 6, gI (cY 0) (rr 1) 6 fW 6, oQ (cY 3) (b 5) (rr 2) 13, gJ (cY 1) (rr 2) 36 fR1_1 13]) (va_runV (As := [.int (nI i0), .int (nI (t0 % 3)), .int (nI j0)]) (rest := [.long (lN (PL g n k i0 (t0 % 3) j0))]) ⟨hx, hb, hml, hown, hts⟩ (c_X8_law_ok l D cY H.size b rr n k fW fR1_1 g i0 (t0 % 3) j0 (by omega) (by omega) (by omega) (by omega) hW (by omega) (by omega) (by omega)) (cwV 3 hts gL_areLaws_X8_law rfl rfl rfl (by decide +kernel) ⟨Nat.le_of_ble_eq_true rfl, Nat.le_of_ble_eq_true rfl⟩) (b_preV hVK hP hD [0, 1, 2, 3, 4, 5, 6] rfl rfl 0 rfl rfl) rfl rfl hl.1 rfl (lv_room (Nat.le_of_ble_eq_true rfl)) dL_areLaws_80 ⟨Nat.le_refl _, Nat.le_refl _⟩) hP hD hS hA [0, 1, 2, 3, 4, 5, 6] rfl rfl (fun _ => rfl) (fun r80 uu H locs hq hP hD hS => ?_)
    obtain ⟨fR1_2, rfl⟩ : ∃ z, z = uu := ⟨_, rfl⟩
    try dsimp only at hq
    subst hq
    have hP : va_P D vwCl ([hO b, cO b (nI n) (nI k), lO b, oQ (cY 2) (b 3) (rr 1) 6, gI (cY 0) (rr 1) 6 fW 6, oQ (cY 3) (b 5) (rr 2) 13, gJ (cY 1) (rr 2) 36 fR1_2 13, oQ (cY 2) (b 2) (rr 0) 6, gI (cY 0) (rr 0) 12 fG 6, sO b, [(cc0, .inl (cY 0, 2, .inl fc))]] : List va_W).flatten H := hP
    have hD : va_D A ([hO b, cO b (nI n) (nI k), lO b, oQ (cY 2) (b 3) (rr 1) 6, gI (cY 0) (rr 1) 6 fW 6, oQ (cY 3) (b 5) (rr 2) 13, gJ (cY 1) (rr 2) 36 fR1_2 13, oQ (cY 2) (b 2) (rr 0) 6, gI (cY 0) (rr 0) 12 fG 6, sO b, [(cc0, .inl (cY 0, 2, .inl fc))]] : List va_W).flatten := hD
    refine W.lcmp hx hb dL_areLaws_83 ?_
    refine l_if_ne (tgt := 117) hx hb dL_areLaws_84 (by decide) (fun h84 => ?_) (fun h84 => ?_)
    · -- t
      exact absurd rfl h84
    · -- f
      refine lv_aload_n hx hb dL_areLaws_87 rfl (lv_at hl 6 rfl) ?_
      refine lv_iload hx hb dL_areLaws_88 (lv_at hl 3 rfl) ?_
      refine ca_l (CL := [hO b, cO b (nI n) (nI k)]) (va_runV (As := [.int (nI t0)]) (rest := []) ⟨hx, hb, hml, hown, hts⟩ (c_X8_words_ok l D cY H.size b n k g t0 (by omega) (by omega) (by omega) (by omega) (by omega)) (cwV 1 hts gL_areLaws_X8_words rfl rfl rfl (by decide +kernel) ⟨Nat.le_of_ble_eq_true rfl, Nat.le_of_ble_eq_true rfl⟩) (b_preV hVK hP hD [0, 1] rfl rfl 0 rfl rfl) rfl rfl hl.1 rfl (lv_room (Nat.le_of_ble_eq_true rfl)) dL_areLaws_90 ⟨Nat.le_refl _, Nat.le_refl _⟩) hP hD hS hA [0, 1] rfl rfl (fun _ => rfl) (fun r90 uu H locs hq hP hD hS => ?_)
      subst hq
      have hP : va_P D vwCl ([hO b, cO b (nI n) (nI k), lO b, oQ (cY 2) (b 3) (rr 1) 6, gI (cY 0) (rr 1) 6 fW 6, oQ (cY 3) (b 5) (rr 2) 13, gJ (cY 1) (rr 2) 36 fR1_2 13, oQ (cY 2) (b 2) (rr 0) 6, gI (cY 0) (rr 0) 12 fG 6, sO b, [(cc0, .inl (cY 0, 2, .inl fc))]] : List va_W).flatten H := hP
      have hD : va_D A ([hO b, cO b (nI n) (nI k), lO b, oQ (cY 2) (b 3) (rr 1) 6, gI (cY 0) (rr 1) 6 fW 6, oQ (cY 3) (b 5) (rr 2) 13, gJ (cY 1) (rr 2) 36 fR1_2 13, oQ (cY 2) (b 2) (rr 0) 6, gI (cY 0) (rr 0) 12 fG 6, sO b, [(cc0, .inl (cY 0, 2, .inl fc))]] : List va_W).flatten := hD
      refine lv_aload_n hx hb dL_areLaws_93 rfl (lv_at hl 6 rfl) ?_
      refine lv_iload hx hb dL_areLaws_94 (lv_at hl 2 rfl) ?_
      refine ca_l (CL := [hO b, cO b (nI n) (nI k)]) (va_runV (As := [.int (nI u0)]) (rest := [.long (lN (k ^ t0))]) ⟨hx, hb, hml, hown, hts⟩ (c_X8_words_ok l D cY H.size b n k g u0 (by omega) (by omega) (by omega) (by omega) (by omega)) (cwV 1 hts gL_areLaws_X8_words rfl rfl rfl (by decide +kernel) ⟨Nat.le_of_ble_eq_true rfl, Nat.le_of_ble_eq_true rfl⟩) (b_preV hVK hP hD [0, 1] rfl rfl 0 rfl rfl) rfl rfl hl.1 rfl (lv_room (Nat.le_of_ble_eq_true rfl)) dL_areLaws_96 ⟨Nat.le_refl _, Nat.le_refl _⟩) hP hD hS hA [0, 1] rfl rfl (fun _ => rfl) (fun r96 uu H locs hq hP hD hS => ?_)
      subst hq
      have hP : va_P D vwCl ([hO b, cO b (nI n) (nI k), lO b, oQ (cY 2) (b 3) (rr 1) 6, gI (cY 0) (rr 1) 6 fW 6, oQ (cY 3) (b 5) (rr 2) 13, gJ (cY 1) (rr 2) 36 fR1_2 13, oQ (cY 2) (b 2) (rr 0) 6, gI (cY 0) (rr 0) 12 fG 6, sO b, [(cc0, .inl (cY 0, 2, .inl fc))]] : List va_W).flatten H := hP
      have hD : va_D A ([hO b, cO b (nI n) (nI k), lO b, oQ (cY 2) (b 3) (rr 1) 6, gI (cY 0) (rr 1) 6 fW 6, oQ (cY 3) (b 5) (rr 2) 13, gJ (cY 1) (rr 2) 36 fR1_2 13, oQ (cY 2) (b 2) (rr 0) 6, gI (cY 0) (rr 0) 12 fG 6, sO b, [(cc0, .inl (cY 0, 2, .inl fc))]] : List va_W).flatten := hD
      refine lv_lmul hx hb dL_areLaws_99 ?_
      refine eql (x' := lN ((k ^ t0) * (k ^ u0))) (lN_mul _ _) ?_
      refine eql (x' := lN (k ^ (t0 + u0))) (congrArg lN (Nat.pow_add k t0 u0).symm) ?_
      refine lv_aload_n hx hb dL_areLaws_100 rfl (lv_at hl 6 rfl) ?_
      refine lv_iload hx hb dL_areLaws_101 (lv_at hl 3 rfl) ?_
      refine lv_iload hx hb dL_areLaws_103 (lv_at hl 2 rfl) ?_
      refine lv_iadd hx hb dL_areLaws_105 ?_
      refine eqi (x' := nI (t0 + u0)) (nI_add _ _) ?_
      refine ca_l (CL := [hO b, cO b (nI n) (nI k)]) (va_runV (As := [.int (nI (t0 + u0))]) (rest := [.long (lN (k ^ (t0 + u0)))]) ⟨hx, hb, hml, hown, hts⟩ (c_X8_words_ok l D cY H.size b n k g (t0 + u0) (by omega) (by omega) (by omega) (by omega) (by omega)) (cwV 1 hts gL_areLaws_X8_words rfl rfl rfl (by decide +kernel) ⟨Nat.le_of_ble_eq_true rfl, Nat.le_of_ble_eq_true rfl⟩) (b_preV hVK hP hD [0, 1] rfl rfl 0 rfl rfl) rfl rfl hl.1 rfl (lv_room (Nat.le_of_ble_eq_true rfl)) dL_areLaws_106 ⟨Nat.le_refl _, Nat.le_refl _⟩) hP hD hS hA [0, 1] rfl rfl (fun _ => rfl) (fun r106 uu H locs hq hP hD hS => ?_)
      subst hq
      have hP : va_P D vwCl ([hO b, cO b (nI n) (nI k), lO b, oQ (cY 2) (b 3) (rr 1) 6, gI (cY 0) (rr 1) 6 fW 6, oQ (cY 3) (b 5) (rr 2) 13, gJ (cY 1) (rr 2) 36 fR1_2 13, oQ (cY 2) (b 2) (rr 0) 6, gI (cY 0) (rr 0) 12 fG 6, sO b, [(cc0, .inl (cY 0, 2, .inl fc))]] : List va_W).flatten H := hP
      have hD : va_D A ([hO b, cO b (nI n) (nI k), lO b, oQ (cY 2) (b 3) (rr 1) 6, gI (cY 0) (rr 1) 6 fW 6, oQ (cY 3) (b 5) (rr 2) 13, gJ (cY 1) (rr 2) 36 fR1_2 13, oQ (cY 2) (b 2) (rr 0) 6, gI (cY 0) (rr 0) 12 fG 6, sO b, [(cc0, .inl (cY 0, 2, .inl fc))]] : List va_W).flatten := hD
      refine W.lcmp hx hb dL_areLaws_109 ?_
      refine l_if_ne (tgt := 117) hx hb dL_areLaws_110 (by decide) (fun h110 => ?_) (fun h110 => ?_)
      · -- t
        exact absurd rfl h110
      · -- f
        refine lv_iconst (v := nI 1) hx hb dL_areLaws_113 (by decide) ?_
        refine lv_goto (tgt := 118) hx hb dL_areLaws_114 (by decide) ?_
        refine lv_istore (lv' := [(11, .int (nI 1)), (9, .long (lN 0)), (7, .long (lN 0)), (6, .int (nI u0)), (5, .int (nI t0)), (4, .int (nI j0)), (3, .int (nI i0)), (0, .ref (b 0)), (1, .int (nI x)), (2, .ref cc0)]) hx hb dL_areLaws_118 hl (by decide) rfl (fun ls hl => ?_)
        refine lv_iconst (v := nI 0) hx hb dL_areLaws_120 (by decide) ?_
        refine lv_istore (lv' := [(12, .int (nI 0)), (11, .int (nI 1)), (9, .long (lN 0)), (7, .long (lN 0)), (6, .int (nI u0)), (5, .int (nI t0)), (4, .int (nI j0)), (3, .int (nI i0)), (0, .ref (b 0)), (1, .int (nI x)), (2, .ref cc0)]) hx hb dL_areLaws_121 hl (by decide) rfl (fun ls hl => ?_)
        have L123 : ∀ q : Nat, q ≤ n → ∀ (gR : Nat → Nat → Int64), ∀ (H : Heap) (locs : List Loc), va_P D vwCl ([hO b, cO b (nI n) (nI k), lO b, oQ (cY 2) (b 3) (rr 1) 6, gI (cY 0) (rr 1) 6 fW 6, oQ (cY 3) (b 5) (rr 2) 13, gJ (cY 1) (rr 2) 36 gR 13, oQ (cY 2) (b 2) (rr 0) 6, gI (cY 0) (rr 0) 12 fG 6, sO b, [(cc0, .inl (cY 0, 2, .inl fc))]] : List va_W).flatten H → va_D A ([hO b, cO b (nI n) (nI k), lO b, oQ (cY 2) (b 3) (rr 1) 6, gI (cY 0) (rr 1) 6 fW 6, oQ (cY 3) (b 5) (rr 2) 13, gJ (cY 1) (rr 2) 36 gR 13, oQ (cY 2) (b 2) (rr 0) 6, gI (cY 0) (rr 0) 12 fG 6, sO b, [(cc0, .inl (cY 0, 2, .inl fc))]] : List va_W).flatten → va_S A s.heap H locs → ∀ (ls : Array Slot), lv_has ls 13 [(0, .ref (b 0)), (1, .int (nI x)), (2, .ref cc0), (3, .int (nI i0)), (4, .int (nI j0)), (5, .int (nI t0)), (6, .int (nI u0)), (7, .long (lN (sm (fun d => PL g n k i0 t0 d) q))), (9, .long (lN (sm (fun d => PL g n k i0 t0 d * PL g n k d u0 j0) q))), (11, .int (nI 1)), (12, .int (nI q))] → W p l e ({ frames := 7, cells := 0, slots := 0, locals := 280 }) s m ([.ref (b 0), .int (nI x), .ref cc0] : List Value).toArray below meth c H locs 0 0 (MQ below (qI (S := (Nat → Nat → Int64)) D cY (fun r uu => r = bI true) (fun uu => [hO b, cO b (nI n) (nI k), lO b, oQ (cY 2) (b 3) (rr 1) 6, gI (cY 0) (rr 1) 6 fW 6, oQ (cY 3) (b 5) (rr 2) 13, gJ (cY 1) (rr 2) 36 uu 13, oQ (cY 2) (b 2) (rr 0) 6, gI (cY 0) (rr 0) 12 fG 6, sO b, [(cc0, .inl (cY 0, 2, .inl fc))]]) A) ([.ref (b 0), .int (nI x), .ref cc0] : List Value).toArray s 0 0 A) (F0 m 123 ls []) := by
          refine lpW n ?_
          intro q bdq ih123 gR  H locs hP hD hS ls hl
          refine lv_iload hx hb dL_areLaws_123 (lv_at hl 10 rfl) ?_
          refine lv_aload_n hx hb dL_areLaws_125 rfl (lv_at hl 2 rfl) ?_
          refine lv_iconst (v := nI 0) hx hb dL_areLaws_126 (by decide) ?_
          refine b_iald hx hb hK hP 10 0 rfl rfl (by omega) (by decide) dL_areLaws_127 ?_
          refine eqi (x' := nI n) (hcn) ?_
          refine n_icmp_ge (tgt := 216) hx hb dL_areLaws_128 (by decide) (by omega) (by omega) (fun h128 => ?_) (fun h128 => ?_)
          · -- t
            refine lv_iload hx hb dL_areLaws_216 (lv_at hl 9 rfl) ?_
            refine n_if_eq (tgt := 318) hx hb dL_areLaws_218 (by decide) (by omega) (fun h218 => ?_) (fun h218 => ?_)
            · -- t
              exact absurd h218 (by decide)
            · -- f
              refine lv_lload hx hb dL_areLaws_221 (lv_at hl 7 rfl) ?_
              refine eql (x' := lN (k ^ t0)) (congrArg lN (by (have e : q = n := by omega); rw [e]; exact PL_sum hgn (by omega) t0)) ?_
              refine lv_aload_n hx hb dL_areLaws_223 rfl (lv_at hl 0 rfl) ?_
              refine lv_iload hx hb dL_areLaws_224 (lv_at hl 5 rfl) ?_
              refine ca_l (CL := [hO b, cO b (nI n) (nI k)]) (va_runV (As := [.int (nI t0)]) (rest := [.long (lN (k ^ t0))]) ⟨hx, hb, hml, hown, hts⟩ (c_X8_words_ok l D cY H.size b n k g t0 (by omega) (by omega) (by omega) (by omega) (by omega)) (cwV 1 hts gL_areLaws_X8_words rfl rfl rfl (by decide +kernel) ⟨Nat.le_of_ble_eq_true rfl, Nat.le_of_ble_eq_true rfl⟩) (b_preV hVK hP hD [0, 1] rfl rfl 0 rfl rfl) rfl rfl hl.1 rfl (lv_room (Nat.le_of_ble_eq_true rfl)) dL_areLaws_226 ⟨Nat.le_refl _, Nat.le_refl _⟩) hP hD hS hA [0, 1] rfl rfl (fun _ => rfl) (fun r226 uu H locs hq hP hD hS => ?_)
              subst hq
              have hP : va_P D vwCl ([hO b, cO b (nI n) (nI k), lO b, oQ (cY 2) (b 3) (rr 1) 6, gI (cY 0) (rr 1) 6 fW 6, oQ (cY 3) (b 5) (rr 2) 13, gJ (cY 1) (rr 2) 36 gR 13, oQ (cY 2) (b 2) (rr 0) 6, gI (cY 0) (rr 0) 12 fG 6, sO b, [(cc0, .inl (cY 0, 2, .inl fc))]] : List va_W).flatten H := hP
              have hD : va_D A ([hO b, cO b (nI n) (nI k), lO b, oQ (cY 2) (b 3) (rr 1) 6, gI (cY 0) (rr 1) 6 fW 6, oQ (cY 3) (b 5) (rr 2) 13, gJ (cY 1) (rr 2) 36 gR 13, oQ (cY 2) (b 2) (rr 0) 6, gI (cY 0) (rr 0) 12 fG 6, sO b, [(cc0, .inl (cY 0, 2, .inl fc))]] : List va_W).flatten := hD
              refine W.lcmp hx hb dL_areLaws_229 ?_
              refine l_if_ne (tgt := 318) hx hb dL_areLaws_230 (by decide) (fun h230 => ?_) (fun h230 => ?_)
              · -- t
                exact absurd rfl h230
              · -- f
                refine lv_lload hx hb dL_areLaws_233 (lv_at hl 8 rfl) ?_
                refine eql (x' := lN (PL g n k i0 (t0 + u0) j0)) (congrArg lN (by (have e : q = n := by omega); rw [e]; exact PL_ck t0 u0 j0 (by omega))) ?_
                refine lv_aload_n hx hb dL_areLaws_235 rfl (lv_at hl 0 rfl) ?_
                refine lv_iload_n hx hb dL_areLaws_236 rfl (lv_at hl 3 rfl) ?_
                refine lv_iload hx hb dL_areLaws_237 (lv_at hl 5 rfl) ?_
                refine lv_iload hx hb dL_areLaws_239 (lv_at hl 6 rfl) ?_
                refine lv_iadd hx hb dL_areLaws_241 ?_
                refine eqi (x' := nI (t0 + u0)) (nI_add _ _) ?_
                refine lv_iload hx hb dL_areLaws_242 (lv_at hl 4 rfl) ?_
                refine ca_l (CL := [hO b, cO b (nI n) (nI k), lO b, oQ (cY 2) (b 3) (rr 1) 6, gI (cY 0) (rr 1) 6 fW 6, oQ (cY 3) (b 5) (rr 2) 13, gJ (cY 1) (rr 2) 36 gR 13]) (va_runV (As := [.int (nI i0), .int (nI (t0 + u0)), .int (nI j0)]) (rest := [.long (lN (PL g n k i0 (t0 + u0) j0))]) ⟨hx, hb, hml, hown, hts⟩ (c_X8_law_ok l D cY H.size b rr n k fW gR g i0 (t0 + u0) j0 (by omega) (by omega) (by omega) (by omega) hW (by omega) (by omega) (by omega)) (cwV 3 hts gL_areLaws_X8_law rfl rfl rfl (by decide +kernel) ⟨Nat.le_of_ble_eq_true rfl, Nat.le_of_ble_eq_true rfl⟩) (b_preV hVK hP hD [0, 1, 2, 3, 4, 5, 6] rfl rfl 0 rfl rfl) rfl rfl hl.1 rfl (lv_room (Nat.le_of_ble_eq_true rfl)) dL_areLaws_244 ⟨Nat.le_refl _, Nat.le_refl _⟩) hP hD hS hA [0, 1, 2, 3, 4, 5, 6] rfl rfl (fun _ => rfl) (fun r244 uu H locs hq hP hD hS => ?_)
                obtain ⟨fR1_3, rfl⟩ : ∃ z, z = uu := ⟨_, rfl⟩
                try dsimp only at hq
                subst hq
                have hP : va_P D vwCl ([hO b, cO b (nI n) (nI k), lO b, oQ (cY 2) (b 3) (rr 1) 6, gI (cY 0) (rr 1) 6 fW 6, oQ (cY 3) (b 5) (rr 2) 13, gJ (cY 1) (rr 2) 36 fR1_3 13, oQ (cY 2) (b 2) (rr 0) 6, gI (cY 0) (rr 0) 12 fG 6, sO b, [(cc0, .inl (cY 0, 2, .inl fc))]] : List va_W).flatten H := hP
                have hD : va_D A ([hO b, cO b (nI n) (nI k), lO b, oQ (cY 2) (b 3) (rr 1) 6, gI (cY 0) (rr 1) 6 fW 6, oQ (cY 3) (b 5) (rr 2) 13, gJ (cY 1) (rr 2) 36 fR1_3 13, oQ (cY 2) (b 2) (rr 0) 6, gI (cY 0) (rr 0) 12 fG 6, sO b, [(cc0, .inl (cY 0, 2, .inl fc))]] : List va_W).flatten := hD
                refine W.lcmp hx hb dL_areLaws_247 ?_
                refine l_if_ne (tgt := 318) hx hb dL_areLaws_248 (by decide) (fun h248 => ?_) (fun h248 => ?_)
                · -- t
                  exact absurd rfl h248
                · -- f
                  have L288 : ∀ (gR2 : Nat → Nat → Int64), ∀ (H : Heap) (locs : List Loc), va_P D vwCl ([hO b, cO b (nI n) (nI k), lO b, oQ (cY 2) (b 3) (rr 1) 6, gI (cY 0) (rr 1) 6 fW 6, oQ (cY 3) (b 5) (rr 2) 13, gJ (cY 1) (rr 2) 36 gR2 13, oQ (cY 2) (b 2) (rr 0) 6, gI (cY 0) (rr 0) 12 fG 6, sO b, [(cc0, .inl (cY 0, 2, .inl fc))]] : List va_W).flatten H → va_D A ([hO b, cO b (nI n) (nI k), lO b, oQ (cY 2) (b 3) (rr 1) 6, gI (cY 0) (rr 1) 6 fW 6, oQ (cY 3) (b 5) (rr 2) 13, gJ (cY 1) (rr 2) 36 gR2 13, oQ (cY 2) (b 2) (rr 0) 6, gI (cY 0) (rr 0) 12 fG 6, sO b, [(cc0, .inl (cY 0, 2, .inl fc))]] : List va_W).flatten → va_S A s.heap H locs → ∀ (ls : Array Slot), lv_has ls 13 [(0, .ref (b 0)), (1, .int (nI x)), (2, .ref cc0), (3, .int (nI i0)), (4, .int (nI j0)), (5, .int (nI t0)), (6, .int (nI u0)), (7, .long (lN (sm (fun d => PL g n k i0 t0 d) q))), (9, .long (lN (sm (fun d => PL g n k i0 t0 d * PL g n k d u0 j0) q))), (11, .int (nI 1)), (12, .int (nI q))] → W p l e ({ frames := 7, cells := 0, slots := 0, locals := 280 }) s m ([.ref (b 0), .int (nI x), .ref cc0] : List Value).toArray below meth c H locs 0 0 (MQ below (qI (S := (Nat → Nat → Int64)) D cY (fun r uu => r = bI true) (fun uu => [hO b, cO b (nI n) (nI k), lO b, oQ (cY 2) (b 3) (rr 1) 6, gI (cY 0) (rr 1) 6 fW 6, oQ (cY 3) (b 5) (rr 2) 13, gJ (cY 1) (rr 2) 36 uu 13, oQ (cY 2) (b 2) (rr 0) 6, gI (cY 0) (rr 0) 12 fG 6, sO b, [(cc0, .inl (cY 0, 2, .inl fc))]]) A) ([.ref (b 0), .int (nI x), .ref cc0] : List Value).toArray s 0 0 A) (F0 m 288 ls []) := by
                    intro gR2  H locs hP hD hS ls hl
                    refine lv_aload_n hx hb dL_areLaws_288 rfl (lv_at hl 0 rfl) ?_
                    refine lv_iload_n hx hb dL_areLaws_289 rfl (lv_at hl 3 rfl) ?_
                    refine ca_i (CL := [hO b, cO b (nI n) (nI k), sO b, oQ (cY 2) (b 3) (rr 1) 6, gI (cY 0) (rr 1) 6 fW 6]) (va_runV (As := [.int (nI i0)]) (rest := []) ⟨hx, hb, hml, hown, hts⟩ (c_X8_period_ok l D cY H.size b rr n k fW g i0 (by omega) (by omega) (by omega) (by omega) hW (by omega)) (cwV 1 hts gL_areLaws_X8_period rfl rfl rfl (by decide +kernel) ⟨Nat.le_of_ble_eq_true rfl, Nat.le_of_ble_eq_true rfl⟩) (b_preV hVK hP hD [0, 1, 9, 3, 4] rfl rfl 0 rfl rfl) rfl rfl hl.1 rfl (lv_room (Nat.le_of_ble_eq_true rfl)) dL_areLaws_290 ⟨Nat.le_refl _, Nat.le_refl _⟩) hP hD hS hA [0, 1, 9, 3, 4] rfl rfl (fun _ => rfl) (fun r290 uu H locs hq hP hD hS => ?_)
                    subst hq
                    have hP : va_P D vwCl ([hO b, cO b (nI n) (nI k), lO b, oQ (cY 2) (b 3) (rr 1) 6, gI (cY 0) (rr 1) 6 fW 6, oQ (cY 3) (b 5) (rr 2) 13, gJ (cY 1) (rr 2) 36 gR2 13, oQ (cY 2) (b 2) (rr 0) 6, gI (cY 0) (rr 0) 12 fG 6, sO b, [(cc0, .inl (cY 0, 2, .inl fc))]] : List va_W).flatten H := hP
                    have hD : va_D A ([hO b, cO b (nI n) (nI k), lO b, oQ (cY 2) (b 3) (rr 1) 6, gI (cY 0) (rr 1) 6 fW 6, oQ (cY 3) (b 5) (rr 2) 13, gJ (cY 1) (rr 2) 36 gR2 13, oQ (cY 2) (b 2) (rr 0) 6, gI (cY 0) (rr 0) 12 fG 6, sO b, [(cc0, .inl (cY 0, 2, .inl fc))]] : List va_W).flatten := hD
                    have hpl3 : prC g n k i0 ≤ 40 := prC_le hgn hn6 (by omega)
                    refine n_if_gt (tgt := 314) hx hb dL_areLaws_293 (by decide) (by omega) (fun h293 => ?_) (fun h293 => ?_)
                    · -- t
                      refine lv_iconst (v := nI 1) hx hb dL_areLaws_314 (by decide) ?_
                      refine lv_goto (tgt := 319) hx hb dL_areLaws_315 (by decide) ?_
                      refine eqi (x' := bI true) rfl ?_
                      exact r_z hx hb hr hlocks hP hD hS gR2 rfl (rfl) dL_areLaws_319
                    · -- f
                      refine lv_iload hx hb dL_areLaws_296 (lv_at hl 5 rfl) ?_
                      refine n_if_eq (tgt := 314) hx hb dL_areLaws_298 (by decide) (by omega) (fun h298 => ?_) (fun h298 => ?_)
                      · -- t
                        refine lv_iconst (v := nI 1) hx hb dL_areLaws_314 (by decide) ?_
                        refine lv_goto (tgt := 319) hx hb dL_areLaws_315 (by decide) ?_
                        refine eqi (x' := bI true) rfl ?_
                        exact r_z hx hb hr hlocks hP hD hS gR2 rfl (rfl) dL_areLaws_319
                      · -- f
                        refine lv_aload_n hx hb dL_areLaws_301 rfl (lv_at hl 0 rfl) ?_
                        refine lv_iload_n hx hb dL_areLaws_302 rfl (lv_at hl 3 rfl) ?_
                        refine lv_iload hx hb dL_areLaws_303 (lv_at hl 5 rfl) ?_
                        refine lv_iload_n hx hb dL_areLaws_305 rfl (lv_at hl 3 rfl) ?_
                        refine ca_l (CL := [hO b, cO b (nI n) (nI k), lO b, oQ (cY 2) (b 3) (rr 1) 6, gI (cY 0) (rr 1) 6 fW 6, oQ (cY 3) (b 5) (rr 2) 13, gJ (cY 1) (rr 2) 36 gR2 13]) (va_runV (As := [.int (nI i0), .int (nI t0), .int (nI i0)]) (rest := []) ⟨hx, hb, hml, hown, hts⟩ (c_X8_law_ok l D cY H.size b rr n k fW gR2 g i0 t0 i0 (by omega) (by omega) (by omega) (by omega) hW (by omega) (by omega) (by omega)) (cwV 3 hts gL_areLaws_X8_law rfl rfl rfl (by decide +kernel) ⟨Nat.le_of_ble_eq_true rfl, Nat.le_of_ble_eq_true rfl⟩) (b_preV hVK hP hD [0, 1, 2, 3, 4, 5, 6] rfl rfl 0 rfl rfl) rfl rfl hl.1 rfl (lv_room (Nat.le_of_ble_eq_true rfl)) dL_areLaws_306 ⟨Nat.le_refl _, Nat.le_refl _⟩) hP hD hS hA [0, 1, 2, 3, 4, 5, 6] rfl rfl (fun _ => rfl) (fun r306 uu H locs hq hP hD hS => ?_)
                        obtain ⟨fR1_4, rfl⟩ : ∃ z, z = uu := ⟨_, rfl⟩
                        try dsimp only at hq
                        subst hq
                        have hP : va_P D vwCl ([hO b, cO b (nI n) (nI k), lO b, oQ (cY 2) (b 3) (rr 1) 6, gI (cY 0) (rr 1) 6 fW 6, oQ (cY 3) (b 5) (rr 2) 13, gJ (cY 1) (rr 2) 36 fR1_4 13, oQ (cY 2) (b 2) (rr 0) 6, gI (cY 0) (rr 0) 12 fG 6, sO b, [(cc0, .inl (cY 0, 2, .inl fc))]] : List va_W).flatten H := hP
                        have hD : va_D A ([hO b, cO b (nI n) (nI k), lO b, oQ (cY 2) (b 3) (rr 1) 6, gI (cY 0) (rr 1) 6 fW 6, oQ (cY 3) (b 5) (rr 2) 13, gJ (cY 1) (rr 2) 36 fR1_4 13, oQ (cY 2) (b 2) (rr 0) 6, gI (cY 0) (rr 0) 12 fG 6, sO b, [(cc0, .inl (cY 0, 2, .inl fc))]] : List va_W).flatten := hD
                        refine lv_lconst (v := lN 0) hx hb dL_areLaws_309 (by decide) ?_
                        refine W.lcmp hx hb dL_areLaws_310 ?_
                        refine l_if_ne (tgt := 318) hx hb dL_areLaws_311 (by decide) (fun h311 => ?_) (fun h311 => ?_)
                        · -- t
                          exact absurd (per_dvd hgn hn6 (by omega) (by omega) (by omega) (PL_Wk _ _ (fun z => h311 (congrArg lN z)))).1 (by omega)
                        · -- f
                          refine lv_iconst (v := nI 1) hx hb dL_areLaws_314 (by decide) ?_
                          refine lv_goto (tgt := 319) hx hb dL_areLaws_315 (by decide) ?_
                          refine eqi (x' := bI true) rfl ?_
                          exact r_z hx hb hr hlocks hP hD hS fR1_4 rfl (rfl) dL_areLaws_319
                  refine lv_iload hx hb dL_areLaws_251 (lv_at hl 5 rfl) ?_
                  refine n_if_eq (tgt := 288) hx hb dL_areLaws_253 (by decide) (by omega) (fun h253 => ?_) (fun h253 => ?_)
                  · -- t
                    exact L288 fR1_3  _ _ hP hD hS _ (lv_sub hl [0, 1, 2, 3, 4, 5, 6, 7, 8, 9, 10] rfl)
                  · -- f
                    refine lv_aload_n hx hb dL_areLaws_256 rfl (lv_at hl 0 rfl) ?_
                    refine lv_iload_n hx hb dL_areLaws_257 rfl (lv_at hl 3 rfl) ?_
                    refine ca_i (CL := [hO b, cO b (nI n) (nI k), sO b, oQ (cY 2) (b 3) (rr 1) 6, gI (cY 0) (rr 1) 6 fW 6]) (va_runV (As := [.int (nI i0)]) (rest := []) ⟨hx, hb, hml, hown, hts⟩ (c_X8_period_ok l D cY H.size b rr n k fW g i0 (by omega) (by omega) (by omega) (by omega) hW (by omega)) (cwV 1 hts gL_areLaws_X8_period rfl rfl rfl (by decide +kernel) ⟨Nat.le_of_ble_eq_true rfl, Nat.le_of_ble_eq_true rfl⟩) (b_preV hVK hP hD [0, 1, 9, 3, 4] rfl rfl 0 rfl rfl) rfl rfl hl.1 rfl (lv_room (Nat.le_of_ble_eq_true rfl)) dL_areLaws_258 ⟨Nat.le_refl _, Nat.le_refl _⟩) hP hD hS hA [0, 1, 9, 3, 4] rfl rfl (fun _ => rfl) (fun r258 uu H locs hq hP hD hS => ?_)
                    subst hq
                    have hP : va_P D vwCl ([hO b, cO b (nI n) (nI k), lO b, oQ (cY 2) (b 3) (rr 1) 6, gI (cY 0) (rr 1) 6 fW 6, oQ (cY 3) (b 5) (rr 2) 13, gJ (cY 1) (rr 2) 36 fR1_3 13, oQ (cY 2) (b 2) (rr 0) 6, gI (cY 0) (rr 0) 12 fG 6, sO b, [(cc0, .inl (cY 0, 2, .inl fc))]] : List va_W).flatten H := hP
                    have hD : va_D A ([hO b, cO b (nI n) (nI k), lO b, oQ (cY 2) (b 3) (rr 1) 6, gI (cY 0) (rr 1) 6 fW 6, oQ (cY 3) (b 5) (rr 2) 13, gJ (cY 1) (rr 2) 36 fR1_3 13, oQ (cY 2) (b 2) (rr 0) 6, gI (cY 0) (rr 0) 12 fG 6, sO b, [(cc0, .inl (cY 0, 2, .inl fc))]] : List va_W).flatten := hD
                    have hpl : prC g n k i0 ≤ 40 := prC_le hgn hn6 (by omega)
                    refine n_if_eq (tgt := 288) hx hb dL_areLaws_261 (by decide) (by omega) (fun h261 => ?_) (fun h261 => ?_)
                    · -- t
                      exact L288 fR1_3  _ _ hP hD hS _ (lv_sub hl [0, 1, 2, 3, 4, 5, 6, 7, 8, 9, 10] rfl)
                    · -- f
                      refine lv_aload_n hx hb dL_areLaws_264 rfl (lv_at hl 0 rfl) ?_
                      refine lv_iload_n hx hb dL_areLaws_265 rfl (lv_at hl 3 rfl) ?_
                      refine lv_iload hx hb dL_areLaws_266 (lv_at hl 5 rfl) ?_
                      refine lv_iload_n hx hb dL_areLaws_268 rfl (lv_at hl 3 rfl) ?_
                      refine ca_l (CL := [hO b, cO b (nI n) (nI k), lO b, oQ (cY 2) (b 3) (rr 1) 6, gI (cY 0) (rr 1) 6 fW 6, oQ (cY 3) (b 5) (rr 2) 13, gJ (cY 1) (rr 2) 36 fR1_3 13]) (va_runV (As := [.int (nI i0), .int (nI t0), .int (nI i0)]) (rest := []) ⟨hx, hb, hml, hown, hts⟩ (c_X8_law_ok l D cY H.size b rr n k fW fR1_3 g i0 t0 i0 (by omega) (by omega) (by omega) (by omega) hW (by omega) (by omega) (by omega)) (cwV 3 hts gL_areLaws_X8_law rfl rfl rfl (by decide +kernel) ⟨Nat.le_of_ble_eq_true rfl, Nat.le_of_ble_eq_true rfl⟩) (b_preV hVK hP hD [0, 1, 2, 3, 4, 5, 6] rfl rfl 0 rfl rfl) rfl rfl hl.1 rfl (lv_room (Nat.le_of_ble_eq_true rfl)) dL_areLaws_269 ⟨Nat.le_refl _, Nat.le_refl _⟩) hP hD hS hA [0, 1, 2, 3, 4, 5, 6] rfl rfl (fun _ => rfl) (fun r269 uu H locs hq hP hD hS => ?_)
                      obtain ⟨fR1_5, rfl⟩ : ∃ z, z = uu := ⟨_, rfl⟩
                      try dsimp only at hq
                      subst hq
                      have hP : va_P D vwCl ([hO b, cO b (nI n) (nI k), lO b, oQ (cY 2) (b 3) (rr 1) 6, gI (cY 0) (rr 1) 6 fW 6, oQ (cY 3) (b 5) (rr 2) 13, gJ (cY 1) (rr 2) 36 fR1_5 13, oQ (cY 2) (b 2) (rr 0) 6, gI (cY 0) (rr 0) 12 fG 6, sO b, [(cc0, .inl (cY 0, 2, .inl fc))]] : List va_W).flatten H := hP
                      have hD : va_D A ([hO b, cO b (nI n) (nI k), lO b, oQ (cY 2) (b 3) (rr 1) 6, gI (cY 0) (rr 1) 6 fW 6, oQ (cY 3) (b 5) (rr 2) 13, gJ (cY 1) (rr 2) 36 fR1_5 13, oQ (cY 2) (b 2) (rr 0) 6, gI (cY 0) (rr 0) 12 fG 6, sO b, [(cc0, .inl (cY 0, 2, .inl fc))]] : List va_W).flatten := hD
                      refine lv_lconst (v := lN 0) hx hb dL_areLaws_272 (by decide) ?_
                      refine W.lcmp hx hb dL_areLaws_273 ?_
                      refine l_if_eq (tgt := 288) hx hb dL_areLaws_274 (by decide) (fun h274 => ?_) (fun h274 => ?_)
                      · -- t
                        exact L288 fR1_5  _ _ hP hD hS _ (lv_sub hl [0, 1, 2, 3, 4, 5, 6, 7, 8, 9, 10] rfl)
                      · -- f
                        refine lv_iload hx hb dL_areLaws_277 (lv_at hl 5 rfl) ?_
                        refine lv_aload_n hx hb dL_areLaws_279 rfl (lv_at hl 0 rfl) ?_
                        refine lv_iload_n hx hb dL_areLaws_280 rfl (lv_at hl 3 rfl) ?_
                        refine ca_i (CL := [hO b, cO b (nI n) (nI k), sO b, oQ (cY 2) (b 3) (rr 1) 6, gI (cY 0) (rr 1) 6 fW 6]) (va_runV (As := [.int (nI i0)]) (rest := [.int (nI t0)]) ⟨hx, hb, hml, hown, hts⟩ (c_X8_period_ok l D cY H.size b rr n k fW g i0 (by omega) (by omega) (by omega) (by omega) hW (by omega)) (cwV 1 hts gL_areLaws_X8_period rfl rfl rfl (by decide +kernel) ⟨Nat.le_of_ble_eq_true rfl, Nat.le_of_ble_eq_true rfl⟩) (b_preV hVK hP hD [0, 1, 9, 3, 4] rfl rfl 0 rfl rfl) rfl rfl hl.1 rfl (lv_room (Nat.le_of_ble_eq_true rfl)) dL_areLaws_281 ⟨Nat.le_refl _, Nat.le_refl _⟩) hP hD hS hA [0, 1, 9, 3, 4] rfl rfl (fun _ => rfl) (fun r281 uu H locs hq hP hD hS => ?_)
                        subst hq
                        have hP : va_P D vwCl ([hO b, cO b (nI n) (nI k), lO b, oQ (cY 2) (b 3) (rr 1) 6, gI (cY 0) (rr 1) 6 fW 6, oQ (cY 3) (b 5) (rr 2) 13, gJ (cY 1) (rr 2) 36 fR1_5 13, oQ (cY 2) (b 2) (rr 0) 6, gI (cY 0) (rr 0) 12 fG 6, sO b, [(cc0, .inl (cY 0, 2, .inl fc))]] : List va_W).flatten H := hP
                        have hD : va_D A ([hO b, cO b (nI n) (nI k), lO b, oQ (cY 2) (b 3) (rr 1) 6, gI (cY 0) (rr 1) 6 fW 6, oQ (cY 3) (b 5) (rr 2) 13, gJ (cY 1) (rr 2) 36 fR1_5 13, oQ (cY 2) (b 2) (rr 0) 6, gI (cY 0) (rr 0) 12 fG 6, sO b, [(cc0, .inl (cY 0, 2, .inl fc))]] : List va_W).flatten := hD
                        have hmq := Nat.mod_lt t0 (show 0 < prC g n k i0 by omega)
                        have hpl2 : prC g n k i0 ≤ 40 := prC_le hgn hn6 (by omega)
                        refine lv_irem hx hb dL_areLaws_284 (nI_ne0 (by omega) (by omega)) ?_
                        refine eqi (x' := nI (t0 % (prC g n k i0))) (pk_rem (by omega) (by omega) (by omega)) ?_
                        refine n_if_ne (tgt := 318) hx hb dL_areLaws_285 (by decide) (by omega) (fun h285 => ?_) (fun h285 => ?_)
                        · -- t
                          exact absurd (Nat.mod_eq_zero_of_dvd (per_dvd hgn hn6 (by omega) (by omega) (by omega) (PL_Wk _ _ (fun z => h274 (congrArg lN z)))).2) h285
                        · -- f
                          exact L288 fR1_5  _ _ hP hD hS _ (lv_sub hl [0, 1, 2, 3, 4, 5, 6, 7, 8, 9, 10] rfl)
          · -- f
            refine lv_lload hx hb dL_areLaws_131 (lv_at hl 7 rfl) ?_
            refine lv_aload_n hx hb dL_areLaws_133 rfl (lv_at hl 0 rfl) ?_
            refine lv_iload_n hx hb dL_areLaws_134 rfl (lv_at hl 3 rfl) ?_
            refine lv_iload hx hb dL_areLaws_135 (lv_at hl 5 rfl) ?_
            refine lv_iload hx hb dL_areLaws_137 (lv_at hl 10 rfl) ?_
            refine ca_l (CL := [hO b, cO b (nI n) (nI k), lO b, oQ (cY 2) (b 3) (rr 1) 6, gI (cY 0) (rr 1) 6 fW 6, oQ (cY 3) (b 5) (rr 2) 13, gJ (cY 1) (rr 2) 36 gR 13]) (va_runV (As := [.int (nI i0), .int (nI t0), .int (nI q)]) (rest := [.long (lN (sm (fun d => PL g n k i0 t0 d) q))]) ⟨hx, hb, hml, hown, hts⟩ (c_X8_law_ok l D cY H.size b rr n k fW gR g i0 t0 q (by omega) (by omega) (by omega) (by omega) hW (by omega) (by omega) (by omega)) (cwV 3 hts gL_areLaws_X8_law rfl rfl rfl (by decide +kernel) ⟨Nat.le_of_ble_eq_true rfl, Nat.le_of_ble_eq_true rfl⟩) (b_preV hVK hP hD [0, 1, 2, 3, 4, 5, 6] rfl rfl 0 rfl rfl) rfl rfl hl.1 rfl (lv_room (Nat.le_of_ble_eq_true rfl)) dL_areLaws_139 ⟨Nat.le_refl _, Nat.le_refl _⟩) hP hD hS hA [0, 1, 2, 3, 4, 5, 6] rfl rfl (fun _ => rfl) (fun r139 uu H locs hq hP hD hS => ?_)
            obtain ⟨fR1_6, rfl⟩ : ∃ z, z = uu := ⟨_, rfl⟩
            try dsimp only at hq
            subst hq
            have hP : va_P D vwCl ([hO b, cO b (nI n) (nI k), lO b, oQ (cY 2) (b 3) (rr 1) 6, gI (cY 0) (rr 1) 6 fW 6, oQ (cY 3) (b 5) (rr 2) 13, gJ (cY 1) (rr 2) 36 fR1_6 13, oQ (cY 2) (b 2) (rr 0) 6, gI (cY 0) (rr 0) 12 fG 6, sO b, [(cc0, .inl (cY 0, 2, .inl fc))]] : List va_W).flatten H := hP
            have hD : va_D A ([hO b, cO b (nI n) (nI k), lO b, oQ (cY 2) (b 3) (rr 1) 6, gI (cY 0) (rr 1) 6 fW 6, oQ (cY 3) (b 5) (rr 2) 13, gJ (cY 1) (rr 2) 36 fR1_6 13, oQ (cY 2) (b 2) (rr 0) 6, gI (cY 0) (rr 0) 12 fG 6, sO b, [(cc0, .inl (cY 0, 2, .inl fc))]] : List va_W).flatten := hD
            refine lv_ladd hx hb dL_areLaws_142 ?_
            refine eql (x' := lN (sm (fun d => PL g n k i0 t0 d) q + PL g n k i0 t0 q)) (lN_add _ _) ?_
            refine lv_lstore (lv' := [(7, .long (lN (sm (fun d => PL g n k i0 t0 d) q + PL g n k i0 t0 q))), (0, .ref (b 0)), (1, .int (nI x)), (2, .ref cc0), (3, .int (nI i0)), (4, .int (nI j0)), (5, .int (nI t0)), (6, .int (nI u0)), (9, .long (lN (sm (fun d => PL g n k i0 t0 d * PL g n k d u0 j0) q))), (11, .int (nI 1)), (12, .int (nI q))]) hx hb dL_areLaws_143 hl (by decide) rfl (fun ls hl => ?_)
            refine lv_lload hx hb dL_areLaws_145 (lv_at hl 8 rfl) ?_
            refine lv_aload_n hx hb dL_areLaws_147 rfl (lv_at hl 1 rfl) ?_
            refine lv_iload_n hx hb dL_areLaws_148 rfl (lv_at hl 4 rfl) ?_
            refine lv_iload hx hb dL_areLaws_149 (lv_at hl 6 rfl) ?_
            refine lv_iload hx hb dL_areLaws_151 (lv_at hl 10 rfl) ?_
            refine ca_l (CL := [hO b, cO b (nI n) (nI k), lO b, oQ (cY 2) (b 3) (rr 1) 6, gI (cY 0) (rr 1) 6 fW 6, oQ (cY 3) (b 5) (rr 2) 13, gJ (cY 1) (rr 2) 36 fR1_6 13]) (va_runV (As := [.int (nI i0), .int (nI t0), .int (nI q)]) (rest := [.long (lN (sm (fun d => PL g n k i0 t0 d * PL g n k d u0 j0) q))]) ⟨hx, hb, hml, hown, hts⟩ (c_X8_law_ok l D cY H.size b rr n k fW fR1_6 g i0 t0 q (by omega) (by omega) (by omega) (by omega) hW (by omega) (by omega) (by omega)) (cwV 3 hts gL_areLaws_X8_law rfl rfl rfl (by decide +kernel) ⟨Nat.le_of_ble_eq_true rfl, Nat.le_of_ble_eq_true rfl⟩) (b_preV hVK hP hD [0, 1, 2, 3, 4, 5, 6] rfl rfl 0 rfl rfl) rfl rfl hl.1 rfl (lv_room (Nat.le_of_ble_eq_true rfl)) dL_areLaws_153 ⟨Nat.le_refl _, Nat.le_refl _⟩) hP hD hS hA [0, 1, 2, 3, 4, 5, 6] rfl rfl (fun _ => rfl) (fun r153 uu H locs hq hP hD hS => ?_)
            obtain ⟨fR1_7, rfl⟩ : ∃ z, z = uu := ⟨_, rfl⟩
            try dsimp only at hq
            subst hq
            have hP : va_P D vwCl ([hO b, cO b (nI n) (nI k), lO b, oQ (cY 2) (b 3) (rr 1) 6, gI (cY 0) (rr 1) 6 fW 6, oQ (cY 3) (b 5) (rr 2) 13, gJ (cY 1) (rr 2) 36 fR1_7 13, oQ (cY 2) (b 2) (rr 0) 6, gI (cY 0) (rr 0) 12 fG 6, sO b, [(cc0, .inl (cY 0, 2, .inl fc))]] : List va_W).flatten H := hP
            have hD : va_D A ([hO b, cO b (nI n) (nI k), lO b, oQ (cY 2) (b 3) (rr 1) 6, gI (cY 0) (rr 1) 6 fW 6, oQ (cY 3) (b 5) (rr 2) 13, gJ (cY 1) (rr 2) 36 fR1_7 13, oQ (cY 2) (b 2) (rr 0) 6, gI (cY 0) (rr 0) 12 fG 6, sO b, [(cc0, .inl (cY 0, 2, .inl fc))]] : List va_W).flatten := hD
            refine lv_aload_n hx hb dL_areLaws_156 rfl (lv_at hl 1 rfl) ?_
            refine lv_iload hx hb dL_areLaws_157 (lv_at hl 10 rfl) ?_
            refine lv_iload hx hb dL_areLaws_159 (lv_at hl 7 rfl) ?_
            refine lv_iload hx hb dL_areLaws_161 (lv_at hl 5 rfl) ?_
            refine ca_l (CL := [hO b, cO b (nI n) (nI k), lO b, oQ (cY 2) (b 3) (rr 1) 6, gI (cY 0) (rr 1) 6 fW 6, oQ (cY 3) (b 5) (rr 2) 13, gJ (cY 1) (rr 2) 36 fR1_7 13]) (va_runV (As := [.int (nI q), .int (nI u0), .int (nI j0)]) (rest := [.long (lN (PL g n k i0 t0 q)), .long (lN (sm (fun d => PL g n k i0 t0 d * PL g n k d u0 j0) q))]) ⟨hx, hb, hml, hown, hts⟩ (c_X8_law_ok l D cY H.size b rr n k fW fR1_7 g q u0 j0 (by omega) (by omega) (by omega) (by omega) hW (by omega) (by omega) (by omega)) (cwV 3 hts gL_areLaws_X8_law rfl rfl rfl (by decide +kernel) ⟨Nat.le_of_ble_eq_true rfl, Nat.le_of_ble_eq_true rfl⟩) (b_preV hVK hP hD [0, 1, 2, 3, 4, 5, 6] rfl rfl 0 rfl rfl) rfl rfl hl.1 rfl (lv_room (Nat.le_of_ble_eq_true rfl)) dL_areLaws_163 ⟨Nat.le_refl _, Nat.le_refl _⟩) hP hD hS hA [0, 1, 2, 3, 4, 5, 6] rfl rfl (fun _ => rfl) (fun r163 uu H locs hq hP hD hS => ?_)
            obtain ⟨fR1_8, rfl⟩ : ∃ z, z = uu := ⟨_, rfl⟩
            try dsimp only at hq
            subst hq
            have hP : va_P D vwCl ([hO b, cO b (nI n) (nI k), lO b, oQ (cY 2) (b 3) (rr 1) 6, gI (cY 0) (rr 1) 6 fW 6, oQ (cY 3) (b 5) (rr 2) 13, gJ (cY 1) (rr 2) 36 fR1_8 13, oQ (cY 2) (b 2) (rr 0) 6, gI (cY 0) (rr 0) 12 fG 6, sO b, [(cc0, .inl (cY 0, 2, .inl fc))]] : List va_W).flatten H := hP
            have hD : va_D A ([hO b, cO b (nI n) (nI k), lO b, oQ (cY 2) (b 3) (rr 1) 6, gI (cY 0) (rr 1) 6 fW 6, oQ (cY 3) (b 5) (rr 2) 13, gJ (cY 1) (rr 2) 36 fR1_8 13, oQ (cY 2) (b 2) (rr 0) 6, gI (cY 0) (rr 0) 12 fG 6, sO b, [(cc0, .inl (cY 0, 2, .inl fc))]] : List va_W).flatten := hD
            refine lv_lmul hx hb dL_areLaws_166 ?_
            refine eql (x' := lN ((PL g n k i0 t0 q) * (PL g n k q u0 j0))) (lN_mul _ _) ?_
            refine lv_ladd hx hb dL_areLaws_167 ?_
            refine eql (x' := lN (sm (fun d => PL g n k i0 t0 d * PL g n k d u0 j0) q + (PL g n k i0 t0 q) * (PL g n k q u0 j0))) (lN_add _ _) ?_
            refine lv_lstore (lv' := [(9, .long (lN (sm (fun d => PL g n k i0 t0 d * PL g n k d u0 j0) q + (PL g n k i0 t0 q) * (PL g n k q u0 j0)))), (7, .long (lN (sm (fun d => PL g n k i0 t0 d) q + PL g n k i0 t0 q))), (0, .ref (b 0)), (1, .int (nI x)), (2, .ref cc0), (3, .int (nI i0)), (4, .int (nI j0)), (5, .int (nI t0)), (6, .int (nI u0)), (11, .int (nI 1)), (12, .int (nI q))]) hx hb dL_areLaws_168 hl (by decide) rfl (fun ls hl => ?_)
            refine lv_iload hx hb dL_areLaws_170 (lv_at hl 9 rfl) ?_
            refine n_if_eq (tgt := 207) hx hb dL_areLaws_172 (by decide) (by omega) (fun h172 => ?_) (fun h172 => ?_)
            · -- t
              exact absurd h172 (by decide)
            · -- f
              refine lv_aload_n hx hb dL_areLaws_175 rfl (lv_at hl 2 rfl) ?_
              refine lv_iload_n hx hb dL_areLaws_176 rfl (lv_at hl 5 rfl) ?_
              refine lv_iload hx hb dL_areLaws_177 (lv_at hl 7 rfl) ?_
              refine lv_iload hx hb dL_areLaws_179 (lv_at hl 10 rfl) ?_
              refine ca_l (CL := [hO b, cO b (nI n) (nI k), lO b, oQ (cY 2) (b 3) (rr 1) 6, gI (cY 0) (rr 1) 6 fW 6, oQ (cY 3) (b 5) (rr 2) 13, gJ (cY 1) (rr 2) 36 fR1_8 13]) (va_runV (As := [.int (nI i0), .int (nI t0), .int (nI q)]) (rest := []) ⟨hx, hb, hml, hown, hts⟩ (c_X8_law_ok l D cY H.size b rr n k fW fR1_8 g i0 t0 q (by omega) (by omega) (by omega) (by omega) hW (by omega) (by omega) (by omega)) (cwV 3 hts gL_areLaws_X8_law rfl rfl rfl (by decide +kernel) ⟨Nat.le_of_ble_eq_true rfl, Nat.le_of_ble_eq_true rfl⟩) (b_preV hVK hP hD [0, 1, 2, 3, 4, 5, 6] rfl rfl 0 rfl rfl) rfl rfl hl.1 rfl (lv_room (Nat.le_of_ble_eq_true rfl)) dL_areLaws_181 ⟨Nat.le_refl _, Nat.le_refl _⟩) hP hD hS hA [0, 1, 2, 3, 4, 5, 6] rfl rfl (fun _ => rfl) (fun r181 uu H locs hq hP hD hS => ?_)
              obtain ⟨fR1_9, rfl⟩ : ∃ z, z = uu := ⟨_, rfl⟩
              try dsimp only at hq
              subst hq
              have hP : va_P D vwCl ([hO b, cO b (nI n) (nI k), lO b, oQ (cY 2) (b 3) (rr 1) 6, gI (cY 0) (rr 1) 6 fW 6, oQ (cY 3) (b 5) (rr 2) 13, gJ (cY 1) (rr 2) 36 fR1_9 13, oQ (cY 2) (b 2) (rr 0) 6, gI (cY 0) (rr 0) 12 fG 6, sO b, [(cc0, .inl (cY 0, 2, .inl fc))]] : List va_W).flatten H := hP
              have hD : va_D A ([hO b, cO b (nI n) (nI k), lO b, oQ (cY 2) (b 3) (rr 1) 6, gI (cY 0) (rr 1) 6 fW 6, oQ (cY 3) (b 5) (rr 2) 13, gJ (cY 1) (rr 2) 36 fR1_9 13, oQ (cY 2) (b 2) (rr 0) 6, gI (cY 0) (rr 0) 12 fG 6, sO b, [(cc0, .inl (cY 0, 2, .inl fc))]] : List va_W).flatten := hD
              refine lv_lconst (v := lN 0) hx hb dL_areLaws_184 (by decide) ?_
              refine W.lcmp hx hb dL_areLaws_185 ?_
              refine l_if_eq (tgt := 203) hx hb dL_areLaws_186 (by decide) (fun h186 => ?_) (fun h186 => ?_)
              · -- t
                refine lv_iconst (v := nI 1) hx hb dL_areLaws_203 (by decide) ?_
                refine lv_goto (tgt := 208) hx hb dL_areLaws_204 (by decide) ?_
                refine lv_istore (lv' := [(11, .int (nI 1)), (9, .long (lN (sm (fun d => PL g n k i0 t0 d * PL g n k d u0 j0) q + (PL g n k i0 t0 q) * (PL g n k q u0 j0)))), (7, .long (lN (sm (fun d => PL g n k i0 t0 d) q + PL g n k i0 t0 q))), (0, .ref (b 0)), (1, .int (nI x)), (2, .ref cc0), (3, .int (nI i0)), (4, .int (nI j0)), (5, .int (nI t0)), (6, .int (nI u0)), (12, .int (nI q))]) hx hb dL_areLaws_208 hl (by decide) rfl (fun ls hl => ?_)
                refine lv_iinc (v := nI (q + 1)) (lv' := [(12, .int (nI (q + 1))), (11, .int (nI 1)), (9, .long (lN (sm (fun d => PL g n k i0 t0 d * PL g n k d u0 j0) q + (PL g n k i0 t0 q) * (PL g n k q u0 j0)))), (7, .long (lN (sm (fun d => PL g n k i0 t0 d) q + PL g n k i0 t0 q))), (0, .ref (b 0)), (1, .int (nI x)), (2, .ref cc0), (3, .int (nI i0)), (4, .int (nI j0)), (5, .int (nI t0)), (6, .int (nI u0))]) hx hb dL_areLaws_210 hl (k := 10) rfl (nI_1 q) (by decide) rfl (fun ls hl => ?_)
                refine lv_goto (tgt := 123) hx hb dL_areLaws_213 (by decide) ?_
                exact ih123 (by omega) fR1_9  _ _ hP hD hS _ (lv_sub hl [4, 5, 6, 7, 8, 9, 10, 3, 2, 1, 0] rfl)
              · -- f
                refine lv_aload_n hx hb dL_areLaws_189 rfl (lv_at hl 2 rfl) ?_
                refine lv_iload_n hx hb dL_areLaws_190 rfl (lv_at hl 5 rfl) ?_
                refine ca_i (CL := [hO b, cO b (nI n) (nI k), sO b, oQ (cY 2) (b 3) (rr 1) 6, gI (cY 0) (rr 1) 6 fW 6]) (va_runV (As := [.int (nI i0)]) (rest := []) ⟨hx, hb, hml, hown, hts⟩ (c_X8_reach_ok l D cY H.size b rr n k fW g i0 (by omega) (by omega) (by omega) (by omega) hW (by omega)) (cwV 1 hts gL_areLaws_X8_reach rfl rfl rfl (by decide +kernel) ⟨Nat.le_of_ble_eq_true rfl, Nat.le_of_ble_eq_true rfl⟩) (b_preV hVK hP hD [0, 1, 9, 3, 4] rfl rfl 0 rfl rfl) rfl rfl hl.1 rfl (lv_room (Nat.le_of_ble_eq_true rfl)) dL_areLaws_191 ⟨Nat.le_refl _, Nat.le_refl _⟩) hP hD hS hA [0, 1, 9, 3, 4] rfl rfl (fun _ => rfl) (fun r191 uu H locs hq hP hD hS => ?_)
                subst hq
                have hP : va_P D vwCl ([hO b, cO b (nI n) (nI k), lO b, oQ (cY 2) (b 3) (rr 1) 6, gI (cY 0) (rr 1) 6 fW 6, oQ (cY 3) (b 5) (rr 2) 13, gJ (cY 1) (rr 2) 36 fR1_9 13, oQ (cY 2) (b 2) (rr 0) 6, gI (cY 0) (rr 0) 12 fG 6, sO b, [(cc0, .inl (cY 0, 2, .inl fc))]] : List va_W).flatten H := hP
                have hD : va_D A ([hO b, cO b (nI n) (nI k), lO b, oQ (cY 2) (b 3) (rr 1) 6, gI (cY 0) (rr 1) 6 fW 6, oQ (cY 3) (b 5) (rr 2) 13, gJ (cY 1) (rr 2) 36 fR1_9 13, oQ (cY 2) (b 2) (rr 0) 6, gI (cY 0) (rr 0) 12 fG 6, sO b, [(cc0, .inl (cY 0, 2, .inl fc))]] : List va_W).flatten := hD
                have hrl : rcA g n k i0 (n - 1) < 64 := rcA_lt hn6 (by omega) _
                have hbit : (rcA g n k i0 (n - 1)).testBit q = true := (rc_iff hgn hn6 (by omega)).mpr ⟨_, PL_Wk _ _ (fun z => h186 (congrArg lN z))⟩
                refine lv_iload hx hb dL_areLaws_194 (lv_at hl 10 rfl) ?_
                refine lv_ishr hx hb dL_areLaws_196 ?_
                refine eqi (x' := nI ((rcA g n k i0 (n - 1)) / 2 ^ q)) (nI_shr (by omega) (by omega)) ?_
                refine lv_iconst (v := nI 1) hx hb dL_areLaws_197 (by decide) ?_
                refine lv_iand hx hb dL_areLaws_198 ?_
                refine eqi (x' := nI (((rcA g n k i0 (n - 1)) / 2 ^ q) &&& 1)) (nI_and _ _) ?_
                refine eqi (x' := nI 1) (congrArg nI (sb_of hbit)) ?_
                refine lv_iconst (v := nI 1) hx hb dL_areLaws_199 (by decide) ?_
                refine n_icmp_ne (tgt := 207) hx hb dL_areLaws_200 (by decide) (by omega) (by omega) (fun h200 => ?_) (fun h200 => ?_)
                · -- t
                  exact absurd rfl h200
                · -- f
                  refine lv_iconst (v := nI 1) hx hb dL_areLaws_203 (by decide) ?_
                  refine lv_goto (tgt := 208) hx hb dL_areLaws_204 (by decide) ?_
                  refine lv_istore (lv' := [(11, .int (nI 1)), (9, .long (lN (sm (fun d => PL g n k i0 t0 d * PL g n k d u0 j0) q + (PL g n k i0 t0 q) * (PL g n k q u0 j0)))), (7, .long (lN (sm (fun d => PL g n k i0 t0 d) q + PL g n k i0 t0 q))), (0, .ref (b 0)), (1, .int (nI x)), (2, .ref cc0), (3, .int (nI i0)), (4, .int (nI j0)), (5, .int (nI t0)), (6, .int (nI u0)), (12, .int (nI q))]) hx hb dL_areLaws_208 hl (by decide) rfl (fun ls hl => ?_)
                  refine lv_iinc (v := nI (q + 1)) (lv' := [(12, .int (nI (q + 1))), (11, .int (nI 1)), (9, .long (lN (sm (fun d => PL g n k i0 t0 d * PL g n k d u0 j0) q + (PL g n k i0 t0 q) * (PL g n k q u0 j0)))), (7, .long (lN (sm (fun d => PL g n k i0 t0 d) q + PL g n k i0 t0 q))), (0, .ref (b 0)), (1, .int (nI x)), (2, .ref cc0), (3, .int (nI i0)), (4, .int (nI j0)), (5, .int (nI t0)), (6, .int (nI u0))]) hx hb dL_areLaws_210 hl (k := 10) rfl (nI_1 q) (by decide) rfl (fun ls hl => ?_)
                  refine lv_goto (tgt := 123) hx hb dL_areLaws_213 (by decide) ?_
                  exact ih123 (by omega) fR1_9  _ _ hP hD hS _ (lv_sub hl [4, 5, 6, 7, 8, 9, 10, 3, 2, 1, 0] rfl)
        exact L123 0 (by omega) fR1_2  _ _ hP hD hS _ (lv_sub hl [8, 9, 10, 7, 6, 5, 4, 3, 2, 1, 0] rfl)

