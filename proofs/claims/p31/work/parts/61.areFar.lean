set_option maxHeartbeats 4000000 in
set_option maxRecDepth 100000 in
theorem c_L_areFar (l : Launch) (D : va_G) (cY : Nat → ClassId) (sz : Nat) (b : Nat → Nat) (rr : Nat → Nat → Nat) (n : Nat) (k : Nat) (fW : Nat → Nat → Int32) (fR : Nat → Nat → Int64) (fG : Nat → Nat → Int32) (fA : Nat → Nat → Int64) (fS : Nat → Nat → Int64) (fH : Nat → Nat → Int64) (g : Nat → Nat → Nat) (cc0 : Nat) (fc : Nat → Int32) (x : Nat) (hn1 : 1 ≤ n) (hn6 : n ≤ 6) (hk1 : 1 ≤ k) (hk12 : k ≤ 12) (hcn : fc 0 = nI n) (hck : fc 1 = nI k) (hG : ∀ i j, i < n → j < k → fG i j = nI (g i j)) (hgn : ∀ i j, i < n → j < k → g i j < n) (hW : ∀ i j, i < n → j < n → fW i j = nI (cnt (g i) j k)) (hx30 : x < 1073741824) : Met l yL_areFar wsL_areFar ({ frames := 5, cells := 0, slots := 0, locals := 200 }) (cP D cY [.ref (b 0), .int (nI x), .ref cc0] [hO b, cO b (nI n) (nI k), lO b, oQ (cY 2) (b 3) (rr 1) 6, gI (cY 0) (rr 1) 6 fW 6, oQ (cY 3) (b 5) (rr 2) 13, gJ (cY 1) (rr 2) 36 fR 13, kO b, oQ (cY 2) (b 2) (rr 0) 6, gI (cY 0) (rr 0) 12 fG 6, oQ (cY 3) (b 8) (rr 4) 13, gJ (cY 1) (rr 4) 36 fA 13, oQ (cY 3) (b 9) (rr 5) 13, gJ (cY 1) (rr 5) 64 fS 13, oQ (cY 3) (b 6) (rr 3) 13, gJ (cY 1) (rr 3) 6 fH 13, sO b, [(cc0, .inl (cY 0, 2, .inl fc))]] sz) (qI (S := (Nat → Nat → Int64) × (Nat → Nat → Int64) × (Nat → Nat → Int64) × (Nat → Nat → Int64)) D cY (fun r uu => r = bI true) (fun uu => [hO b, cO b (nI n) (nI k), lO b, oQ (cY 2) (b 3) (rr 1) 6, gI (cY 0) (rr 1) 6 fW 6, oQ (cY 3) (b 5) (rr 2) 13, gJ (cY 1) (rr 2) 36 uu.1 13, kO b, oQ (cY 2) (b 2) (rr 0) 6, gI (cY 0) (rr 0) 12 fG 6, oQ (cY 3) (b 8) (rr 4) 13, gJ (cY 1) (rr 4) 36 uu.2.1 13, oQ (cY 3) (b 9) (rr 5) 13, gJ (cY 1) (rr 5) 64 uu.2.2.1 13, oQ (cY 3) (b 6) (rr 3) 13, gJ (cY 1) (rr 3) 6 uu.2.2.2 13, sO b, [(cc0, .inl (cY 0, 2, .inl fc))]]) (va_A ([hO b, cO b (nI n) (nI k), lO b, oQ (cY 2) (b 3) (rr 1) 6, gI (cY 0) (rr 1) 6 fW 6, oQ (cY 3) (b 5) (rr 2) 13, gJ (cY 1) (rr 2) 36 fR 13, kO b, oQ (cY 2) (b 2) (rr 0) 6, gI (cY 0) (rr 0) 12 fG 6, oQ (cY 3) (b 8) (rr 4) 13, gJ (cY 1) (rr 4) 36 fA 13, oQ (cY 3) (b 9) (rr 5) 13, gJ (cY 1) (rr 5) 64 fS 13, oQ (cY 3) (b 6) (rr 3) 13, gJ (cY 1) (rr 3) 6 fH 13, sO b, [(cc0, .inl (cY 0, 2, .inl fc))]] : List va_W).flatten sz)) 0 0 (va_A ([hO b, cO b (nI n) (nI k), lO b, oQ (cY 2) (b 3) (rr 1) 6, gI (cY 0) (rr 1) 6 fW 6, oQ (cY 3) (b 5) (rr 2) 13, gJ (cY 1) (rr 2) 36 fR 13, kO b, oQ (cY 2) (b 2) (rr 0) 6, gI (cY 0) (rr 0) 12 fG 6, oQ (cY 3) (b 8) (rr 4) 13, gJ (cY 1) (rr 4) 36 fA 13, oQ (cY 3) (b 9) (rr 5) 13, gJ (cY 1) (rr 5) 64 fS 13, oQ (cY 3) (b 6) (rr 3) 13, gJ (cY 1) (rr 3) 6 fH 13, sO b, [(cc0, .inl (cY 0, 2, .inl fc))]] : List va_W).flatten sz) := by
  refine mtB (Qc := fun A => qI (S := (Nat → Nat → Int64) × (Nat → Nat → Int64) × (Nat → Nat → Int64) × (Nat → Nat → Int64)) D cY (fun r uu => r = bI true) (fun uu => [hO b, cO b (nI n) (nI k), lO b, oQ (cY 2) (b 3) (rr 1) 6, gI (cY 0) (rr 1) 6 fW 6, oQ (cY 3) (b 5) (rr 2) 13, gJ (cY 1) (rr 2) 36 uu.1 13, kO b, oQ (cY 2) (b 2) (rr 0) 6, gI (cY 0) (rr 0) 12 fG 6, oQ (cY 3) (b 8) (rr 4) 13, gJ (cY 1) (rr 4) 36 uu.2.1 13, oQ (cY 3) (b 9) (rr 5) 13, gJ (cY 1) (rr 5) 64 uu.2.2.1 13, oQ (cY 3) (b 6) (rr 3) 13, gJ (cY 1) (rr 3) 6 uu.2.2.2 13, sO b, [(cc0, .inl (cY 0, 2, .inl fc))]]) A) (cc := cL_areFar) (maxL := 17) (ret := (some .boolean)) (by decide) rfl (Nat.le_of_ble_eq_true rfl) ?_
  intro p e s m below meth c A ls hx hb hr hml hts hown hlocks hnm hsz hP hK hVK hD hS hA hl
  have hown : s.vm.findClass RL = some m.cls := hown
  have hl : lv_has ls 17 [(0, .ref (b 0)), (1, .int (nI x)), (2, .ref cc0)] := hl
  have hP : va_P D vwCl ([hO b, cO b (nI n) (nI k), lO b, oQ (cY 2) (b 3) (rr 1) 6, gI (cY 0) (rr 1) 6 fW 6, oQ (cY 3) (b 5) (rr 2) 13, gJ (cY 1) (rr 2) 36 fR 13, kO b, oQ (cY 2) (b 2) (rr 0) 6, gI (cY 0) (rr 0) 12 fG 6, oQ (cY 3) (b 8) (rr 4) 13, gJ (cY 1) (rr 4) 36 fA 13, oQ (cY 3) (b 9) (rr 5) 13, gJ (cY 1) (rr 5) 64 fS 13, oQ (cY 3) (b 6) (rr 3) 13, gJ (cY 1) (rr 3) 6 fH 13, sO b, [(cc0, .inl (cY 0, 2, .inl fc))]] : List va_W).flatten s.heap := hP
  have hD : va_D A ([hO b, cO b (nI n) (nI k), lO b, oQ (cY 2) (b 3) (rr 1) 6, gI (cY 0) (rr 1) 6 fW 6, oQ (cY 3) (b 5) (rr 2) 13, gJ (cY 1) (rr 2) 36 fR 13, kO b, oQ (cY 2) (b 2) (rr 0) 6, gI (cY 0) (rr 0) 12 fG 6, oQ (cY 3) (b 8) (rr 4) 13, gJ (cY 1) (rr 4) 36 fA 13, oQ (cY 3) (b 9) (rr 5) 13, gJ (cY 1) (rr 5) 64 fS 13, oQ (cY 3) (b 6) (rr 3) 13, gJ (cY 1) (rr 3) 6 fH 13, sO b, [(cc0, .inl (cY 0, 2, .inl fc))]] : List va_W).flatten := hD
  refine lv_iload_n hx hb dL_areFar_0 rfl (lv_at hl 1 rfl) ?_
  refine lv_aload_n hx hb dL_areFar_1 rfl (lv_at hl 2 rfl) ?_
  refine lv_iconst (v := nI 0) hx hb dL_areFar_2 (by decide) ?_
  refine b_iald hx hb hK hP 17 0 rfl rfl (by omega) (by decide) dL_areFar_3 ?_
  refine eqi (x' := nI n) (hcn) ?_
  refine lv_irem hx hb dL_areFar_4 (nI_ne0 (by omega) (by omega)) ?_
  refine eqi (x' := nI (x % n)) (pk_rem (by omega) (by omega) (by omega)) ?_
  obtain ⟨i0, ei0⟩ : ∃ q, q = x % n := ⟨_, rfl⟩
  have hi0 : i0 < n := by rw [ei0]; exact Nat.mod_lt _ (by omega)
  refine eqi (x' := nI i0) (congrArg nI ei0.symm) ?_
  refine lv_istore_n (lv' := [(3, .int (nI i0)), (0, .ref (b 0)), (1, .int (nI x)), (2, .ref cc0)]) hx hb dL_areFar_5 rfl hl (by decide) rfl (fun ls hl => ?_)
  refine lv_iload_n hx hb dL_areFar_6 rfl (lv_at hl 2 rfl) ?_
  refine lv_bipush (v := nI 6) hx hb dL_areFar_7 (by decide) ?_
  refine lv_idiv hx hb dL_areFar_9 (nI_ne0 (by omega) (by omega)) ?_
  refine eqi (x' := nI (x / 6)) (pk_div (by omega) (by omega) (by omega)) ?_
  refine lv_aload_n hx hb dL_areFar_10 rfl (lv_at hl 3 rfl) ?_
  refine lv_iconst (v := nI 0) hx hb dL_areFar_11 (by decide) ?_
  refine b_iald hx hb hK hP 17 0 rfl rfl (by omega) (by decide) dL_areFar_12 ?_
  refine eqi (x' := nI n) (hcn) ?_
  refine lv_irem hx hb dL_areFar_13 (nI_ne0 (by omega) (by omega)) ?_
  refine eqi (x' := nI ((x / 6) % n)) (pk_rem (by omega) (by omega) (by omega)) ?_
  obtain ⟨j0, ej0⟩ : ∃ q, q = x / 6 % n := ⟨_, rfl⟩
  have hj0 : j0 < n := by rw [ej0]; exact Nat.mod_lt _ (by omega)
  refine eqi (x' := nI j0) (congrArg nI ej0.symm) ?_
  refine lv_istore (lv' := [(4, .int (nI j0)), (3, .int (nI i0)), (0, .ref (b 0)), (1, .int (nI x)), (2, .ref cc0)]) hx hb dL_areFar_14 hl (by decide) rfl (fun ls hl => ?_)
  refine lv_iload_n hx hb dL_areFar_16 rfl (lv_at hl 3 rfl) ?_
  refine lv_bipush (v := nI 36) hx hb dL_areFar_17 (by decide) ?_
  refine lv_idiv hx hb dL_areFar_19 (nI_ne0 (by omega) (by omega)) ?_
  refine eqi (x' := nI (x / 36)) (pk_div (by omega) (by omega) (by omega)) ?_
  refine lv_bipush (v := nI 12) hx hb dL_areFar_20 (by decide) ?_
  refine lv_irem hx hb dL_areFar_22 (nI_ne0 (by omega) (by omega)) ?_
  refine eqi (x' := nI ((x / 36) % 12)) (pk_rem (by omega) (by omega) (by omega)) ?_
  obtain ⟨t0, et0⟩ : ∃ q, q = x / 36 % 12 := ⟨_, rfl⟩
  have ht0 : t0 < 12 := by omega
  refine eqi (x' := nI t0) (congrArg nI et0.symm) ?_
  refine lv_istore (lv' := [(5, .int (nI t0)), (4, .int (nI j0)), (3, .int (nI i0)), (0, .ref (b 0)), (1, .int (nI x)), (2, .ref cc0)]) hx hb dL_areFar_23 hl (by decide) rfl (fun ls hl => ?_)
  refine lv_iload_n hx hb dL_areFar_25 rfl (lv_at hl 4 rfl) ?_
  refine lv_sipush (v := nI 432) hx hb dL_areFar_26 (by decide) ?_
  refine lv_idiv hx hb dL_areFar_29 (nI_ne0 (by omega) (by omega)) ?_
  refine eqi (x' := nI (x / 432)) (pk_div (by omega) (by omega) (by omega)) ?_
  refine lv_aload_n hx hb dL_areFar_30 rfl (lv_at hl 5 rfl) ?_
  refine lv_iconst (v := nI 0) hx hb dL_areFar_31 (by decide) ?_
  refine b_iald hx hb hK hP 17 0 rfl rfl (by omega) (by decide) dL_areFar_32 ?_
  refine eqi (x' := nI n) (hcn) ?_
  refine lv_irem hx hb dL_areFar_33 (nI_ne0 (by omega) (by omega)) ?_
  refine eqi (x' := nI ((x / 432) % n)) (pk_rem (by omega) (by omega) (by omega)) ?_
  obtain ⟨d0, ed0⟩ : ∃ q, q = x / 432 % n := ⟨_, rfl⟩
  have hd0 : d0 < n := by rw [ed0]; exact Nat.mod_lt _ (by omega)
  refine eqi (x' := nI d0) (congrArg nI ed0.symm) ?_
  have hp0 : k ^ t0 ≤ 8916100448256 := pow_b hk12 hk1 (by omega)
  have hp1 : k ^ (t0 + 1) ≤ 8916100448256 := pow_b hk12 hk1 (by omega)
  have hd0 : dst (PL g n k i0 t0) (PL g n k j0 t0) n ≤ k ^ t0 := dst_pow hgn (by omega)
  have ha0 : AB g k t0 i0 j0 ≤ k ^ t0 := AB_le t0 i0 j0
  have hda : dst (PL g n k i0 t0) (PL g n k j0 t0) n ≤ AB g k t0 i0 j0 := dst_AB hgn t0 i0 j0 (by omega) (by omega)
  have hds : dst (PL g n k i0 (t0 + 1)) (PL g n k j0 (t0 + 1)) n ≤ k * dst (PL g n k i0 t0) (PL g n k j0 t0) n := dst_step hgn t0 i0 j0
  have has : AB g k (t0 + 1) i0 j0 ≤ k * AB g k t0 i0 j0 := AB_step t0 i0 j0
  have hm1 : k * dst (PL g n k i0 t0) (PL g n k j0 t0) n ≤ 12 * 8916100448256 := Nat.mul_le_mul hk12 (Nat.le_trans hd0 hp0)
  have hm2 : k * AB g k t0 i0 j0 ≤ 12 * 8916100448256 := Nat.mul_le_mul hk12 (Nat.le_trans ha0 hp0)
  have hst : STg g n k (2 ^ n - 1) t0 + AB g k t0 i0 j0 ≤ k ^ t0 := STg_le hgn hn6 (by omega) (by omega)
  have hs2 : STg g n k (2 ^ n - 1) (t0 + 1) + AB g k (t0 + 1) i0 j0 ≤ k ^ (t0 + 1) := STg_le hgn hn6 (by omega) (by omega)
  have hsu : k * STg g n k (2 ^ n - 1) t0 ≤ STg g n k (2 ^ n - 1) (t0 + 1) := STg_up hgn hn6 t0 _ (all_lt hn6)
  have hb0 : HB g n k j0 t0 i0 ≤ k ^ t0 := HB_le hgn t0 i0 (by omega)
  have hb1 : HB g n k j0 (t0 + 1) i0 ≤ k ^ (t0 + 1) := HB_le hgn (t0 + 1) i0 (by omega)
  have hbp : PL g n k i0 t0 j0 ≤ HB g n k j0 t0 i0 := HB_PL hgn (by omega) t0 i0 (by omega)
  have hbu : k * HB g n k j0 t0 i0 ≤ HB g n k j0 (t0 + 1) i0 := HB_up t0 i0
  refine lv_istore (lv' := [(6, .int (nI d0)), (5, .int (nI t0)), (4, .int (nI j0)), (3, .int (nI i0)), (0, .ref (b 0)), (1, .int (nI x)), (2, .ref cc0)]) hx hb dL_areFar_34 hl (by decide) rfl (fun ls hl => ?_)
  refine lv_aload_n hx hb dL_areFar_36 rfl (lv_at hl 4 rfl) ?_
  refine lv_iload_n hx hb dL_areFar_37 rfl (lv_at hl 3 rfl) ?_
  refine lv_iload hx hb dL_areFar_38 (lv_at hl 2 rfl) ?_
  refine lv_iload hx hb dL_areFar_40 (lv_at hl 1 rfl) ?_
  refine ca_l (CL := [hO b, cO b (nI n) (nI k), lO b, oQ (cY 2) (b 3) (rr 1) 6, gI (cY 0) (rr 1) 6 fW 6, oQ (cY 3) (b 5) (rr 2) 13, gJ (cY 1) (rr 2) 36 fR 13]) (va_runV (As := [.int (nI i0), .int (nI j0), .int (nI t0)]) (rest := []) ⟨hx, hb, hml, hown, hts⟩ (c_X8_distance_ok l D cY s.heap.size b rr n k fW fR g i0 j0 t0 (by omega) (by omega) (by omega) (by omega) hgn hW (by omega) (by omega) (by omega)) (cwV 3 hts gL_areFar_X8_distance rfl rfl rfl (by decide +kernel) ⟨Nat.le_of_ble_eq_true rfl, Nat.le_of_ble_eq_true rfl⟩) (b_preV hVK hP hD [0, 1, 2, 3, 4, 5, 6] rfl rfl 0 rfl rfl) rfl rfl hl.1 rfl (lv_room (Nat.le_of_ble_eq_true rfl)) dL_areFar_42 ⟨Nat.le_refl _, Nat.le_refl _⟩) hP hD hS hA [0, 1, 2, 3, 4, 5, 6] rfl rfl (fun _ => rfl) (fun r42 uu H locs hq hP hD hS => ?_)
  obtain ⟨fR1_1, rfl⟩ : ∃ z, z = uu := ⟨_, rfl⟩
  try dsimp only at hq
  subst hq
  have hP : va_P D vwCl ([hO b, cO b (nI n) (nI k), lO b, oQ (cY 2) (b 3) (rr 1) 6, gI (cY 0) (rr 1) 6 fW 6, oQ (cY 3) (b 5) (rr 2) 13, gJ (cY 1) (rr 2) 36 fR1_1 13, kO b, oQ (cY 2) (b 2) (rr 0) 6, gI (cY 0) (rr 0) 12 fG 6, oQ (cY 3) (b 8) (rr 4) 13, gJ (cY 1) (rr 4) 36 fA 13, oQ (cY 3) (b 9) (rr 5) 13, gJ (cY 1) (rr 5) 64 fS 13, oQ (cY 3) (b 6) (rr 3) 13, gJ (cY 1) (rr 3) 6 fH 13, sO b, [(cc0, .inl (cY 0, 2, .inl fc))]] : List va_W).flatten H := hP
  have hD : va_D A ([hO b, cO b (nI n) (nI k), lO b, oQ (cY 2) (b 3) (rr 1) 6, gI (cY 0) (rr 1) 6 fW 6, oQ (cY 3) (b 5) (rr 2) 13, gJ (cY 1) (rr 2) 36 fR1_1 13, kO b, oQ (cY 2) (b 2) (rr 0) 6, gI (cY 0) (rr 0) 12 fG 6, oQ (cY 3) (b 8) (rr 4) 13, gJ (cY 1) (rr 4) 36 fA 13, oQ (cY 3) (b 9) (rr 5) 13, gJ (cY 1) (rr 5) 64 fS 13, oQ (cY 3) (b 6) (rr 3) 13, gJ (cY 1) (rr 3) 6 fH 13, sO b, [(cc0, .inl (cY 0, 2, .inl fc))]] : List va_W).flatten := hD
  refine lv_lstore (lv' := [(7, .long (lN (dst (PL g n k i0 t0) (PL g n k j0 t0) n))), (6, .int (nI d0)), (5, .int (nI t0)), (4, .int (nI j0)), (3, .int (nI i0)), (0, .ref (b 0)), (1, .int (nI x)), (2, .ref cc0)]) hx hb dL_areFar_45 hl (by decide) rfl (fun ls hl => ?_)
  refine lv_aload_n hx hb dL_areFar_47 rfl (lv_at hl 5 rfl) ?_
  refine lv_iload_n hx hb dL_areFar_48 rfl (lv_at hl 4 rfl) ?_
  refine lv_iload hx hb dL_areFar_49 (lv_at hl 3 rfl) ?_
  refine lv_iload hx hb dL_areFar_51 (lv_at hl 2 rfl) ?_
  refine ca_l (CL := [hO b, cO b (nI n) (nI k), kO b, oQ (cY 2) (b 2) (rr 0) 6, gI (cY 0) (rr 0) 12 fG 6, oQ (cY 3) (b 8) (rr 4) 13, gJ (cY 1) (rr 4) 36 fA 13]) (va_runV (As := [.int (nI i0), .int (nI j0), .int (nI t0)]) (rest := []) ⟨hx, hb, hml, hown, hts⟩ (c_X8_apart_ok l D cY H.size b rr n k fG fA g i0 j0 t0 (by omega) (by omega) (by omega) (by omega) hG hgn (by omega) (by omega) (by omega)) (cwV 3 hts gL_areFar_X8_apart rfl rfl rfl (by decide +kernel) ⟨Nat.le_of_ble_eq_true rfl, Nat.le_of_ble_eq_true rfl⟩) (b_preV hVK hP hD [0, 1, 7, 8, 9, 10, 11] rfl rfl 0 rfl rfl) rfl rfl hl.1 rfl (lv_room (Nat.le_of_ble_eq_true rfl)) dL_areFar_53 ⟨Nat.le_refl _, Nat.le_refl _⟩) hP hD hS hA [0, 1, 7, 8, 9, 10, 11] rfl rfl (fun _ => rfl) (fun r53 uu H locs hq hP hD hS => ?_)
  obtain ⟨fA1_2, rfl⟩ : ∃ z, z = uu := ⟨_, rfl⟩
  try dsimp only at hq
  subst hq
  have hP : va_P D vwCl ([hO b, cO b (nI n) (nI k), lO b, oQ (cY 2) (b 3) (rr 1) 6, gI (cY 0) (rr 1) 6 fW 6, oQ (cY 3) (b 5) (rr 2) 13, gJ (cY 1) (rr 2) 36 fR1_1 13, kO b, oQ (cY 2) (b 2) (rr 0) 6, gI (cY 0) (rr 0) 12 fG 6, oQ (cY 3) (b 8) (rr 4) 13, gJ (cY 1) (rr 4) 36 fA1_2 13, oQ (cY 3) (b 9) (rr 5) 13, gJ (cY 1) (rr 5) 64 fS 13, oQ (cY 3) (b 6) (rr 3) 13, gJ (cY 1) (rr 3) 6 fH 13, sO b, [(cc0, .inl (cY 0, 2, .inl fc))]] : List va_W).flatten H := hP
  have hD : va_D A ([hO b, cO b (nI n) (nI k), lO b, oQ (cY 2) (b 3) (rr 1) 6, gI (cY 0) (rr 1) 6 fW 6, oQ (cY 3) (b 5) (rr 2) 13, gJ (cY 1) (rr 2) 36 fR1_1 13, kO b, oQ (cY 2) (b 2) (rr 0) 6, gI (cY 0) (rr 0) 12 fG 6, oQ (cY 3) (b 8) (rr 4) 13, gJ (cY 1) (rr 4) 36 fA1_2 13, oQ (cY 3) (b 9) (rr 5) 13, gJ (cY 1) (rr 5) 64 fS 13, oQ (cY 3) (b 6) (rr 3) 13, gJ (cY 1) (rr 3) 6 fH 13, sO b, [(cc0, .inl (cY 0, 2, .inl fc))]] : List va_W).flatten := hD
  refine lv_lstore (lv' := [(9, .long (lN (AB g k t0 i0 j0))), (7, .long (lN (dst (PL g n k i0 t0) (PL g n k j0 t0) n))), (6, .int (nI d0)), (5, .int (nI t0)), (4, .int (nI j0)), (3, .int (nI i0)), (0, .ref (b 0)), (1, .int (nI x)), (2, .ref cc0)]) hx hb dL_areFar_56 hl (by decide) rfl (fun ls hl => ?_)
  refine lv_lload hx hb dL_areFar_58 (lv_at hl 1 rfl) ?_
  refine lv_lconst (v := lN 0) hx hb dL_areFar_60 (by decide) ?_
  refine W.lcmp hx hb dL_areFar_61 ?_
  refine l_if_lt (tgt := 202) hx hb dL_areFar_62 (by decide) (fun h62 => ?_) (fun h62 => ?_)
  · -- t
    exact absurd ((pk_lLT (by omega) (by omega)).mp h62) (by omega)
  · -- f
    refine lv_lload hx hb dL_areFar_65 (lv_at hl 1 rfl) ?_
    refine lv_lload hx hb dL_areFar_67 (lv_at hl 0 rfl) ?_
    refine W.lcmp hx hb dL_areFar_69 ?_
    refine l_if_gt (tgt := 202) hx hb dL_areFar_70 (by decide) (fun h70 => ?_) (fun h70 => ?_)
    · -- t
      exact absurd ((pk_lLT (by omega) (by omega)).mp h70) (by omega)
    · -- f
      refine lv_lload hx hb dL_areFar_73 (lv_at hl 0 rfl) ?_
      refine lv_aload_n hx hb dL_areFar_75 rfl (lv_at hl 6 rfl) ?_
      refine lv_iload hx hb dL_areFar_76 (lv_at hl 3 rfl) ?_
      refine ca_l (CL := [hO b, cO b (nI n) (nI k)]) (va_runV (As := [.int (nI t0)]) (rest := [.long (lN (AB g k t0 i0 j0))]) ⟨hx, hb, hml, hown, hts⟩ (c_X8_words_ok l D cY H.size b n k g t0 (by omega) (by omega) (by omega) (by omega) (by omega)) (cwV 1 hts gL_areFar_X8_words rfl rfl rfl (by decide +kernel) ⟨Nat.le_of_ble_eq_true rfl, Nat.le_of_ble_eq_true rfl⟩) (b_preV hVK hP hD [0, 1] rfl rfl 0 rfl rfl) rfl rfl hl.1 rfl (lv_room (Nat.le_of_ble_eq_true rfl)) dL_areFar_78 ⟨Nat.le_refl _, Nat.le_refl _⟩) hP hD hS hA [0, 1] rfl rfl (fun _ => rfl) (fun r78 uu H locs hq hP hD hS => ?_)
      subst hq
      have hP : va_P D vwCl ([hO b, cO b (nI n) (nI k), lO b, oQ (cY 2) (b 3) (rr 1) 6, gI (cY 0) (rr 1) 6 fW 6, oQ (cY 3) (b 5) (rr 2) 13, gJ (cY 1) (rr 2) 36 fR1_1 13, kO b, oQ (cY 2) (b 2) (rr 0) 6, gI (cY 0) (rr 0) 12 fG 6, oQ (cY 3) (b 8) (rr 4) 13, gJ (cY 1) (rr 4) 36 fA1_2 13, oQ (cY 3) (b 9) (rr 5) 13, gJ (cY 1) (rr 5) 64 fS 13, oQ (cY 3) (b 6) (rr 3) 13, gJ (cY 1) (rr 3) 6 fH 13, sO b, [(cc0, .inl (cY 0, 2, .inl fc))]] : List va_W).flatten H := hP
      have hD : va_D A ([hO b, cO b (nI n) (nI k), lO b, oQ (cY 2) (b 3) (rr 1) 6, gI (cY 0) (rr 1) 6 fW 6, oQ (cY 3) (b 5) (rr 2) 13, gJ (cY 1) (rr 2) 36 fR1_1 13, kO b, oQ (cY 2) (b 2) (rr 0) 6, gI (cY 0) (rr 0) 12 fG 6, oQ (cY 3) (b 8) (rr 4) 13, gJ (cY 1) (rr 4) 36 fA1_2 13, oQ (cY 3) (b 9) (rr 5) 13, gJ (cY 1) (rr 5) 64 fS 13, oQ (cY 3) (b 6) (rr 3) 13, gJ (cY 1) (rr 3) 6 fH 13, sO b, [(cc0, .inl (cY 0, 2, .inl fc))]] : List va_W).flatten := hD
      refine W.lcmp hx hb dL_areFar_81 ?_
      refine l_if_gt (tgt := 202) hx hb dL_areFar_82 (by decide) (fun h82 => ?_) (fun h82 => ?_)
      · -- t
        exact absurd ((pk_lLT (by omega) (by omega)).mp h82) (by omega)
      · -- f
        refine lv_lload hx hb dL_areFar_85 (lv_at hl 1 rfl) ?_
        refine lv_aload_n hx hb dL_areFar_87 rfl (lv_at hl 6 rfl) ?_
        refine lv_iload hx hb dL_areFar_88 (lv_at hl 4 rfl) ?_
        refine lv_iload_n hx hb dL_areFar_90 rfl (lv_at hl 5 rfl) ?_
        refine lv_iload hx hb dL_areFar_91 (lv_at hl 3 rfl) ?_
        refine ca_l (CL := [hO b, cO b (nI n) (nI k), lO b, oQ (cY 2) (b 3) (rr 1) 6, gI (cY 0) (rr 1) 6 fW 6, oQ (cY 3) (b 5) (rr 2) 13, gJ (cY 1) (rr 2) 36 fR1_1 13]) (va_runV (As := [.int (nI j0), .int (nI i0), .int (nI t0)]) (rest := [.long (lN (dst (PL g n k i0 t0) (PL g n k j0 t0) n))]) ⟨hx, hb, hml, hown, hts⟩ (c_X8_distance_ok l D cY H.size b rr n k fW fR1_1 g j0 i0 t0 (by omega) (by omega) (by omega) (by omega) hgn hW (by omega) (by omega) (by omega)) (cwV 3 hts gL_areFar_X8_distance rfl rfl rfl (by decide +kernel) ⟨Nat.le_of_ble_eq_true rfl, Nat.le_of_ble_eq_true rfl⟩) (b_preV hVK hP hD [0, 1, 2, 3, 4, 5, 6] rfl rfl 0 rfl rfl) rfl rfl hl.1 rfl (lv_room (Nat.le_of_ble_eq_true rfl)) dL_areFar_93 ⟨Nat.le_refl _, Nat.le_refl _⟩) hP hD hS hA [0, 1, 2, 3, 4, 5, 6] rfl rfl (fun _ => rfl) (fun r93 uu H locs hq hP hD hS => ?_)
        obtain ⟨fR1_3, rfl⟩ : ∃ z, z = uu := ⟨_, rfl⟩
        try dsimp only at hq
        subst hq
        have hP : va_P D vwCl ([hO b, cO b (nI n) (nI k), lO b, oQ (cY 2) (b 3) (rr 1) 6, gI (cY 0) (rr 1) 6 fW 6, oQ (cY 3) (b 5) (rr 2) 13, gJ (cY 1) (rr 2) 36 fR1_3 13, kO b, oQ (cY 2) (b 2) (rr 0) 6, gI (cY 0) (rr 0) 12 fG 6, oQ (cY 3) (b 8) (rr 4) 13, gJ (cY 1) (rr 4) 36 fA1_2 13, oQ (cY 3) (b 9) (rr 5) 13, gJ (cY 1) (rr 5) 64 fS 13, oQ (cY 3) (b 6) (rr 3) 13, gJ (cY 1) (rr 3) 6 fH 13, sO b, [(cc0, .inl (cY 0, 2, .inl fc))]] : List va_W).flatten H := hP
        have hD : va_D A ([hO b, cO b (nI n) (nI k), lO b, oQ (cY 2) (b 3) (rr 1) 6, gI (cY 0) (rr 1) 6 fW 6, oQ (cY 3) (b 5) (rr 2) 13, gJ (cY 1) (rr 2) 36 fR1_3 13, kO b, oQ (cY 2) (b 2) (rr 0) 6, gI (cY 0) (rr 0) 12 fG 6, oQ (cY 3) (b 8) (rr 4) 13, gJ (cY 1) (rr 4) 36 fA1_2 13, oQ (cY 3) (b 9) (rr 5) 13, gJ (cY 1) (rr 5) 64 fS 13, oQ (cY 3) (b 6) (rr 3) 13, gJ (cY 1) (rr 3) 6 fH 13, sO b, [(cc0, .inl (cY 0, 2, .inl fc))]] : List va_W).flatten := hD
        refine eql (x' := lN (dst (PL g n k i0 t0) (PL g n k j0 t0) n)) (congrArg lN (dst_comm hgn (by omega) (by omega))) ?_
        refine W.lcmp hx hb dL_areFar_96 ?_
        refine l_if_ne (tgt := 202) hx hb dL_areFar_97 (by decide) (fun h97 => ?_) (fun h97 => ?_)
        · -- t
          exact absurd rfl h97
        · -- f
          refine lv_lload hx hb dL_areFar_100 (lv_at hl 0 rfl) ?_
          refine lv_aload_n hx hb dL_areFar_102 rfl (lv_at hl 6 rfl) ?_
          refine lv_iload hx hb dL_areFar_103 (lv_at hl 4 rfl) ?_
          refine lv_iload_n hx hb dL_areFar_105 rfl (lv_at hl 5 rfl) ?_
          refine lv_iload hx hb dL_areFar_106 (lv_at hl 3 rfl) ?_
          refine ca_l (CL := [hO b, cO b (nI n) (nI k), kO b, oQ (cY 2) (b 2) (rr 0) 6, gI (cY 0) (rr 0) 12 fG 6, oQ (cY 3) (b 8) (rr 4) 13, gJ (cY 1) (rr 4) 36 fA1_2 13]) (va_runV (As := [.int (nI j0), .int (nI i0), .int (nI t0)]) (rest := [.long (lN (AB g k t0 i0 j0))]) ⟨hx, hb, hml, hown, hts⟩ (c_X8_apart_ok l D cY H.size b rr n k fG fA1_2 g j0 i0 t0 (by omega) (by omega) (by omega) (by omega) hG hgn (by omega) (by omega) (by omega)) (cwV 3 hts gL_areFar_X8_apart rfl rfl rfl (by decide +kernel) ⟨Nat.le_of_ble_eq_true rfl, Nat.le_of_ble_eq_true rfl⟩) (b_preV hVK hP hD [0, 1, 7, 8, 9, 10, 11] rfl rfl 0 rfl rfl) rfl rfl hl.1 rfl (lv_room (Nat.le_of_ble_eq_true rfl)) dL_areFar_108 ⟨Nat.le_refl _, Nat.le_refl _⟩) hP hD hS hA [0, 1, 7, 8, 9, 10, 11] rfl rfl (fun _ => rfl) (fun r108 uu H locs hq hP hD hS => ?_)
          obtain ⟨fA1_4, rfl⟩ : ∃ z, z = uu := ⟨_, rfl⟩
          try dsimp only at hq
          subst hq
          have hP : va_P D vwCl ([hO b, cO b (nI n) (nI k), lO b, oQ (cY 2) (b 3) (rr 1) 6, gI (cY 0) (rr 1) 6 fW 6, oQ (cY 3) (b 5) (rr 2) 13, gJ (cY 1) (rr 2) 36 fR1_3 13, kO b, oQ (cY 2) (b 2) (rr 0) 6, gI (cY 0) (rr 0) 12 fG 6, oQ (cY 3) (b 8) (rr 4) 13, gJ (cY 1) (rr 4) 36 fA1_4 13, oQ (cY 3) (b 9) (rr 5) 13, gJ (cY 1) (rr 5) 64 fS 13, oQ (cY 3) (b 6) (rr 3) 13, gJ (cY 1) (rr 3) 6 fH 13, sO b, [(cc0, .inl (cY 0, 2, .inl fc))]] : List va_W).flatten H := hP
          have hD : va_D A ([hO b, cO b (nI n) (nI k), lO b, oQ (cY 2) (b 3) (rr 1) 6, gI (cY 0) (rr 1) 6 fW 6, oQ (cY 3) (b 5) (rr 2) 13, gJ (cY 1) (rr 2) 36 fR1_3 13, kO b, oQ (cY 2) (b 2) (rr 0) 6, gI (cY 0) (rr 0) 12 fG 6, oQ (cY 3) (b 8) (rr 4) 13, gJ (cY 1) (rr 4) 36 fA1_4 13, oQ (cY 3) (b 9) (rr 5) 13, gJ (cY 1) (rr 5) 64 fS 13, oQ (cY 3) (b 6) (rr 3) 13, gJ (cY 1) (rr 3) 6 fH 13, sO b, [(cc0, .inl (cY 0, 2, .inl fc))]] : List va_W).flatten := hD
          refine eql (x' := lN (AB g k t0 i0 j0)) (congrArg lN (AB_symm t0 j0 i0)) ?_
          refine W.lcmp hx hb dL_areFar_111 ?_
          refine l_if_ne (tgt := 202) hx hb dL_areFar_112 (by decide) (fun h112 => ?_) (fun h112 => ?_)
          · -- t
            exact absurd rfl h112
          · -- f
            refine lv_lload hx hb dL_areFar_115 (lv_at hl 1 rfl) ?_
            refine lv_aload_n hx hb dL_areFar_117 rfl (lv_at hl 6 rfl) ?_
            refine lv_iload_n hx hb dL_areFar_118 rfl (lv_at hl 5 rfl) ?_
            refine lv_iload hx hb dL_areFar_119 (lv_at hl 2 rfl) ?_
            refine lv_iload hx hb dL_areFar_121 (lv_at hl 3 rfl) ?_
            refine ca_l (CL := [hO b, cO b (nI n) (nI k), lO b, oQ (cY 2) (b 3) (rr 1) 6, gI (cY 0) (rr 1) 6 fW 6, oQ (cY 3) (b 5) (rr 2) 13, gJ (cY 1) (rr 2) 36 fR1_3 13]) (va_runV (As := [.int (nI i0), .int (nI d0), .int (nI t0)]) (rest := [.long (lN (dst (PL g n k i0 t0) (PL g n k j0 t0) n))]) ⟨hx, hb, hml, hown, hts⟩ (c_X8_distance_ok l D cY H.size b rr n k fW fR1_3 g i0 d0 t0 (by omega) (by omega) (by omega) (by omega) hgn hW (by omega) (by omega) (by omega)) (cwV 3 hts gL_areFar_X8_distance rfl rfl rfl (by decide +kernel) ⟨Nat.le_of_ble_eq_true rfl, Nat.le_of_ble_eq_true rfl⟩) (b_preV hVK hP hD [0, 1, 2, 3, 4, 5, 6] rfl rfl 0 rfl rfl) rfl rfl hl.1 rfl (lv_room (Nat.le_of_ble_eq_true rfl)) dL_areFar_123 ⟨Nat.le_refl _, Nat.le_refl _⟩) hP hD hS hA [0, 1, 2, 3, 4, 5, 6] rfl rfl (fun _ => rfl) (fun r123 uu H locs hq hP hD hS => ?_)
            obtain ⟨fR1_5, rfl⟩ : ∃ z, z = uu := ⟨_, rfl⟩
            try dsimp only at hq
            subst hq
            have hP : va_P D vwCl ([hO b, cO b (nI n) (nI k), lO b, oQ (cY 2) (b 3) (rr 1) 6, gI (cY 0) (rr 1) 6 fW 6, oQ (cY 3) (b 5) (rr 2) 13, gJ (cY 1) (rr 2) 36 fR1_5 13, kO b, oQ (cY 2) (b 2) (rr 0) 6, gI (cY 0) (rr 0) 12 fG 6, oQ (cY 3) (b 8) (rr 4) 13, gJ (cY 1) (rr 4) 36 fA1_4 13, oQ (cY 3) (b 9) (rr 5) 13, gJ (cY 1) (rr 5) 64 fS 13, oQ (cY 3) (b 6) (rr 3) 13, gJ (cY 1) (rr 3) 6 fH 13, sO b, [(cc0, .inl (cY 0, 2, .inl fc))]] : List va_W).flatten H := hP
            have hD : va_D A ([hO b, cO b (nI n) (nI k), lO b, oQ (cY 2) (b 3) (rr 1) 6, gI (cY 0) (rr 1) 6 fW 6, oQ (cY 3) (b 5) (rr 2) 13, gJ (cY 1) (rr 2) 36 fR1_5 13, kO b, oQ (cY 2) (b 2) (rr 0) 6, gI (cY 0) (rr 0) 12 fG 6, oQ (cY 3) (b 8) (rr 4) 13, gJ (cY 1) (rr 4) 36 fA1_4 13, oQ (cY 3) (b 9) (rr 5) 13, gJ (cY 1) (rr 5) 64 fS 13, oQ (cY 3) (b 6) (rr 3) 13, gJ (cY 1) (rr 3) 6 fH 13, sO b, [(cc0, .inl (cY 0, 2, .inl fc))]] : List va_W).flatten := hD
            refine lv_aload_n hx hb dL_areFar_126 rfl (lv_at hl 6 rfl) ?_
            refine lv_iload hx hb dL_areFar_127 (lv_at hl 2 rfl) ?_
            refine lv_iload hx hb dL_areFar_129 (lv_at hl 4 rfl) ?_
            refine lv_iload hx hb dL_areFar_131 (lv_at hl 3 rfl) ?_
            refine ca_l (CL := [hO b, cO b (nI n) (nI k), lO b, oQ (cY 2) (b 3) (rr 1) 6, gI (cY 0) (rr 1) 6 fW 6, oQ (cY 3) (b 5) (rr 2) 13, gJ (cY 1) (rr 2) 36 fR1_5 13]) (va_runV (As := [.int (nI d0), .int (nI j0), .int (nI t0)]) (rest := [.long (lN (dst (PL g n k i0 t0) (PL g n k d0 t0) n)), .long (lN (dst (PL g n k i0 t0) (PL g n k j0 t0) n))]) ⟨hx, hb, hml, hown, hts⟩ (c_X8_distance_ok l D cY H.size b rr n k fW fR1_5 g d0 j0 t0 (by omega) (by omega) (by omega) (by omega) hgn hW (by omega) (by omega) (by omega)) (cwV 3 hts gL_areFar_X8_distance rfl rfl rfl (by decide +kernel) ⟨Nat.le_of_ble_eq_true rfl, Nat.le_of_ble_eq_true rfl⟩) (b_preV hVK hP hD [0, 1, 2, 3, 4, 5, 6] rfl rfl 0 rfl rfl) rfl rfl hl.1 rfl (lv_room (Nat.le_of_ble_eq_true rfl)) dL_areFar_133 ⟨Nat.le_refl _, Nat.le_refl _⟩) hP hD hS hA [0, 1, 2, 3, 4, 5, 6] rfl rfl (fun _ => rfl) (fun r133 uu H locs hq hP hD hS => ?_)
            obtain ⟨fR1_6, rfl⟩ : ∃ z, z = uu := ⟨_, rfl⟩
            try dsimp only at hq
            subst hq
            have hP : va_P D vwCl ([hO b, cO b (nI n) (nI k), lO b, oQ (cY 2) (b 3) (rr 1) 6, gI (cY 0) (rr 1) 6 fW 6, oQ (cY 3) (b 5) (rr 2) 13, gJ (cY 1) (rr 2) 36 fR1_6 13, kO b, oQ (cY 2) (b 2) (rr 0) 6, gI (cY 0) (rr 0) 12 fG 6, oQ (cY 3) (b 8) (rr 4) 13, gJ (cY 1) (rr 4) 36 fA1_4 13, oQ (cY 3) (b 9) (rr 5) 13, gJ (cY 1) (rr 5) 64 fS 13, oQ (cY 3) (b 6) (rr 3) 13, gJ (cY 1) (rr 3) 6 fH 13, sO b, [(cc0, .inl (cY 0, 2, .inl fc))]] : List va_W).flatten H := hP
            have hD : va_D A ([hO b, cO b (nI n) (nI k), lO b, oQ (cY 2) (b 3) (rr 1) 6, gI (cY 0) (rr 1) 6 fW 6, oQ (cY 3) (b 5) (rr 2) 13, gJ (cY 1) (rr 2) 36 fR1_6 13, kO b, oQ (cY 2) (b 2) (rr 0) 6, gI (cY 0) (rr 0) 12 fG 6, oQ (cY 3) (b 8) (rr 4) 13, gJ (cY 1) (rr 4) 36 fA1_4 13, oQ (cY 3) (b 9) (rr 5) 13, gJ (cY 1) (rr 5) 64 fS 13, oQ (cY 3) (b 6) (rr 3) 13, gJ (cY 1) (rr 3) 6 fH 13, sO b, [(cc0, .inl (cY 0, 2, .inl fc))]] : List va_W).flatten := hD
            refine lv_ladd hx hb dL_areFar_136 ?_
            refine eql (x' := lN (dst (PL g n k i0 t0) (PL g n k d0 t0) n + dst (PL g n k d0 t0) (PL g n k j0 t0) n)) (lN_add _ _) ?_
            refine W.lcmp hx hb dL_areFar_137 ?_
            refine l_if_gt (tgt := 202) hx hb dL_areFar_138 (by decide) (fun h138 => ?_) (fun h138 => ?_)
            · -- t
              have ht1 : dst (PL g n k i0 t0) (PL g n k j0 t0) n ≤ dst (PL g n k i0 t0) (PL g n k d0 t0) n + dst (PL g n k d0 t0) (PL g n k j0 t0) n := dst_tri
              have ht2 : dst (PL g n k i0 t0) (PL g n k d0 t0) n ≤ k ^ t0 := dst_pow hgn (by omega)
              have ht3 : dst (PL g n k d0 t0) (PL g n k j0 t0) n ≤ k ^ t0 := dst_pow hgn (by omega)
              exact absurd ((pk_lLT (by omega) (by omega)).mp h138) (by omega)
            · -- f
              have L154 :  ∀ (H : Heap) (locs : List Loc), va_P D vwCl ([hO b, cO b (nI n) (nI k), lO b, oQ (cY 2) (b 3) (rr 1) 6, gI (cY 0) (rr 1) 6 fW 6, oQ (cY 3) (b 5) (rr 2) 13, gJ (cY 1) (rr 2) 36 fR1_6 13, kO b, oQ (cY 2) (b 2) (rr 0) 6, gI (cY 0) (rr 0) 12 fG 6, oQ (cY 3) (b 8) (rr 4) 13, gJ (cY 1) (rr 4) 36 fA1_4 13, oQ (cY 3) (b 9) (rr 5) 13, gJ (cY 1) (rr 5) 64 fS 13, oQ (cY 3) (b 6) (rr 3) 13, gJ (cY 1) (rr 3) 6 fH 13, sO b, [(cc0, .inl (cY 0, 2, .inl fc))]] : List va_W).flatten H → va_D A ([hO b, cO b (nI n) (nI k), lO b, oQ (cY 2) (b 3) (rr 1) 6, gI (cY 0) (rr 1) 6 fW 6, oQ (cY 3) (b 5) (rr 2) 13, gJ (cY 1) (rr 2) 36 fR1_6 13, kO b, oQ (cY 2) (b 2) (rr 0) 6, gI (cY 0) (rr 0) 12 fG 6, oQ (cY 3) (b 8) (rr 4) 13, gJ (cY 1) (rr 4) 36 fA1_4 13, oQ (cY 3) (b 9) (rr 5) 13, gJ (cY 1) (rr 5) 64 fS 13, oQ (cY 3) (b 6) (rr 3) 13, gJ (cY 1) (rr 3) 6 fH 13, sO b, [(cc0, .inl (cY 0, 2, .inl fc))]] : List va_W).flatten → va_S A s.heap H locs → ∀ (ls : Array Slot), lv_has ls 17 [(0, .ref (b 0)), (1, .int (nI x)), (2, .ref cc0), (3, .int (nI i0)), (4, .int (nI j0)), (5, .int (nI t0)), (6, .int (nI d0)), (7, .long (lN (dst (PL g n k i0 t0) (PL g n k j0 t0) n))), (9, .long (lN (AB g k t0 i0 j0)))] → W p l e ({ frames := 5, cells := 0, slots := 0, locals := 200 }) s m ([.ref (b 0), .int (nI x), .ref cc0] : List Value).toArray below meth c H locs 0 0 (MQ below (qI (S := (Nat → Nat → Int64) × (Nat → Nat → Int64) × (Nat → Nat → Int64) × (Nat → Nat → Int64)) D cY (fun r uu => r = bI true) (fun uu => [hO b, cO b (nI n) (nI k), lO b, oQ (cY 2) (b 3) (rr 1) 6, gI (cY 0) (rr 1) 6 fW 6, oQ (cY 3) (b 5) (rr 2) 13, gJ (cY 1) (rr 2) 36 uu.1 13, kO b, oQ (cY 2) (b 2) (rr 0) 6, gI (cY 0) (rr 0) 12 fG 6, oQ (cY 3) (b 8) (rr 4) 13, gJ (cY 1) (rr 4) 36 uu.2.1 13, oQ (cY 3) (b 9) (rr 5) 13, gJ (cY 1) (rr 5) 64 uu.2.2.1 13, oQ (cY 3) (b 6) (rr 3) 13, gJ (cY 1) (rr 3) 6 uu.2.2.2 13, sO b, [(cc0, .inl (cY 0, 2, .inl fc))]]) A) ([.ref (b 0), .int (nI x), .ref cc0] : List Value).toArray s 0 0 A) (F0 m 154 ls []) := by
                intro   H locs hP hD hS ls hl
                refine lv_aload_n hx hb dL_areFar_154 rfl (lv_at hl 0 rfl) ?_
                refine lv_iload_n hx hb dL_areFar_155 rfl (lv_at hl 3 rfl) ?_
                refine lv_iload hx hb dL_areFar_156 (lv_at hl 4 rfl) ?_
                refine lv_iload hx hb dL_areFar_158 (lv_at hl 5 rfl) ?_
                refine lv_iconst (v := nI 1) hx hb dL_areFar_160 (by decide) ?_
                refine lv_iadd hx hb dL_areFar_161 ?_
                refine eqi (x' := nI (t0 + 1)) (nI_add _ _) ?_
                refine ca_l (CL := [hO b, cO b (nI n) (nI k), lO b, oQ (cY 2) (b 3) (rr 1) 6, gI (cY 0) (rr 1) 6 fW 6, oQ (cY 3) (b 5) (rr 2) 13, gJ (cY 1) (rr 2) 36 fR1_6 13]) (va_runV (As := [.int (nI i0), .int (nI j0), .int (nI (t0 + 1))]) (rest := []) ⟨hx, hb, hml, hown, hts⟩ (c_X8_distance_ok l D cY H.size b rr n k fW fR1_6 g i0 j0 (t0 + 1) (by omega) (by omega) (by omega) (by omega) hgn hW (by omega) (by omega) (by omega)) (cwV 3 hts gL_areFar_X8_distance rfl rfl rfl (by decide +kernel) ⟨Nat.le_of_ble_eq_true rfl, Nat.le_of_ble_eq_true rfl⟩) (b_preV hVK hP hD [0, 1, 2, 3, 4, 5, 6] rfl rfl 0 rfl rfl) rfl rfl hl.1 rfl (lv_room (Nat.le_of_ble_eq_true rfl)) dL_areFar_162 ⟨Nat.le_refl _, Nat.le_refl _⟩) hP hD hS hA [0, 1, 2, 3, 4, 5, 6] rfl rfl (fun _ => rfl) (fun r162 uu H locs hq hP hD hS => ?_)
                obtain ⟨fR1_7, rfl⟩ : ∃ z, z = uu := ⟨_, rfl⟩
                try dsimp only at hq
                subst hq
                have hP : va_P D vwCl ([hO b, cO b (nI n) (nI k), lO b, oQ (cY 2) (b 3) (rr 1) 6, gI (cY 0) (rr 1) 6 fW 6, oQ (cY 3) (b 5) (rr 2) 13, gJ (cY 1) (rr 2) 36 fR1_7 13, kO b, oQ (cY 2) (b 2) (rr 0) 6, gI (cY 0) (rr 0) 12 fG 6, oQ (cY 3) (b 8) (rr 4) 13, gJ (cY 1) (rr 4) 36 fA1_4 13, oQ (cY 3) (b 9) (rr 5) 13, gJ (cY 1) (rr 5) 64 fS 13, oQ (cY 3) (b 6) (rr 3) 13, gJ (cY 1) (rr 3) 6 fH 13, sO b, [(cc0, .inl (cY 0, 2, .inl fc))]] : List va_W).flatten H := hP
                have hD : va_D A ([hO b, cO b (nI n) (nI k), lO b, oQ (cY 2) (b 3) (rr 1) 6, gI (cY 0) (rr 1) 6 fW 6, oQ (cY 3) (b 5) (rr 2) 13, gJ (cY 1) (rr 2) 36 fR1_7 13, kO b, oQ (cY 2) (b 2) (rr 0) 6, gI (cY 0) (rr 0) 12 fG 6, oQ (cY 3) (b 8) (rr 4) 13, gJ (cY 1) (rr 4) 36 fA1_4 13, oQ (cY 3) (b 9) (rr 5) 13, gJ (cY 1) (rr 5) 64 fS 13, oQ (cY 3) (b 6) (rr 3) 13, gJ (cY 1) (rr 3) 6 fH 13, sO b, [(cc0, .inl (cY 0, 2, .inl fc))]] : List va_W).flatten := hD
                refine lv_aload_n hx hb dL_areFar_165 rfl (lv_at hl 2 rfl) ?_
                refine lv_iconst (v := nI 1) hx hb dL_areFar_166 (by decide) ?_
                refine b_iald hx hb hK hP 17 0 rfl rfl (by omega) (by decide) dL_areFar_167 ?_
                refine eqi (x' := nI k) (hck) ?_
                refine lv_i2l (v := lN k) hx hb dL_areFar_168 (nI_l (by omega)) ?_
                refine lv_lload hx hb dL_areFar_169 (lv_at hl 7 rfl) ?_
                refine lv_lmul hx hb dL_areFar_171 ?_
                refine eql (x' := lN (k * (dst (PL g n k i0 t0) (PL g n k j0 t0) n))) (lN_mul _ _) ?_
                refine W.lcmp hx hb dL_areFar_172 ?_
                refine l_if_gt (tgt := 202) hx hb dL_areFar_173 (by decide) (fun h173 => ?_) (fun h173 => ?_)
                · -- t
                  exact absurd ((pk_lLT (by omega) (by omega)).mp h173) (by omega)
                · -- f
                  refine lv_aload_n hx hb dL_areFar_176 rfl (lv_at hl 0 rfl) ?_
                  refine lv_iload_n hx hb dL_areFar_177 rfl (lv_at hl 3 rfl) ?_
                  refine lv_iload hx hb dL_areFar_178 (lv_at hl 4 rfl) ?_
                  refine lv_iload hx hb dL_areFar_180 (lv_at hl 5 rfl) ?_
                  refine lv_iconst (v := nI 1) hx hb dL_areFar_182 (by decide) ?_
                  refine lv_iadd hx hb dL_areFar_183 ?_
                  refine eqi (x' := nI (t0 + 1)) (nI_add _ _) ?_
                  refine ca_l (CL := [hO b, cO b (nI n) (nI k), kO b, oQ (cY 2) (b 2) (rr 0) 6, gI (cY 0) (rr 0) 12 fG 6, oQ (cY 3) (b 8) (rr 4) 13, gJ (cY 1) (rr 4) 36 fA1_4 13]) (va_runV (As := [.int (nI i0), .int (nI j0), .int (nI (t0 + 1))]) (rest := []) ⟨hx, hb, hml, hown, hts⟩ (c_X8_apart_ok l D cY H.size b rr n k fG fA1_4 g i0 j0 (t0 + 1) (by omega) (by omega) (by omega) (by omega) hG hgn (by omega) (by omega) (by omega)) (cwV 3 hts gL_areFar_X8_apart rfl rfl rfl (by decide +kernel) ⟨Nat.le_of_ble_eq_true rfl, Nat.le_of_ble_eq_true rfl⟩) (b_preV hVK hP hD [0, 1, 7, 8, 9, 10, 11] rfl rfl 0 rfl rfl) rfl rfl hl.1 rfl (lv_room (Nat.le_of_ble_eq_true rfl)) dL_areFar_184 ⟨Nat.le_refl _, Nat.le_refl _⟩) hP hD hS hA [0, 1, 7, 8, 9, 10, 11] rfl rfl (fun _ => rfl) (fun r184 uu H locs hq hP hD hS => ?_)
                  obtain ⟨fA1_8, rfl⟩ : ∃ z, z = uu := ⟨_, rfl⟩
                  try dsimp only at hq
                  subst hq
                  have hP : va_P D vwCl ([hO b, cO b (nI n) (nI k), lO b, oQ (cY 2) (b 3) (rr 1) 6, gI (cY 0) (rr 1) 6 fW 6, oQ (cY 3) (b 5) (rr 2) 13, gJ (cY 1) (rr 2) 36 fR1_7 13, kO b, oQ (cY 2) (b 2) (rr 0) 6, gI (cY 0) (rr 0) 12 fG 6, oQ (cY 3) (b 8) (rr 4) 13, gJ (cY 1) (rr 4) 36 fA1_8 13, oQ (cY 3) (b 9) (rr 5) 13, gJ (cY 1) (rr 5) 64 fS 13, oQ (cY 3) (b 6) (rr 3) 13, gJ (cY 1) (rr 3) 6 fH 13, sO b, [(cc0, .inl (cY 0, 2, .inl fc))]] : List va_W).flatten H := hP
                  have hD : va_D A ([hO b, cO b (nI n) (nI k), lO b, oQ (cY 2) (b 3) (rr 1) 6, gI (cY 0) (rr 1) 6 fW 6, oQ (cY 3) (b 5) (rr 2) 13, gJ (cY 1) (rr 2) 36 fR1_7 13, kO b, oQ (cY 2) (b 2) (rr 0) 6, gI (cY 0) (rr 0) 12 fG 6, oQ (cY 3) (b 8) (rr 4) 13, gJ (cY 1) (rr 4) 36 fA1_8 13, oQ (cY 3) (b 9) (rr 5) 13, gJ (cY 1) (rr 5) 64 fS 13, oQ (cY 3) (b 6) (rr 3) 13, gJ (cY 1) (rr 3) 6 fH 13, sO b, [(cc0, .inl (cY 0, 2, .inl fc))]] : List va_W).flatten := hD
                  refine lv_aload_n hx hb dL_areFar_187 rfl (lv_at hl 2 rfl) ?_
                  refine lv_iconst (v := nI 1) hx hb dL_areFar_188 (by decide) ?_
                  refine b_iald hx hb hK hP 17 0 rfl rfl (by omega) (by decide) dL_areFar_189 ?_
                  refine eqi (x' := nI k) (hck) ?_
                  refine lv_i2l (v := lN k) hx hb dL_areFar_190 (nI_l (by omega)) ?_
                  refine lv_lload hx hb dL_areFar_191 (lv_at hl 8 rfl) ?_
                  refine lv_lmul hx hb dL_areFar_193 ?_
                  refine eql (x' := lN (k * (AB g k t0 i0 j0))) (lN_mul _ _) ?_
                  refine W.lcmp hx hb dL_areFar_194 ?_
                  refine l_if_gt (tgt := 202) hx hb dL_areFar_195 (by decide) (fun h195 => ?_) (fun h195 => ?_)
                  · -- t
                    exact absurd ((pk_lLT (by omega) (by omega)).mp h195) (by omega)
                  · -- f
                    refine lv_iconst (v := nI 1) hx hb dL_areFar_198 (by decide) ?_
                    refine lv_goto (tgt := 203) hx hb dL_areFar_199 (by decide) ?_
                    refine lv_istore (lv' := [(11, .int (nI 1)), (0, .ref (b 0)), (1, .int (nI x)), (2, .ref cc0), (3, .int (nI i0)), (4, .int (nI j0)), (5, .int (nI t0)), (6, .int (nI d0)), (7, .long (lN (dst (PL g n k i0 t0) (PL g n k j0 t0) n))), (9, .long (lN (AB g k t0 i0 j0)))]) hx hb dL_areFar_203 hl (by decide) rfl (fun ls hl => ?_)
                    refine lv_lconst (v := lN 0) hx hb dL_areFar_205 (by decide) ?_
                    refine lv_lstore (lv' := [(12, .long (lN 0)), (11, .int (nI 1)), (0, .ref (b 0)), (1, .int (nI x)), (2, .ref cc0), (3, .int (nI i0)), (4, .int (nI j0)), (5, .int (nI t0)), (6, .int (nI d0)), (7, .long (lN (dst (PL g n k i0 t0) (PL g n k j0 t0) n))), (9, .long (lN (AB g k t0 i0 j0)))]) hx hb dL_areFar_206 hl (by decide) rfl (fun ls hl => ?_)
                    refine lv_lconst (v := lN 0) hx hb dL_areFar_208 (by decide) ?_
                    refine lv_lstore (lv' := [(14, .long (lN 0)), (12, .long (lN 0)), (11, .int (nI 1)), (0, .ref (b 0)), (1, .int (nI x)), (2, .ref cc0), (3, .int (nI i0)), (4, .int (nI j0)), (5, .int (nI t0)), (6, .int (nI d0)), (7, .long (lN (dst (PL g n k i0 t0) (PL g n k j0 t0) n))), (9, .long (lN (AB g k t0 i0 j0)))]) hx hb dL_areFar_209 hl (by decide) rfl (fun ls hl => ?_)
                    refine lv_iconst (v := nI 0) hx hb dL_areFar_211 (by decide) ?_
                    refine lv_istore (lv' := [(16, .int (nI 0)), (14, .long (lN 0)), (12, .long (lN 0)), (11, .int (nI 1)), (0, .ref (b 0)), (1, .int (nI x)), (2, .ref cc0), (3, .int (nI i0)), (4, .int (nI j0)), (5, .int (nI t0)), (6, .int (nI d0)), (7, .long (lN (dst (PL g n k i0 t0) (PL g n k j0 t0) n))), (9, .long (lN (AB g k t0 i0 j0)))]) hx hb dL_areFar_212 hl (by decide) rfl (fun ls hl => ?_)
                    have L214 : ∀ q : Nat, q ≤ n → ∀ (gS : Nat → Nat → Int64), ∀ (H : Heap) (locs : List Loc), va_P D vwCl ([hO b, cO b (nI n) (nI k), lO b, oQ (cY 2) (b 3) (rr 1) 6, gI (cY 0) (rr 1) 6 fW 6, oQ (cY 3) (b 5) (rr 2) 13, gJ (cY 1) (rr 2) 36 fR1_7 13, kO b, oQ (cY 2) (b 2) (rr 0) 6, gI (cY 0) (rr 0) 12 fG 6, oQ (cY 3) (b 8) (rr 4) 13, gJ (cY 1) (rr 4) 36 fA1_8 13, oQ (cY 3) (b 9) (rr 5) 13, gJ (cY 1) (rr 5) 64 gS 13, oQ (cY 3) (b 6) (rr 3) 13, gJ (cY 1) (rr 3) 6 fH 13, sO b, [(cc0, .inl (cY 0, 2, .inl fc))]] : List va_W).flatten H → va_D A ([hO b, cO b (nI n) (nI k), lO b, oQ (cY 2) (b 3) (rr 1) 6, gI (cY 0) (rr 1) 6 fW 6, oQ (cY 3) (b 5) (rr 2) 13, gJ (cY 1) (rr 2) 36 fR1_7 13, kO b, oQ (cY 2) (b 2) (rr 0) 6, gI (cY 0) (rr 0) 12 fG 6, oQ (cY 3) (b 8) (rr 4) 13, gJ (cY 1) (rr 4) 36 fA1_8 13, oQ (cY 3) (b 9) (rr 5) 13, gJ (cY 1) (rr 5) 64 gS 13, oQ (cY 3) (b 6) (rr 3) 13, gJ (cY 1) (rr 3) 6 fH 13, sO b, [(cc0, .inl (cY 0, 2, .inl fc))]] : List va_W).flatten → va_S A s.heap H locs → ∀ (ls : Array Slot), lv_has ls 17 [(0, .ref (b 0)), (1, .int (nI x)), (2, .ref cc0), (3, .int (nI i0)), (4, .int (nI j0)), (5, .int (nI t0)), (6, .int (nI d0)), (7, .long (lN (dst (PL g n k i0 t0) (PL g n k j0 t0) n))), (9, .long (lN (AB g k t0 i0 j0))), (11, .int (nI 1)), (12, .long (lN (sm (fun w => PL (ig g n) 64 k (2 ^ n - 1) t0 (2 ^ w)) q))), (14, .long (lN (sm (fun w => PL (ig g n) 64 k (2 ^ n - 1) (t0 + 1) (2 ^ w)) q))), (16, .int (nI q))] → W p l e ({ frames := 5, cells := 0, slots := 0, locals := 200 }) s m ([.ref (b 0), .int (nI x), .ref cc0] : List Value).toArray below meth c H locs 0 0 (MQ below (qI (S := (Nat → Nat → Int64) × (Nat → Nat → Int64) × (Nat → Nat → Int64) × (Nat → Nat → Int64)) D cY (fun r uu => r = bI true) (fun uu => [hO b, cO b (nI n) (nI k), lO b, oQ (cY 2) (b 3) (rr 1) 6, gI (cY 0) (rr 1) 6 fW 6, oQ (cY 3) (b 5) (rr 2) 13, gJ (cY 1) (rr 2) 36 uu.1 13, kO b, oQ (cY 2) (b 2) (rr 0) 6, gI (cY 0) (rr 0) 12 fG 6, oQ (cY 3) (b 8) (rr 4) 13, gJ (cY 1) (rr 4) 36 uu.2.1 13, oQ (cY 3) (b 9) (rr 5) 13, gJ (cY 1) (rr 5) 64 uu.2.2.1 13, oQ (cY 3) (b 6) (rr 3) 13, gJ (cY 1) (rr 3) 6 uu.2.2.2 13, sO b, [(cc0, .inl (cY 0, 2, .inl fc))]]) A) ([.ref (b 0), .int (nI x), .ref cc0] : List Value).toArray s 0 0 A) (F0 m 214 ls []) := by
                      refine lpW n ?_
                      intro q bdq ih214 gS  H locs hP hD hS ls hl
                      refine lv_iload hx hb dL_areFar_214 (lv_at hl 12 rfl) ?_
                      refine lv_aload_n hx hb dL_areFar_216 rfl (lv_at hl 2 rfl) ?_
                      refine lv_iconst (v := nI 0) hx hb dL_areFar_217 (by decide) ?_
                      refine b_iald hx hb hK hP 17 0 rfl rfl (by omega) (by decide) dL_areFar_218 ?_
                      refine eqi (x' := nI n) (hcn) ?_
                      refine n_icmp_ge (tgt := 256) hx hb dL_areFar_219 (by decide) (by omega) (by omega) (fun h219 => ?_) (fun h219 => ?_)
                      · -- t
                        refine lv_iload hx hb dL_areFar_256 (lv_at hl 9 rfl) ?_
                        refine n_if_eq (tgt := 396) hx hb dL_areFar_258 (by decide) (by omega) (fun h258 => ?_) (fun h258 => ?_)
                        · -- t
                          exact absurd h258 (by decide)
                        · -- f
                          refine lv_lload hx hb dL_areFar_261 (lv_at hl 10 rfl) ?_
                          refine eql (x' := lN (STg g n k (2 ^ n - 1) t0)) (congrArg lN (by (have e : q = n := by omega); rw [e]; rfl)) ?_
                          refine lv_aload_n hx hb dL_areFar_263 rfl (lv_at hl 0 rfl) ?_
                          refine lv_iload hx hb dL_areFar_264 (lv_at hl 5 rfl) ?_
                          refine ca_l (CL := [hO b, cO b (nI n) (nI k)]) (va_runV (As := [.int (nI t0)]) (rest := [.long (lN (STg g n k (2 ^ n - 1) t0))]) ⟨hx, hb, hml, hown, hts⟩ (c_X8_words_ok l D cY H.size b n k g t0 (by omega) (by omega) (by omega) (by omega) (by omega)) (cwV 1 hts gL_areFar_X8_words rfl rfl rfl (by decide +kernel) ⟨Nat.le_of_ble_eq_true rfl, Nat.le_of_ble_eq_true rfl⟩) (b_preV hVK hP hD [0, 1] rfl rfl 0 rfl rfl) rfl rfl hl.1 rfl (lv_room (Nat.le_of_ble_eq_true rfl)) dL_areFar_266 ⟨Nat.le_refl _, Nat.le_refl _⟩) hP hD hS hA [0, 1] rfl rfl (fun _ => rfl) (fun r266 uu H locs hq hP hD hS => ?_)
                          subst hq
                          have hP : va_P D vwCl ([hO b, cO b (nI n) (nI k), lO b, oQ (cY 2) (b 3) (rr 1) 6, gI (cY 0) (rr 1) 6 fW 6, oQ (cY 3) (b 5) (rr 2) 13, gJ (cY 1) (rr 2) 36 fR1_7 13, kO b, oQ (cY 2) (b 2) (rr 0) 6, gI (cY 0) (rr 0) 12 fG 6, oQ (cY 3) (b 8) (rr 4) 13, gJ (cY 1) (rr 4) 36 fA1_8 13, oQ (cY 3) (b 9) (rr 5) 13, gJ (cY 1) (rr 5) 64 gS 13, oQ (cY 3) (b 6) (rr 3) 13, gJ (cY 1) (rr 3) 6 fH 13, sO b, [(cc0, .inl (cY 0, 2, .inl fc))]] : List va_W).flatten H := hP
                          have hD : va_D A ([hO b, cO b (nI n) (nI k), lO b, oQ (cY 2) (b 3) (rr 1) 6, gI (cY 0) (rr 1) 6 fW 6, oQ (cY 3) (b 5) (rr 2) 13, gJ (cY 1) (rr 2) 36 fR1_7 13, kO b, oQ (cY 2) (b 2) (rr 0) 6, gI (cY 0) (rr 0) 12 fG 6, oQ (cY 3) (b 8) (rr 4) 13, gJ (cY 1) (rr 4) 36 fA1_8 13, oQ (cY 3) (b 9) (rr 5) 13, gJ (cY 1) (rr 5) 64 gS 13, oQ (cY 3) (b 6) (rr 3) 13, gJ (cY 1) (rr 3) 6 fH 13, sO b, [(cc0, .inl (cY 0, 2, .inl fc))]] : List va_W).flatten := hD
                          refine lv_lload hx hb dL_areFar_269 (lv_at hl 8 rfl) ?_
                          refine lv_lsub hx hb dL_areFar_271 ?_
                          refine eql (x' := lN (k ^ t0 - AB g k t0 i0 j0)) (lN_sub ha0) ?_
                          refine W.lcmp hx hb dL_areFar_272 ?_
                          refine l_if_gt (tgt := 396) hx hb dL_areFar_273 (by decide) (fun h273 => ?_) (fun h273 => ?_)
                          · -- t
                            exact absurd ((pk_lLT (by omega) (by omega)).mp h273) (by omega)
                          · -- f
                            refine lv_lload hx hb dL_areFar_276 (lv_at hl 11 rfl) ?_
                            refine eql (x' := lN (STg g n k (2 ^ n - 1) (t0 + 1))) (congrArg lN (by (have e : q = n := by omega); rw [e]; rfl)) ?_
                            refine lv_aload_n hx hb dL_areFar_278 rfl (lv_at hl 2 rfl) ?_
                            refine lv_iconst (v := nI 1) hx hb dL_areFar_279 (by decide) ?_
                            refine b_iald hx hb hK hP 17 0 rfl rfl (by omega) (by decide) dL_areFar_280 ?_
                            refine eqi (x' := nI k) (hck) ?_
                            refine lv_i2l (v := lN k) hx hb dL_areFar_281 (nI_l (by omega)) ?_
                            refine lv_lload hx hb dL_areFar_282 (lv_at hl 10 rfl) ?_
                            refine eql (x' := lN (STg g n k (2 ^ n - 1) t0)) (congrArg lN (by (have e : q = n := by omega); rw [e]; rfl)) ?_
                            refine lv_lmul hx hb dL_areFar_284 ?_
                            refine eql (x' := lN (k * (STg g n k (2 ^ n - 1) t0))) (lN_mul _ _) ?_
                            refine W.lcmp hx hb dL_areFar_285 ?_
                            refine l_if_lt (tgt := 396) hx hb dL_areFar_286 (by decide) (fun h286 => ?_) (fun h286 => ?_)
                            · -- t
                              exact absurd ((pk_lLT (by omega) (by omega)).mp h286) (by omega)
                            · -- f
                              refine lv_aload_n hx hb dL_areFar_289 rfl (lv_at hl 0 rfl) ?_
                              refine lv_iload_n hx hb dL_areFar_290 rfl (lv_at hl 3 rfl) ?_
                              refine lv_iload hx hb dL_areFar_291 (lv_at hl 5 rfl) ?_
                              refine lv_iload hx hb dL_areFar_293 (lv_at hl 4 rfl) ?_
                              refine ca_l (CL := [hO b, cO b (nI n) (nI k), lO b, oQ (cY 2) (b 3) (rr 1) 6, gI (cY 0) (rr 1) 6 fW 6, oQ (cY 3) (b 6) (rr 3) 13, gJ (cY 1) (rr 3) 6 fH 13]) (va_runV (As := [.int (nI i0), .int (nI t0), .int (nI j0)]) (rest := []) ⟨hx, hb, hml, hown, hts⟩ (c_X8_hits_ok l D cY H.size b rr n k fW fH g i0 t0 j0 (by omega) (by omega) (by omega) (by omega) hW (by omega) (by omega) (by omega)) (cwV 3 hts gL_areFar_X8_hits rfl rfl rfl (by decide +kernel) ⟨Nat.le_of_ble_eq_true rfl, Nat.le_of_ble_eq_true rfl⟩) (b_preV hVK hP hD [0, 1, 2, 3, 4, 14, 15] rfl rfl 0 rfl rfl) rfl rfl hl.1 rfl (lv_room (Nat.le_of_ble_eq_true rfl)) dL_areFar_295 ⟨Nat.le_refl _, Nat.le_refl _⟩) hP hD hS hA [0, 1, 2, 3, 4, 14, 15] rfl rfl (fun _ => rfl) (fun r295 uu H locs hq hP hD hS => ?_)
                              obtain ⟨fH1_9, rfl⟩ : ∃ z, z = uu := ⟨_, rfl⟩
                              try dsimp only at hq
                              subst hq
                              have hP : va_P D vwCl ([hO b, cO b (nI n) (nI k), lO b, oQ (cY 2) (b 3) (rr 1) 6, gI (cY 0) (rr 1) 6 fW 6, oQ (cY 3) (b 5) (rr 2) 13, gJ (cY 1) (rr 2) 36 fR1_7 13, kO b, oQ (cY 2) (b 2) (rr 0) 6, gI (cY 0) (rr 0) 12 fG 6, oQ (cY 3) (b 8) (rr 4) 13, gJ (cY 1) (rr 4) 36 fA1_8 13, oQ (cY 3) (b 9) (rr 5) 13, gJ (cY 1) (rr 5) 64 gS 13, oQ (cY 3) (b 6) (rr 3) 13, gJ (cY 1) (rr 3) 6 fH1_9 13, sO b, [(cc0, .inl (cY 0, 2, .inl fc))]] : List va_W).flatten H := hP
                              have hD : va_D A ([hO b, cO b (nI n) (nI k), lO b, oQ (cY 2) (b 3) (rr 1) 6, gI (cY 0) (rr 1) 6 fW 6, oQ (cY 3) (b 5) (rr 2) 13, gJ (cY 1) (rr 2) 36 fR1_7 13, kO b, oQ (cY 2) (b 2) (rr 0) 6, gI (cY 0) (rr 0) 12 fG 6, oQ (cY 3) (b 8) (rr 4) 13, gJ (cY 1) (rr 4) 36 fA1_8 13, oQ (cY 3) (b 9) (rr 5) 13, gJ (cY 1) (rr 5) 64 gS 13, oQ (cY 3) (b 6) (rr 3) 13, gJ (cY 1) (rr 3) 6 fH1_9 13, sO b, [(cc0, .inl (cY 0, 2, .inl fc))]] : List va_W).flatten := hD
                              refine lv_aload_n hx hb dL_areFar_298 rfl (lv_at hl 0 rfl) ?_
                              refine lv_iload_n hx hb dL_areFar_299 rfl (lv_at hl 3 rfl) ?_
                              refine lv_iload hx hb dL_areFar_300 (lv_at hl 5 rfl) ?_
                              refine lv_iload hx hb dL_areFar_302 (lv_at hl 4 rfl) ?_
                              refine ca_l (CL := [hO b, cO b (nI n) (nI k), lO b, oQ (cY 2) (b 3) (rr 1) 6, gI (cY 0) (rr 1) 6 fW 6, oQ (cY 3) (b 5) (rr 2) 13, gJ (cY 1) (rr 2) 36 fR1_7 13]) (va_runV (As := [.int (nI i0), .int (nI t0), .int (nI j0)]) (rest := [.long (lN (HB g n k j0 t0 i0))]) ⟨hx, hb, hml, hown, hts⟩ (c_X8_law_ok l D cY H.size b rr n k fW fR1_7 g i0 t0 j0 (by omega) (by omega) (by omega) (by omega) hW (by omega) (by omega) (by omega)) (cwV 3 hts gL_areFar_X8_law rfl rfl rfl (by decide +kernel) ⟨Nat.le_of_ble_eq_true rfl, Nat.le_of_ble_eq_true rfl⟩) (b_preV hVK hP hD [0, 1, 2, 3, 4, 5, 6] rfl rfl 0 rfl rfl) rfl rfl hl.1 rfl (lv_room (Nat.le_of_ble_eq_true rfl)) dL_areFar_304 ⟨Nat.le_refl _, Nat.le_refl _⟩) hP hD hS hA [0, 1, 2, 3, 4, 5, 6] rfl rfl (fun _ => rfl) (fun r304 uu H locs hq hP hD hS => ?_)
                              obtain ⟨fR1_10, rfl⟩ : ∃ z, z = uu := ⟨_, rfl⟩
                              try dsimp only at hq
                              subst hq
                              have hP : va_P D vwCl ([hO b, cO b (nI n) (nI k), lO b, oQ (cY 2) (b 3) (rr 1) 6, gI (cY 0) (rr 1) 6 fW 6, oQ (cY 3) (b 5) (rr 2) 13, gJ (cY 1) (rr 2) 36 fR1_10 13, kO b, oQ (cY 2) (b 2) (rr 0) 6, gI (cY 0) (rr 0) 12 fG 6, oQ (cY 3) (b 8) (rr 4) 13, gJ (cY 1) (rr 4) 36 fA1_8 13, oQ (cY 3) (b 9) (rr 5) 13, gJ (cY 1) (rr 5) 64 gS 13, oQ (cY 3) (b 6) (rr 3) 13, gJ (cY 1) (rr 3) 6 fH1_9 13, sO b, [(cc0, .inl (cY 0, 2, .inl fc))]] : List va_W).flatten H := hP
                              have hD : va_D A ([hO b, cO b (nI n) (nI k), lO b, oQ (cY 2) (b 3) (rr 1) 6, gI (cY 0) (rr 1) 6 fW 6, oQ (cY 3) (b 5) (rr 2) 13, gJ (cY 1) (rr 2) 36 fR1_10 13, kO b, oQ (cY 2) (b 2) (rr 0) 6, gI (cY 0) (rr 0) 12 fG 6, oQ (cY 3) (b 8) (rr 4) 13, gJ (cY 1) (rr 4) 36 fA1_8 13, oQ (cY 3) (b 9) (rr 5) 13, gJ (cY 1) (rr 5) 64 gS 13, oQ (cY 3) (b 6) (rr 3) 13, gJ (cY 1) (rr 3) 6 fH1_9 13, sO b, [(cc0, .inl (cY 0, 2, .inl fc))]] : List va_W).flatten := hD
                              refine W.lcmp hx hb dL_areFar_307 ?_
                              refine l_if_lt (tgt := 396) hx hb dL_areFar_308 (by decide) (fun h308 => ?_) (fun h308 => ?_)
                              · -- t
                                exact absurd ((pk_lLT (by omega) (by omega)).mp h308) (by omega)
                              · -- f
                                refine lv_aload_n hx hb dL_areFar_311 rfl (lv_at hl 0 rfl) ?_
                                refine lv_iload_n hx hb dL_areFar_312 rfl (lv_at hl 3 rfl) ?_
                                refine lv_iload hx hb dL_areFar_313 (lv_at hl 5 rfl) ?_
                                refine lv_iconst (v := nI 1) hx hb dL_areFar_315 (by decide) ?_
                                refine lv_iadd hx hb dL_areFar_316 ?_
                                refine eqi (x' := nI (t0 + 1)) (nI_add _ _) ?_
                                refine lv_iload hx hb dL_areFar_317 (lv_at hl 4 rfl) ?_
                                refine ca_l (CL := [hO b, cO b (nI n) (nI k), lO b, oQ (cY 2) (b 3) (rr 1) 6, gI (cY 0) (rr 1) 6 fW 6, oQ (cY 3) (b 6) (rr 3) 13, gJ (cY 1) (rr 3) 6 fH1_9 13]) (va_runV (As := [.int (nI i0), .int (nI (t0 + 1)), .int (nI j0)]) (rest := []) ⟨hx, hb, hml, hown, hts⟩ (c_X8_hits_ok l D cY H.size b rr n k fW fH1_9 g i0 (t0 + 1) j0 (by omega) (by omega) (by omega) (by omega) hW (by omega) (by omega) (by omega)) (cwV 3 hts gL_areFar_X8_hits rfl rfl rfl (by decide +kernel) ⟨Nat.le_of_ble_eq_true rfl, Nat.le_of_ble_eq_true rfl⟩) (b_preV hVK hP hD [0, 1, 2, 3, 4, 14, 15] rfl rfl 0 rfl rfl) rfl rfl hl.1 rfl (lv_room (Nat.le_of_ble_eq_true rfl)) dL_areFar_319 ⟨Nat.le_refl _, Nat.le_refl _⟩) hP hD hS hA [0, 1, 2, 3, 4, 14, 15] rfl rfl (fun _ => rfl) (fun r319 uu H locs hq hP hD hS => ?_)
                                obtain ⟨fH1_11, rfl⟩ : ∃ z, z = uu := ⟨_, rfl⟩
                                try dsimp only at hq
                                subst hq
                                have hP : va_P D vwCl ([hO b, cO b (nI n) (nI k), lO b, oQ (cY 2) (b 3) (rr 1) 6, gI (cY 0) (rr 1) 6 fW 6, oQ (cY 3) (b 5) (rr 2) 13, gJ (cY 1) (rr 2) 36 fR1_10 13, kO b, oQ (cY 2) (b 2) (rr 0) 6, gI (cY 0) (rr 0) 12 fG 6, oQ (cY 3) (b 8) (rr 4) 13, gJ (cY 1) (rr 4) 36 fA1_8 13, oQ (cY 3) (b 9) (rr 5) 13, gJ (cY 1) (rr 5) 64 gS 13, oQ (cY 3) (b 6) (rr 3) 13, gJ (cY 1) (rr 3) 6 fH1_11 13, sO b, [(cc0, .inl (cY 0, 2, .inl fc))]] : List va_W).flatten H := hP
                                have hD : va_D A ([hO b, cO b (nI n) (nI k), lO b, oQ (cY 2) (b 3) (rr 1) 6, gI (cY 0) (rr 1) 6 fW 6, oQ (cY 3) (b 5) (rr 2) 13, gJ (cY 1) (rr 2) 36 fR1_10 13, kO b, oQ (cY 2) (b 2) (rr 0) 6, gI (cY 0) (rr 0) 12 fG 6, oQ (cY 3) (b 8) (rr 4) 13, gJ (cY 1) (rr 4) 36 fA1_8 13, oQ (cY 3) (b 9) (rr 5) 13, gJ (cY 1) (rr 5) 64 gS 13, oQ (cY 3) (b 6) (rr 3) 13, gJ (cY 1) (rr 3) 6 fH1_11 13, sO b, [(cc0, .inl (cY 0, 2, .inl fc))]] : List va_W).flatten := hD
                                refine lv_aload_n hx hb dL_areFar_322 rfl (lv_at hl 2 rfl) ?_
                                refine lv_iconst (v := nI 1) hx hb dL_areFar_323 (by decide) ?_
                                refine b_iald hx hb hK hP 17 0 rfl rfl (by omega) (by decide) dL_areFar_324 ?_
                                refine eqi (x' := nI k) (hck) ?_
                                refine lv_i2l (v := lN k) hx hb dL_areFar_325 (nI_l (by omega)) ?_
                                refine lv_aload_n hx hb dL_areFar_326 rfl (lv_at hl 0 rfl) ?_
                                refine lv_iload_n hx hb dL_areFar_327 rfl (lv_at hl 3 rfl) ?_
                                refine lv_iload hx hb dL_areFar_328 (lv_at hl 5 rfl) ?_
                                refine lv_iload hx hb dL_areFar_330 (lv_at hl 4 rfl) ?_
                                refine ca_l (CL := [hO b, cO b (nI n) (nI k), lO b, oQ (cY 2) (b 3) (rr 1) 6, gI (cY 0) (rr 1) 6 fW 6, oQ (cY 3) (b 6) (rr 3) 13, gJ (cY 1) (rr 3) 6 fH1_11 13]) (va_runV (As := [.int (nI i0), .int (nI t0), .int (nI j0)]) (rest := [.long (lN k), .long (lN (HB g n k j0 (t0 + 1) i0))]) ⟨hx, hb, hml, hown, hts⟩ (c_X8_hits_ok l D cY H.size b rr n k fW fH1_11 g i0 t0 j0 (by omega) (by omega) (by omega) (by omega) hW (by omega) (by omega) (by omega)) (cwV 3 hts gL_areFar_X8_hits rfl rfl rfl (by decide +kernel) ⟨Nat.le_of_ble_eq_true rfl, Nat.le_of_ble_eq_true rfl⟩) (b_preV hVK hP hD [0, 1, 2, 3, 4, 14, 15] rfl rfl 0 rfl rfl) rfl rfl hl.1 rfl (lv_room (Nat.le_of_ble_eq_true rfl)) dL_areFar_332 ⟨Nat.le_refl _, Nat.le_refl _⟩) hP hD hS hA [0, 1, 2, 3, 4, 14, 15] rfl rfl (fun _ => rfl) (fun r332 uu H locs hq hP hD hS => ?_)
                                obtain ⟨fH1_12, rfl⟩ : ∃ z, z = uu := ⟨_, rfl⟩
                                try dsimp only at hq
                                subst hq
                                have hP : va_P D vwCl ([hO b, cO b (nI n) (nI k), lO b, oQ (cY 2) (b 3) (rr 1) 6, gI (cY 0) (rr 1) 6 fW 6, oQ (cY 3) (b 5) (rr 2) 13, gJ (cY 1) (rr 2) 36 fR1_10 13, kO b, oQ (cY 2) (b 2) (rr 0) 6, gI (cY 0) (rr 0) 12 fG 6, oQ (cY 3) (b 8) (rr 4) 13, gJ (cY 1) (rr 4) 36 fA1_8 13, oQ (cY 3) (b 9) (rr 5) 13, gJ (cY 1) (rr 5) 64 gS 13, oQ (cY 3) (b 6) (rr 3) 13, gJ (cY 1) (rr 3) 6 fH1_12 13, sO b, [(cc0, .inl (cY 0, 2, .inl fc))]] : List va_W).flatten H := hP
                                have hD : va_D A ([hO b, cO b (nI n) (nI k), lO b, oQ (cY 2) (b 3) (rr 1) 6, gI (cY 0) (rr 1) 6 fW 6, oQ (cY 3) (b 5) (rr 2) 13, gJ (cY 1) (rr 2) 36 fR1_10 13, kO b, oQ (cY 2) (b 2) (rr 0) 6, gI (cY 0) (rr 0) 12 fG 6, oQ (cY 3) (b 8) (rr 4) 13, gJ (cY 1) (rr 4) 36 fA1_8 13, oQ (cY 3) (b 9) (rr 5) 13, gJ (cY 1) (rr 5) 64 gS 13, oQ (cY 3) (b 6) (rr 3) 13, gJ (cY 1) (rr 3) 6 fH1_12 13, sO b, [(cc0, .inl (cY 0, 2, .inl fc))]] : List va_W).flatten := hD
                                refine lv_lmul hx hb dL_areFar_335 ?_
                                refine eql (x' := lN (k * (HB g n k j0 t0 i0))) (lN_mul _ _) ?_
                                refine W.lcmp hx hb dL_areFar_336 ?_
                                refine l_if_lt (tgt := 396) hx hb dL_areFar_337 (by decide) (fun h337 => ?_) (fun h337 => ?_)
                                · -- t
                                  exact absurd ((pk_lLT (by omega) (by omega)).mp h337) (by omega)
                                · -- f
                                  have L364 : ∀ (gH2 : Nat → Nat → Int64), ∀ (H : Heap) (locs : List Loc), va_P D vwCl ([hO b, cO b (nI n) (nI k), lO b, oQ (cY 2) (b 3) (rr 1) 6, gI (cY 0) (rr 1) 6 fW 6, oQ (cY 3) (b 5) (rr 2) 13, gJ (cY 1) (rr 2) 36 fR1_10 13, kO b, oQ (cY 2) (b 2) (rr 0) 6, gI (cY 0) (rr 0) 12 fG 6, oQ (cY 3) (b 8) (rr 4) 13, gJ (cY 1) (rr 4) 36 fA1_8 13, oQ (cY 3) (b 9) (rr 5) 13, gJ (cY 1) (rr 5) 64 gS 13, oQ (cY 3) (b 6) (rr 3) 13, gJ (cY 1) (rr 3) 6 gH2 13, sO b, [(cc0, .inl (cY 0, 2, .inl fc))]] : List va_W).flatten H → va_D A ([hO b, cO b (nI n) (nI k), lO b, oQ (cY 2) (b 3) (rr 1) 6, gI (cY 0) (rr 1) 6 fW 6, oQ (cY 3) (b 5) (rr 2) 13, gJ (cY 1) (rr 2) 36 fR1_10 13, kO b, oQ (cY 2) (b 2) (rr 0) 6, gI (cY 0) (rr 0) 12 fG 6, oQ (cY 3) (b 8) (rr 4) 13, gJ (cY 1) (rr 4) 36 fA1_8 13, oQ (cY 3) (b 9) (rr 5) 13, gJ (cY 1) (rr 5) 64 gS 13, oQ (cY 3) (b 6) (rr 3) 13, gJ (cY 1) (rr 3) 6 gH2 13, sO b, [(cc0, .inl (cY 0, 2, .inl fc))]] : List va_W).flatten → va_S A s.heap H locs → ∀ (ls : Array Slot), lv_has ls 17 [(0, .ref (b 0)), (1, .int (nI x)), (2, .ref cc0), (3, .int (nI i0)), (4, .int (nI j0)), (5, .int (nI t0)), (6, .int (nI d0)), (7, .long (lN (dst (PL g n k i0 t0) (PL g n k j0 t0) n))), (9, .long (lN (AB g k t0 i0 j0))), (11, .int (nI 1)), (12, .long (lN (sm (fun w => PL (ig g n) 64 k (2 ^ n - 1) t0 (2 ^ w)) q))), (14, .long (lN (sm (fun w => PL (ig g n) 64 k (2 ^ n - 1) (t0 + 1) (2 ^ w)) q))), (16, .int (nI q))] → W p l e ({ frames := 5, cells := 0, slots := 0, locals := 200 }) s m ([.ref (b 0), .int (nI x), .ref cc0] : List Value).toArray below meth c H locs 0 0 (MQ below (qI (S := (Nat → Nat → Int64) × (Nat → Nat → Int64) × (Nat → Nat → Int64) × (Nat → Nat → Int64)) D cY (fun r uu => r = bI true) (fun uu => [hO b, cO b (nI n) (nI k), lO b, oQ (cY 2) (b 3) (rr 1) 6, gI (cY 0) (rr 1) 6 fW 6, oQ (cY 3) (b 5) (rr 2) 13, gJ (cY 1) (rr 2) 36 uu.1 13, kO b, oQ (cY 2) (b 2) (rr 0) 6, gI (cY 0) (rr 0) 12 fG 6, oQ (cY 3) (b 8) (rr 4) 13, gJ (cY 1) (rr 4) 36 uu.2.1 13, oQ (cY 3) (b 9) (rr 5) 13, gJ (cY 1) (rr 5) 64 uu.2.2.1 13, oQ (cY 3) (b 6) (rr 3) 13, gJ (cY 1) (rr 3) 6 uu.2.2.2 13, sO b, [(cc0, .inl (cY 0, 2, .inl fc))]]) A) ([.ref (b 0), .int (nI x), .ref cc0] : List Value).toArray s 0 0 A) (F0 m 364 ls []) := by
                                    intro gH2  H locs hP hD hS ls hl
                                    refine lv_aload_n hx hb dL_areFar_364 rfl (lv_at hl 0 rfl) ?_
                                    refine lv_iload_n hx hb dL_areFar_365 rfl (lv_at hl 3 rfl) ?_
                                    refine lv_iload hx hb dL_areFar_366 (lv_at hl 5 rfl) ?_
                                    refine lv_iload hx hb dL_areFar_368 (lv_at hl 4 rfl) ?_
                                    refine ca_l (CL := [hO b, cO b (nI n) (nI k), lO b, oQ (cY 2) (b 3) (rr 1) 6, gI (cY 0) (rr 1) 6 fW 6, oQ (cY 3) (b 6) (rr 3) 13, gJ (cY 1) (rr 3) 6 gH2 13]) (va_runV (As := [.int (nI i0), .int (nI t0), .int (nI j0)]) (rest := []) ⟨hx, hb, hml, hown, hts⟩ (c_X8_hits_ok l D cY H.size b rr n k fW gH2 g i0 t0 j0 (by omega) (by omega) (by omega) (by omega) hW (by omega) (by omega) (by omega)) (cwV 3 hts gL_areFar_X8_hits rfl rfl rfl (by decide +kernel) ⟨Nat.le_of_ble_eq_true rfl, Nat.le_of_ble_eq_true rfl⟩) (b_preV hVK hP hD [0, 1, 2, 3, 4, 14, 15] rfl rfl 0 rfl rfl) rfl rfl hl.1 rfl (lv_room (Nat.le_of_ble_eq_true rfl)) dL_areFar_370 ⟨Nat.le_refl _, Nat.le_refl _⟩) hP hD hS hA [0, 1, 2, 3, 4, 14, 15] rfl rfl (fun _ => rfl) (fun r370 uu H locs hq hP hD hS => ?_)
                                    obtain ⟨fH1_13, rfl⟩ : ∃ z, z = uu := ⟨_, rfl⟩
                                    try dsimp only at hq
                                    subst hq
                                    have hP : va_P D vwCl ([hO b, cO b (nI n) (nI k), lO b, oQ (cY 2) (b 3) (rr 1) 6, gI (cY 0) (rr 1) 6 fW 6, oQ (cY 3) (b 5) (rr 2) 13, gJ (cY 1) (rr 2) 36 fR1_10 13, kO b, oQ (cY 2) (b 2) (rr 0) 6, gI (cY 0) (rr 0) 12 fG 6, oQ (cY 3) (b 8) (rr 4) 13, gJ (cY 1) (rr 4) 36 fA1_8 13, oQ (cY 3) (b 9) (rr 5) 13, gJ (cY 1) (rr 5) 64 gS 13, oQ (cY 3) (b 6) (rr 3) 13, gJ (cY 1) (rr 3) 6 fH1_13 13, sO b, [(cc0, .inl (cY 0, 2, .inl fc))]] : List va_W).flatten H := hP
                                    have hD : va_D A ([hO b, cO b (nI n) (nI k), lO b, oQ (cY 2) (b 3) (rr 1) 6, gI (cY 0) (rr 1) 6 fW 6, oQ (cY 3) (b 5) (rr 2) 13, gJ (cY 1) (rr 2) 36 fR1_10 13, kO b, oQ (cY 2) (b 2) (rr 0) 6, gI (cY 0) (rr 0) 12 fG 6, oQ (cY 3) (b 8) (rr 4) 13, gJ (cY 1) (rr 4) 36 fA1_8 13, oQ (cY 3) (b 9) (rr 5) 13, gJ (cY 1) (rr 5) 64 gS 13, oQ (cY 3) (b 6) (rr 3) 13, gJ (cY 1) (rr 3) 6 fH1_13 13, sO b, [(cc0, .inl (cY 0, 2, .inl fc))]] : List va_W).flatten := hD
                                    refine lv_lconst (v := lN 0) hx hb dL_areFar_373 (by decide) ?_
                                    refine W.lcmp hx hb dL_areFar_374 ?_
                                    refine l_if_eq (tgt := 392) hx hb dL_areFar_375 (by decide) (fun h375 => ?_) (fun h375 => ?_)
                                    · -- t
                                      refine lv_iconst (v := nI 1) hx hb dL_areFar_392 (by decide) ?_
                                      refine lv_goto (tgt := 397) hx hb dL_areFar_393 (by decide) ?_
                                      refine eqi (x' := bI true) rfl ?_
                                      exact r_z hx hb hr hlocks hP hD hS (fR1_10, fA1_8, gS, fH1_13) rfl (rfl) dL_areFar_397
                                    · -- f
                                      refine lv_aload_n hx hb dL_areFar_378 rfl (lv_at hl 0 rfl) ?_
                                      refine lv_iload_n hx hb dL_areFar_379 rfl (lv_at hl 3 rfl) ?_
                                      refine ca_i (CL := [hO b, cO b (nI n) (nI k), sO b, oQ (cY 2) (b 3) (rr 1) 6, gI (cY 0) (rr 1) 6 fW 6]) (va_runV (As := [.int (nI i0)]) (rest := []) ⟨hx, hb, hml, hown, hts⟩ (c_X8_reach_ok l D cY H.size b rr n k fW g i0 (by omega) (by omega) (by omega) (by omega) hW (by omega)) (cwV 1 hts gL_areFar_X8_reach rfl rfl rfl (by decide +kernel) ⟨Nat.le_of_ble_eq_true rfl, Nat.le_of_ble_eq_true rfl⟩) (b_preV hVK hP hD [0, 1, 16, 3, 4] rfl rfl 0 rfl rfl) rfl rfl hl.1 rfl (lv_room (Nat.le_of_ble_eq_true rfl)) dL_areFar_380 ⟨Nat.le_refl _, Nat.le_refl _⟩) hP hD hS hA [0, 1, 16, 3, 4] rfl rfl (fun _ => rfl) (fun r380 uu H locs hq hP hD hS => ?_)
                                      subst hq
                                      have hP : va_P D vwCl ([hO b, cO b (nI n) (nI k), lO b, oQ (cY 2) (b 3) (rr 1) 6, gI (cY 0) (rr 1) 6 fW 6, oQ (cY 3) (b 5) (rr 2) 13, gJ (cY 1) (rr 2) 36 fR1_10 13, kO b, oQ (cY 2) (b 2) (rr 0) 6, gI (cY 0) (rr 0) 12 fG 6, oQ (cY 3) (b 8) (rr 4) 13, gJ (cY 1) (rr 4) 36 fA1_8 13, oQ (cY 3) (b 9) (rr 5) 13, gJ (cY 1) (rr 5) 64 gS 13, oQ (cY 3) (b 6) (rr 3) 13, gJ (cY 1) (rr 3) 6 fH1_13 13, sO b, [(cc0, .inl (cY 0, 2, .inl fc))]] : List va_W).flatten H := hP
                                      have hD : va_D A ([hO b, cO b (nI n) (nI k), lO b, oQ (cY 2) (b 3) (rr 1) 6, gI (cY 0) (rr 1) 6 fW 6, oQ (cY 3) (b 5) (rr 2) 13, gJ (cY 1) (rr 2) 36 fR1_10 13, kO b, oQ (cY 2) (b 2) (rr 0) 6, gI (cY 0) (rr 0) 12 fG 6, oQ (cY 3) (b 8) (rr 4) 13, gJ (cY 1) (rr 4) 36 fA1_8 13, oQ (cY 3) (b 9) (rr 5) 13, gJ (cY 1) (rr 5) 64 gS 13, oQ (cY 3) (b 6) (rr 3) 13, gJ (cY 1) (rr 3) 6 fH1_13 13, sO b, [(cc0, .inl (cY 0, 2, .inl fc))]] : List va_W).flatten := hD
                                      have hrl : rcA g n k i0 (n - 1) < 64 := rcA_lt hn6 (by omega) _
                                      have hbit : (rcA g n k i0 (n - 1)).testBit j0 = true := (rc_iff hgn hn6 (by omega)).mpr (by
                                        obtain ⟨u, _, hw⟩ := HB_Wk _ _ (fun z => h375 (congrArg lN z))
                                        exact ⟨u, hw⟩)
                                      refine lv_iload hx hb dL_areFar_383 (lv_at hl 4 rfl) ?_
                                      refine lv_ishr hx hb dL_areFar_385 ?_
                                      refine eqi (x' := nI ((rcA g n k i0 (n - 1)) / 2 ^ j0)) (nI_shr (by omega) (by omega)) ?_
                                      refine lv_iconst (v := nI 1) hx hb dL_areFar_386 (by decide) ?_
                                      refine lv_iand hx hb dL_areFar_387 ?_
                                      refine eqi (x' := nI (((rcA g n k i0 (n - 1)) / 2 ^ j0) &&& 1)) (nI_and _ _) ?_
                                      refine eqi (x' := nI 1) (congrArg nI (sb_of hbit)) ?_
                                      refine lv_iconst (v := nI 1) hx hb dL_areFar_388 (by decide) ?_
                                      refine n_icmp_ne (tgt := 396) hx hb dL_areFar_389 (by decide) (by omega) (by omega) (fun h389 => ?_) (fun h389 => ?_)
                                      · -- t
                                        exact absurd rfl h389
                                      · -- f
                                        refine lv_iconst (v := nI 1) hx hb dL_areFar_392 (by decide) ?_
                                        refine lv_goto (tgt := 397) hx hb dL_areFar_393 (by decide) ?_
                                        refine eqi (x' := bI true) rfl ?_
                                        exact r_z hx hb hr hlocks hP hD hS (fR1_10, fA1_8, gS, fH1_13) rfl (rfl) dL_areFar_397
                                  refine lv_iload_n hx hb dL_areFar_340 rfl (lv_at hl 3 rfl) ?_
                                  refine lv_iload hx hb dL_areFar_341 (lv_at hl 4 rfl) ?_
                                  refine n_icmp_ne (tgt := 364) hx hb dL_areFar_343 (by decide) (by omega) (by omega) (fun h343 => ?_) (fun h343 => ?_)
                                  · -- t
                                    exact L364 fH1_12  _ _ hP hD hS _ (lv_sub hl [0, 1, 2, 3, 4, 5, 6, 7, 8, 9, 10, 11, 12] rfl)
                                  · -- f
                                    refine lv_aload_n hx hb dL_areFar_346 rfl (lv_at hl 0 rfl) ?_
                                    refine lv_iload_n hx hb dL_areFar_347 rfl (lv_at hl 3 rfl) ?_
                                    refine lv_iload hx hb dL_areFar_348 (lv_at hl 5 rfl) ?_
                                    refine lv_iload_n hx hb dL_areFar_350 rfl (lv_at hl 3 rfl) ?_
                                    refine ca_l (CL := [hO b, cO b (nI n) (nI k), lO b, oQ (cY 2) (b 3) (rr 1) 6, gI (cY 0) (rr 1) 6 fW 6, oQ (cY 3) (b 6) (rr 3) 13, gJ (cY 1) (rr 3) 6 fH1_12 13]) (va_runV (As := [.int (nI i0), .int (nI t0), .int (nI i0)]) (rest := []) ⟨hx, hb, hml, hown, hts⟩ (c_X8_hits_ok l D cY H.size b rr n k fW fH1_12 g i0 t0 i0 (by omega) (by omega) (by omega) (by omega) hW (by omega) (by omega) (by omega)) (cwV 3 hts gL_areFar_X8_hits rfl rfl rfl (by decide +kernel) ⟨Nat.le_of_ble_eq_true rfl, Nat.le_of_ble_eq_true rfl⟩) (b_preV hVK hP hD [0, 1, 2, 3, 4, 14, 15] rfl rfl 0 rfl rfl) rfl rfl hl.1 rfl (lv_room (Nat.le_of_ble_eq_true rfl)) dL_areFar_351 ⟨Nat.le_refl _, Nat.le_refl _⟩) hP hD hS hA [0, 1, 2, 3, 4, 14, 15] rfl rfl (fun _ => rfl) (fun r351 uu H locs hq hP hD hS => ?_)
                                    obtain ⟨fH1_14, rfl⟩ : ∃ z, z = uu := ⟨_, rfl⟩
                                    try dsimp only at hq
                                    subst hq
                                    have hP : va_P D vwCl ([hO b, cO b (nI n) (nI k), lO b, oQ (cY 2) (b 3) (rr 1) 6, gI (cY 0) (rr 1) 6 fW 6, oQ (cY 3) (b 5) (rr 2) 13, gJ (cY 1) (rr 2) 36 fR1_10 13, kO b, oQ (cY 2) (b 2) (rr 0) 6, gI (cY 0) (rr 0) 12 fG 6, oQ (cY 3) (b 8) (rr 4) 13, gJ (cY 1) (rr 4) 36 fA1_8 13, oQ (cY 3) (b 9) (rr 5) 13, gJ (cY 1) (rr 5) 64 gS 13, oQ (cY 3) (b 6) (rr 3) 13, gJ (cY 1) (rr 3) 6 fH1_14 13, sO b, [(cc0, .inl (cY 0, 2, .inl fc))]] : List va_W).flatten H := hP
                                    have hD : va_D A ([hO b, cO b (nI n) (nI k), lO b, oQ (cY 2) (b 3) (rr 1) 6, gI (cY 0) (rr 1) 6 fW 6, oQ (cY 3) (b 5) (rr 2) 13, gJ (cY 1) (rr 2) 36 fR1_10 13, kO b, oQ (cY 2) (b 2) (rr 0) 6, gI (cY 0) (rr 0) 12 fG 6, oQ (cY 3) (b 8) (rr 4) 13, gJ (cY 1) (rr 4) 36 fA1_8 13, oQ (cY 3) (b 9) (rr 5) 13, gJ (cY 1) (rr 5) 64 gS 13, oQ (cY 3) (b 6) (rr 3) 13, gJ (cY 1) (rr 3) 6 fH1_14 13, sO b, [(cc0, .inl (cY 0, 2, .inl fc))]] : List va_W).flatten := hD
                                    refine eql (x' := lN (k ^ t0)) (congrArg lN (HB_bb t0)) ?_
                                    refine lv_aload_n hx hb dL_areFar_354 rfl (lv_at hl 0 rfl) ?_
                                    refine lv_iload hx hb dL_areFar_355 (lv_at hl 5 rfl) ?_
                                    refine ca_l (CL := [hO b, cO b (nI n) (nI k)]) (va_runV (As := [.int (nI t0)]) (rest := [.long (lN (k ^ t0))]) ⟨hx, hb, hml, hown, hts⟩ (c_X8_words_ok l D cY H.size b n k g t0 (by omega) (by omega) (by omega) (by omega) (by omega)) (cwV 1 hts gL_areFar_X8_words rfl rfl rfl (by decide +kernel) ⟨Nat.le_of_ble_eq_true rfl, Nat.le_of_ble_eq_true rfl⟩) (b_preV hVK hP hD [0, 1] rfl rfl 0 rfl rfl) rfl rfl hl.1 rfl (lv_room (Nat.le_of_ble_eq_true rfl)) dL_areFar_357 ⟨Nat.le_refl _, Nat.le_refl _⟩) hP hD hS hA [0, 1] rfl rfl (fun _ => rfl) (fun r357 uu H locs hq hP hD hS => ?_)
                                    subst hq
                                    have hP : va_P D vwCl ([hO b, cO b (nI n) (nI k), lO b, oQ (cY 2) (b 3) (rr 1) 6, gI (cY 0) (rr 1) 6 fW 6, oQ (cY 3) (b 5) (rr 2) 13, gJ (cY 1) (rr 2) 36 fR1_10 13, kO b, oQ (cY 2) (b 2) (rr 0) 6, gI (cY 0) (rr 0) 12 fG 6, oQ (cY 3) (b 8) (rr 4) 13, gJ (cY 1) (rr 4) 36 fA1_8 13, oQ (cY 3) (b 9) (rr 5) 13, gJ (cY 1) (rr 5) 64 gS 13, oQ (cY 3) (b 6) (rr 3) 13, gJ (cY 1) (rr 3) 6 fH1_14 13, sO b, [(cc0, .inl (cY 0, 2, .inl fc))]] : List va_W).flatten H := hP
                                    have hD : va_D A ([hO b, cO b (nI n) (nI k), lO b, oQ (cY 2) (b 3) (rr 1) 6, gI (cY 0) (rr 1) 6 fW 6, oQ (cY 3) (b 5) (rr 2) 13, gJ (cY 1) (rr 2) 36 fR1_10 13, kO b, oQ (cY 2) (b 2) (rr 0) 6, gI (cY 0) (rr 0) 12 fG 6, oQ (cY 3) (b 8) (rr 4) 13, gJ (cY 1) (rr 4) 36 fA1_8 13, oQ (cY 3) (b 9) (rr 5) 13, gJ (cY 1) (rr 5) 64 gS 13, oQ (cY 3) (b 6) (rr 3) 13, gJ (cY 1) (rr 3) 6 fH1_14 13, sO b, [(cc0, .inl (cY 0, 2, .inl fc))]] : List va_W).flatten := hD
                                    refine W.lcmp hx hb dL_areFar_360 ?_
                                    refine l_if_ne (tgt := 396) hx hb dL_areFar_361 (by decide) (fun h361 => ?_) (fun h361 => ?_)
                                    · -- t
                                      exact absurd rfl h361
                                    · -- f
                                      exact L364 fH1_14  _ _ hP hD hS _ (lv_sub hl [0, 1, 2, 3, 4, 5, 6, 7, 8, 9, 10, 11, 12] rfl)
                      · -- f
                        refine lv_lload hx hb dL_areFar_222 (lv_at hl 10 rfl) ?_
                        refine lv_aload_n hx hb dL_areFar_224 rfl (lv_at hl 0 rfl) ?_
                        refine lv_iload hx hb dL_areFar_225 (lv_at hl 5 rfl) ?_
                        refine lv_iload hx hb dL_areFar_227 (lv_at hl 12 rfl) ?_
                        refine ca_l (CL := [hO b, cO b (nI n) (nI k), kO b, oQ (cY 2) (b 2) (rr 0) 6, gI (cY 0) (rr 0) 12 fG 6, oQ (cY 3) (b 9) (rr 5) 13, gJ (cY 1) (rr 5) 64 gS 13]) (va_runV (As := [.int (nI t0), .int (nI q)]) (rest := [.long (lN (sm (fun w => PL (ig g n) 64 k (2 ^ n - 1) t0 (2 ^ w)) q))]) ⟨hx, hb, hml, hown, hts⟩ (c_X8_together_ok l D cY H.size b rr n k fG gS g t0 q (by omega) (by omega) (by omega) (by omega) hG hgn (by omega) (by omega)) (cwV 2 hts gL_areFar_X8_together rfl rfl rfl (by decide +kernel) ⟨Nat.le_of_ble_eq_true rfl, Nat.le_of_ble_eq_true rfl⟩) (b_preV hVK hP hD [0, 1, 7, 8, 9, 12, 13] rfl rfl 0 rfl rfl) rfl rfl hl.1 rfl (lv_room (Nat.le_of_ble_eq_true rfl)) dL_areFar_229 ⟨Nat.le_refl _, Nat.le_refl _⟩) hP hD hS hA [0, 1, 7, 8, 9, 12, 13] rfl rfl (fun _ => rfl) (fun r229 uu H locs hq hP hD hS => ?_)
                        obtain ⟨fS1_15, rfl⟩ : ∃ z, z = uu := ⟨_, rfl⟩
                        try dsimp only at hq
                        subst hq
                        have hP : va_P D vwCl ([hO b, cO b (nI n) (nI k), lO b, oQ (cY 2) (b 3) (rr 1) 6, gI (cY 0) (rr 1) 6 fW 6, oQ (cY 3) (b 5) (rr 2) 13, gJ (cY 1) (rr 2) 36 fR1_7 13, kO b, oQ (cY 2) (b 2) (rr 0) 6, gI (cY 0) (rr 0) 12 fG 6, oQ (cY 3) (b 8) (rr 4) 13, gJ (cY 1) (rr 4) 36 fA1_8 13, oQ (cY 3) (b 9) (rr 5) 13, gJ (cY 1) (rr 5) 64 fS1_15 13, oQ (cY 3) (b 6) (rr 3) 13, gJ (cY 1) (rr 3) 6 fH 13, sO b, [(cc0, .inl (cY 0, 2, .inl fc))]] : List va_W).flatten H := hP
                        have hD : va_D A ([hO b, cO b (nI n) (nI k), lO b, oQ (cY 2) (b 3) (rr 1) 6, gI (cY 0) (rr 1) 6 fW 6, oQ (cY 3) (b 5) (rr 2) 13, gJ (cY 1) (rr 2) 36 fR1_7 13, kO b, oQ (cY 2) (b 2) (rr 0) 6, gI (cY 0) (rr 0) 12 fG 6, oQ (cY 3) (b 8) (rr 4) 13, gJ (cY 1) (rr 4) 36 fA1_8 13, oQ (cY 3) (b 9) (rr 5) 13, gJ (cY 1) (rr 5) 64 fS1_15 13, oQ (cY 3) (b 6) (rr 3) 13, gJ (cY 1) (rr 3) 6 fH 13, sO b, [(cc0, .inl (cY 0, 2, .inl fc))]] : List va_W).flatten := hD
                        refine lv_ladd hx hb dL_areFar_232 ?_
                        refine eql (x' := lN (sm (fun w => PL (ig g n) 64 k (2 ^ n - 1) t0 (2 ^ w)) q + (PL (ig g n) 64 k (2 ^ n - 1) t0 (2 ^ q)))) (lN_add _ _) ?_
                        refine lv_lstore (lv' := [(12, .long (lN (sm (fun w => PL (ig g n) 64 k (2 ^ n - 1) t0 (2 ^ w)) q + (PL (ig g n) 64 k (2 ^ n - 1) t0 (2 ^ q))))), (0, .ref (b 0)), (1, .int (nI x)), (2, .ref cc0), (3, .int (nI i0)), (4, .int (nI j0)), (5, .int (nI t0)), (6, .int (nI d0)), (7, .long (lN (dst (PL g n k i0 t0) (PL g n k j0 t0) n))), (9, .long (lN (AB g k t0 i0 j0))), (11, .int (nI 1)), (14, .long (lN (sm (fun w => PL (ig g n) 64 k (2 ^ n - 1) (t0 + 1) (2 ^ w)) q))), (16, .int (nI q))]) hx hb dL_areFar_233 hl (by decide) rfl (fun ls hl => ?_)
                        refine lv_lload hx hb dL_areFar_235 (lv_at hl 11 rfl) ?_
                        refine lv_aload_n hx hb dL_areFar_237 rfl (lv_at hl 1 rfl) ?_
                        refine lv_iload hx hb dL_areFar_238 (lv_at hl 6 rfl) ?_
                        refine lv_iconst (v := nI 1) hx hb dL_areFar_240 (by decide) ?_
                        refine lv_iadd hx hb dL_areFar_241 ?_
                        refine eqi (x' := nI (t0 + 1)) (nI_add _ _) ?_
                        refine lv_iload hx hb dL_areFar_242 (lv_at hl 12 rfl) ?_
                        refine ca_l (CL := [hO b, cO b (nI n) (nI k), kO b, oQ (cY 2) (b 2) (rr 0) 6, gI (cY 0) (rr 0) 12 fG 6, oQ (cY 3) (b 9) (rr 5) 13, gJ (cY 1) (rr 5) 64 fS1_15 13]) (va_runV (As := [.int (nI (t0 + 1)), .int (nI q)]) (rest := [.long (lN (sm (fun w => PL (ig g n) 64 k (2 ^ n - 1) (t0 + 1) (2 ^ w)) q))]) ⟨hx, hb, hml, hown, hts⟩ (c_X8_together_ok l D cY H.size b rr n k fG fS1_15 g (t0 + 1) q (by omega) (by omega) (by omega) (by omega) hG hgn (by omega) (by omega)) (cwV 2 hts gL_areFar_X8_together rfl rfl rfl (by decide +kernel) ⟨Nat.le_of_ble_eq_true rfl, Nat.le_of_ble_eq_true rfl⟩) (b_preV hVK hP hD [0, 1, 7, 8, 9, 12, 13] rfl rfl 0 rfl rfl) rfl rfl hl.1 rfl (lv_room (Nat.le_of_ble_eq_true rfl)) dL_areFar_244 ⟨Nat.le_refl _, Nat.le_refl _⟩) hP hD hS hA [0, 1, 7, 8, 9, 12, 13] rfl rfl (fun _ => rfl) (fun r244 uu H locs hq hP hD hS => ?_)
                        obtain ⟨fS1_16, rfl⟩ : ∃ z, z = uu := ⟨_, rfl⟩
                        try dsimp only at hq
                        subst hq
                        have hP : va_P D vwCl ([hO b, cO b (nI n) (nI k), lO b, oQ (cY 2) (b 3) (rr 1) 6, gI (cY 0) (rr 1) 6 fW 6, oQ (cY 3) (b 5) (rr 2) 13, gJ (cY 1) (rr 2) 36 fR1_7 13, kO b, oQ (cY 2) (b 2) (rr 0) 6, gI (cY 0) (rr 0) 12 fG 6, oQ (cY 3) (b 8) (rr 4) 13, gJ (cY 1) (rr 4) 36 fA1_8 13, oQ (cY 3) (b 9) (rr 5) 13, gJ (cY 1) (rr 5) 64 fS1_16 13, oQ (cY 3) (b 6) (rr 3) 13, gJ (cY 1) (rr 3) 6 fH 13, sO b, [(cc0, .inl (cY 0, 2, .inl fc))]] : List va_W).flatten H := hP
                        have hD : va_D A ([hO b, cO b (nI n) (nI k), lO b, oQ (cY 2) (b 3) (rr 1) 6, gI (cY 0) (rr 1) 6 fW 6, oQ (cY 3) (b 5) (rr 2) 13, gJ (cY 1) (rr 2) 36 fR1_7 13, kO b, oQ (cY 2) (b 2) (rr 0) 6, gI (cY 0) (rr 0) 12 fG 6, oQ (cY 3) (b 8) (rr 4) 13, gJ (cY 1) (rr 4) 36 fA1_8 13, oQ (cY 3) (b 9) (rr 5) 13, gJ (cY 1) (rr 5) 64 fS1_16 13, oQ (cY 3) (b 6) (rr 3) 13, gJ (cY 1) (rr 3) 6 fH 13, sO b, [(cc0, .inl (cY 0, 2, .inl fc))]] : List va_W).flatten := hD
                        refine lv_ladd hx hb dL_areFar_247 ?_
                        refine eql (x' := lN (sm (fun w => PL (ig g n) 64 k (2 ^ n - 1) (t0 + 1) (2 ^ w)) q + (PL (ig g n) 64 k (2 ^ n - 1) (t0 + 1) (2 ^ q)))) (lN_add _ _) ?_
                        refine lv_lstore (lv' := [(14, .long (lN (sm (fun w => PL (ig g n) 64 k (2 ^ n - 1) (t0 + 1) (2 ^ w)) q + (PL (ig g n) 64 k (2 ^ n - 1) (t0 + 1) (2 ^ q))))), (12, .long (lN (sm (fun w => PL (ig g n) 64 k (2 ^ n - 1) t0 (2 ^ w)) q + (PL (ig g n) 64 k (2 ^ n - 1) t0 (2 ^ q))))), (0, .ref (b 0)), (1, .int (nI x)), (2, .ref cc0), (3, .int (nI i0)), (4, .int (nI j0)), (5, .int (nI t0)), (6, .int (nI d0)), (7, .long (lN (dst (PL g n k i0 t0) (PL g n k j0 t0) n))), (9, .long (lN (AB g k t0 i0 j0))), (11, .int (nI 1)), (16, .int (nI q))]) hx hb dL_areFar_248 hl (by decide) rfl (fun ls hl => ?_)
                        refine lv_iinc (v := nI (q + 1)) (lv' := [(16, .int (nI (q + 1))), (14, .long (lN (sm (fun w => PL (ig g n) 64 k (2 ^ n - 1) (t0 + 1) (2 ^ w)) q + (PL (ig g n) 64 k (2 ^ n - 1) (t0 + 1) (2 ^ q))))), (12, .long (lN (sm (fun w => PL (ig g n) 64 k (2 ^ n - 1) t0 (2 ^ w)) q + (PL (ig g n) 64 k (2 ^ n - 1) t0 (2 ^ q))))), (0, .ref (b 0)), (1, .int (nI x)), (2, .ref cc0), (3, .int (nI i0)), (4, .int (nI j0)), (5, .int (nI t0)), (6, .int (nI d0)), (7, .long (lN (dst (PL g n k i0 t0) (PL g n k j0 t0) n))), (9, .long (lN (AB g k t0 i0 j0))), (11, .int (nI 1))]) hx hb dL_areFar_250 hl (k := 12) rfl (nI_1 q) (by decide) rfl (fun ls hl => ?_)
                        refine lv_goto (tgt := 214) hx hb dL_areFar_253 (by decide) ?_
                        exact ih214 (by omega) fS1_16  _ _ hP hD hS _ (lv_sub hl [3, 4, 5, 6, 7, 8, 9, 10, 11, 12, 2, 1, 0] rfl)
                    exact L214 0 (by omega) fS  _ _ hP hD hS _ (lv_sub hl [4, 5, 6, 7, 8, 9, 10, 11, 12, 3, 2, 1, 0] rfl)
              refine lv_iload_n hx hb dL_areFar_141 rfl (lv_at hl 5 rfl) ?_
              refine lv_iload hx hb dL_areFar_142 (lv_at hl 4 rfl) ?_
              refine n_icmp_ne (tgt := 154) hx hb dL_areFar_144 (by decide) (by omega) (by omega) (fun h144 => ?_) (fun h144 => ?_)
              · -- t
                exact L154   _ _ hP hD hS _ (lv_sub hl [6, 7, 8, 5, 4, 3, 2, 1, 0] rfl)
              · -- f
                refine lv_lload hx hb dL_areFar_147 (lv_at hl 0 rfl) ?_
                refine lv_lconst (v := lN 0) hx hb dL_areFar_149 (by decide) ?_
                refine W.lcmp hx hb dL_areFar_150 ?_
                refine l_if_ne (tgt := 202) hx hb dL_areFar_151 (by decide) (fun h151 => ?_) (fun h151 => ?_)
                · -- t
                  exact absurd (congrArg lN (by rw [h144]; exact AB_self)) h151
                · -- f
                  exact L154   _ _ hP hD hS _ (lv_sub hl [6, 7, 8, 5, 4, 3, 2, 1, 0] rfl)

