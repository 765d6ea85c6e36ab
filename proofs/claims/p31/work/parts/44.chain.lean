set_option maxHeartbeats 4000000 in
set_option maxRecDepth 100000 in
theorem c_J7_fill_53178 (l : Launch) (D : va_G) (cY : Nat → ClassId) (sz : Nat) (x : Nat) (nn : Nat) (f0 : Nat → Int32) (v0 : Int32) (hnn : nn < 100) : Met l yJ7_fill_53178 wsJ7_fill_53178 ({ frames := 0, cells := 0, slots := 0, locals := 0 }) (cP D cY [.ref x, .int v0] [[(x, .inl (cY 0, nn, .inl f0))]] sz) (qV (S := (Nat → Int32)) D cY (fun u => ∀ j, j < nn → u j = v0) (fun u => [[(x, .inl (cY 0, nn, .inl u))]]) (va_A ([[(x, .inl (cY 0, nn, .inl f0))]] : List va_W).flatten sz)) 0 0 (va_A ([[(x, .inl (cY 0, nn, .inl f0))]] : List va_W).flatten sz) := by
  refine mtB (Qc := fun A => qV (S := (Nat → Int32)) D cY (fun u => ∀ j, j < nn → u j = v0) (fun u => [[(x, .inl (cY 0, nn, .inl u))]]) A) (cc := cJ7_fill_53178) (maxL := 4) (ret := none) (by decide) rfl (Nat.le_of_ble_eq_true rfl) ?_
  intro p e s m below meth c A ls hx hb hr hml hts hown hlocks hnm hsz hP hK hVK hD hS hA hl
  have hown : s.vm.findClass RJ7 = some m.cls := hown
  have hl : lv_has ls 4 [(0, .ref x), (1, .int v0)] := hl
  have hP : va_P D vwCl ([[(x, .inl (cY 0, nn, .inl f0))]] : List va_W).flatten s.heap := hP
  have hD : va_D A ([[(x, .inl (cY 0, nn, .inl f0))]] : List va_W).flatten := hD
  refine lv_iconst (v := nI 0) hx hb dJ7_fill_53178_0 (by decide) ?_
  refine lv_istore_n (lv' := [(2, .int (nI 0)), (0, .ref x), (1, .int v0)]) hx hb dJ7_fill_53178_1 rfl hl (by decide) rfl (fun ls hl => ?_)
  refine lv_aload_n hx hb dJ7_fill_53178_2 rfl (lv_at hl 1 rfl) ?_
  refine b_alen hx hb hK hP 0 0 rfl rfl dJ7_fill_53178_3 ?_
  refine eqi (x' := nI nn) rfl ?_
  refine lv_istore_n (lv' := [(3, .int (nI nn)), (2, .int (nI 0)), (0, .ref x), (1, .int v0)]) hx hb dJ7_fill_53178_4 rfl hl (by decide) rfl (fun ls hl => ?_)
  have L5 : ∀ q : Nat, q ≤ nn → ∀ (fM : Nat → Int32), (PWJ fM (fun _ => v0) q) → ∀ (H : Heap) (locs : List Loc), va_P D vwCl ([[(x, .inl (cY 0, nn, .inl fM))]] : List va_W).flatten H → va_D A ([[(x, .inl (cY 0, nn, .inl fM))]] : List va_W).flatten → va_S A s.heap H locs → ∀ (ls : Array Slot), lv_has ls 4 [(0, .ref x), (1, .int v0), (2, .int (nI q)), (3, .int (nI nn))] → W p l e ({ frames := 0, cells := 0, slots := 0, locals := 0 }) s m ([.ref x, .int v0] : List Value).toArray below meth c H locs 0 0 (MQ below (qV (S := (Nat → Int32)) D cY (fun u => ∀ j, j < nn → u j = v0) (fun u => [[(x, .inl (cY 0, nn, .inl u))]]) A) ([.ref x, .int v0] : List Value).toArray s 0 0 A) (F0 m 5 ls []) := by
    refine lpW nn ?_
    intro q bdq ih5 fM hI H locs hP hD hS ls hl
    refine lv_iload_n hx hb dJ7_fill_53178_5 rfl (lv_at hl 2 rfl) ?_
    refine lv_iload_n hx hb dJ7_fill_53178_6 rfl (lv_at hl 3 rfl) ?_
    refine n_icmp_ge (tgt := 20) hx hb dJ7_fill_53178_7 (by decide) (by omega) (by omega) (fun h7 => ?_) (fun h7 => ?_)
    · -- t
      exact r_v hx hb hr hlocks hP hD hS fM rfl (by (have e : q = nn := by omega); rw [← e]; exact hI) dJ7_fill_53178_20
    · -- f
      refine lv_aload_n hx hb dJ7_fill_53178_10 rfl (lv_at hl 0 rfl) ?_
      refine lv_iload_n hx hb dJ7_fill_53178_11 rfl (lv_at hl 2 rfl) ?_
      refine lv_iload_n hx hb dJ7_fill_53178_12 rfl (lv_at hl 1 rfl) ?_
      refine b_iast hx hb hK hP hD hS 0 0 rfl rfl (by omega) (by omega) dJ7_fill_53178_13 (fun H locs hP hD hS => ?_)
      have hP : va_P D vwCl ([[(x, .inl (cY 0, nn, .inl (upd fM q v0)))]] : List va_W).flatten H := hP
      have hD : va_D A ([[(x, .inl (cY 0, nn, .inl (upd fM q v0)))]] : List va_W).flatten := hD
      refine lv_iinc (v := nI (q + 1)) (lv' := [(2, .int (nI (q + 1))), (0, .ref x), (1, .int v0), (3, .int (nI nn))]) hx hb dJ7_fill_53178_14 hl (k := 2) rfl (nI_1 q) (by decide) rfl (fun ls hl => ?_)
      refine lv_goto (tgt := 5) hx hb dJ7_fill_53178_17 (by decide) ?_
      exact ih5 (by omega) (upd fM q v0) (PWJ_s hI rfl) _ _ hP hD hS _ (lv_sub hl [1, 2, 0, 3] rfl)
  exact L5 0 (by omega) f0 PWJ_0 _ _ hP hD hS _ (lv_sub hl [2, 3, 1, 0] rfl)

set_option maxHeartbeats 4000000 in
set_option maxRecDepth 100000 in
theorem c_J7_fill_d0a16 (l : Launch) (D : va_G) (cY : Nat → ClassId) (sz : Nat) (x : Nat) (nn : Nat) (f0 : Nat → Int64) (v0 : Int64) (hnn : nn < 100) : Met l yJ7_fill_d0a16 wsJ7_fill_d0a16 ({ frames := 0, cells := 0, slots := 0, locals := 0 }) (cP D cY [.ref x, .long v0] [[(x, .inl (cY 1, nn, .inr (.inl f0)))]] sz) (qV (S := (Nat → Int64)) D cY (fun u => ∀ j, j < nn → u j = v0) (fun u => [[(x, .inl (cY 1, nn, .inr (.inl u)))]]) (va_A ([[(x, .inl (cY 1, nn, .inr (.inl f0)))]] : List va_W).flatten sz)) 0 0 (va_A ([[(x, .inl (cY 1, nn, .inr (.inl f0)))]] : List va_W).flatten sz) := by
  refine mtB (Qc := fun A => qV (S := (Nat → Int64)) D cY (fun u => ∀ j, j < nn → u j = v0) (fun u => [[(x, .inl (cY 1, nn, .inr (.inl u)))]]) A) (cc := cJ7_fill_d0a16) (maxL := 5) (ret := none) (by decide) rfl (Nat.le_of_ble_eq_true rfl) ?_
  intro p e s m below meth c A ls hx hb hr hml hts hown hlocks hnm hsz hP hK hVK hD hS hA hl
  have hown : s.vm.findClass RJ7 = some m.cls := hown
  have hl : lv_has ls 5 [(0, .ref x), (1, .long v0)] := hl
  have hP : va_P D vwCl ([[(x, .inl (cY 1, nn, .inr (.inl f0)))]] : List va_W).flatten s.heap := hP
  have hD : va_D A ([[(x, .inl (cY 1, nn, .inr (.inl f0)))]] : List va_W).flatten := hD
  refine lv_iconst (v := nI 0) hx hb dJ7_fill_d0a16_0 (by decide) ?_
  refine lv_istore_n (lv' := [(3, .int (nI 0)), (0, .ref x), (1, .long v0)]) hx hb dJ7_fill_d0a16_1 rfl hl (by decide) rfl (fun ls hl => ?_)
  refine lv_aload_n hx hb dJ7_fill_d0a16_2 rfl (lv_at hl 1 rfl) ?_
  refine b_alen hx hb hK hP 0 1 rfl rfl dJ7_fill_d0a16_3 ?_
  refine eqi (x' := nI nn) rfl ?_
  refine lv_istore (lv' := [(4, .int (nI nn)), (3, .int (nI 0)), (0, .ref x), (1, .long v0)]) hx hb dJ7_fill_d0a16_4 hl (by decide) rfl (fun ls hl => ?_)
  have L6 : ∀ q : Nat, q ≤ nn → ∀ (fM : Nat → Int64), (PWI fM (fun _ => v0) q) → ∀ (H : Heap) (locs : List Loc), va_P D vwCl ([[(x, .inl (cY 1, nn, .inr (.inl fM)))]] : List va_W).flatten H → va_D A ([[(x, .inl (cY 1, nn, .inr (.inl fM)))]] : List va_W).flatten → va_S A s.heap H locs → ∀ (ls : Array Slot), lv_has ls 5 [(0, .ref x), (1, .long v0), (3, .int (nI q)), (4, .int (nI nn))] → W p l e ({ frames := 0, cells := 0, slots := 0, locals := 0 }) s m ([.ref x, .long v0] : List Value).toArray below meth c H locs 0 0 (MQ below (qV (S := (Nat → Int64)) D cY (fun u => ∀ j, j < nn → u j = v0) (fun u => [[(x, .inl (cY 1, nn, .inr (.inl u)))]]) A) ([.ref x, .long v0] : List Value).toArray s 0 0 A) (F0 m 6 ls []) := by
    refine lpW nn ?_
    intro q bdq ih6 fM hI H locs hP hD hS ls hl
    refine lv_iload_n hx hb dJ7_fill_d0a16_6 rfl (lv_at hl 2 rfl) ?_
    refine lv_iload hx hb dJ7_fill_d0a16_7 (lv_at hl 3 rfl) ?_
    refine n_icmp_ge (tgt := 22) hx hb dJ7_fill_d0a16_9 (by decide) (by omega) (by omega) (fun h9 => ?_) (fun h9 => ?_)
    · -- t
      exact r_v hx hb hr hlocks hP hD hS fM rfl (by (have e : q = nn := by omega); rw [← e]; exact hI) dJ7_fill_d0a16_22
    · -- f
      refine lv_aload_n hx hb dJ7_fill_d0a16_12 rfl (lv_at hl 0 rfl) ?_
      refine lv_iload_n hx hb dJ7_fill_d0a16_13 rfl (lv_at hl 2 rfl) ?_
      refine lv_lload_n hx hb dJ7_fill_d0a16_14 rfl (lv_at hl 1 rfl) ?_
      refine b_last hx hb hK hP hD hS 0 1 rfl rfl (by omega) (by omega) dJ7_fill_d0a16_15 (fun H locs hP hD hS => ?_)
      have hP : va_P D vwCl ([[(x, .inl (cY 1, nn, .inr (.inl (vp_updL fM q v0))))]] : List va_W).flatten H := hP
      have hD : va_D A ([[(x, .inl (cY 1, nn, .inr (.inl (vp_updL fM q v0))))]] : List va_W).flatten := hD
      refine lv_iinc (v := nI (q + 1)) (lv' := [(3, .int (nI (q + 1))), (0, .ref x), (1, .long v0), (4, .int (nI nn))]) hx hb dJ7_fill_d0a16_16 hl (k := 2) rfl (nI_1 q) (by decide) rfl (fun ls hl => ?_)
      refine lv_goto (tgt := 6) hx hb dJ7_fill_d0a16_19 (by decide) ?_
      exact ih6 (by omega) (vp_updL fM q v0) (PWI_s hI rfl) _ _ hP hD hS _ (lv_sub hl [1, 2, 0, 3] rfl)
  exact L6 0 (by omega) f0 PWI_0 _ _ hP hD hS _ (lv_sub hl [2, 3, 1, 0] rfl)

set_option maxHeartbeats 4000000 in
set_option maxRecDepth 100000 in
theorem c_J6_bitCount_0f7a4 (l : Launch) (D : va_G) (cY : Nat → ClassId) (sz : Nat) (X : Nat) (hX : X < 32) : Met l yJ6_bitCount_0f7a4 wsJ6_bitCount_0f7a4 ({ frames := 0, cells := 0, slots := 0, locals := 0 }) (cP D cY [.int (nI X)] [] sz) (qI (S := Unit) D cY (fun r u => r = nI (bitsN X 6)) (fun u => []) (va_A ([] : List va_W).flatten sz)) 0 0 (va_A ([] : List va_W).flatten sz) := by
  refine mtB (Qc := fun A => qI (S := Unit) D cY (fun r u => r = nI (bitsN X 6)) (fun u => []) A) (cc := cJ6_bitCount_0f7a4) (maxL := 1) (ret := (some .int)) (by decide) rfl (Nat.le_of_ble_eq_true rfl) ?_
  intro p e s m below meth c A ls hx hb hr hml hts hown hlocks hnm hsz hP hK hVK hD hS hA hl
  have hown : s.vm.findClass RJ6 = some m.cls := hown
  have hl : lv_has ls 1 [(0, .int (nI X))] := hl
  have hP : va_P D vwCl ([] : List va_W).flatten s.heap := hP
  have hD : va_D A ([] : List va_W).flatten := hD
  refine lv_iload_n hx hb dJ6_bitCount_0f7a4_0 rfl (lv_at hl 0 rfl) ?_
  refine lv_iload_n hx hb dJ6_bitCount_0f7a4_1 rfl (lv_at hl 0 rfl) ?_
  refine lv_iconst (v := nI 1) hx hb dJ6_bitCount_0f7a4_2 (by decide) ?_
  refine lv_iushr (v := ((nI X).toUInt32 >>> ((nI 1).toUInt32 &&& Int32.toUInt32 31)).toInt32) hx hb dJ6_bitCount_0f7a4_3 rfl ?_
  refine lv_ldcw (v := 1431655765) hx hb hown (hts (.constant RJ6 265 1431655765) (by decide +kernel)) dJ6_bitCount_0f7a4_4 ?_
  refine lv_iand hx hb dJ6_bitCount_0f7a4_7 ?_
  refine lv_isub hx hb dJ6_bitCount_0f7a4_8 ?_
  refine lv_istore_n (lv' := [(0, .int ((nI X) - ((((nI X).toUInt32 >>> ((nI 1).toUInt32 &&& Int32.toUInt32 31)).toInt32) &&& 1431655765)))]) hx hb dJ6_bitCount_0f7a4_9 rfl hl (by decide) rfl (fun ls hl => ?_)
  refine lv_iload_n hx hb dJ6_bitCount_0f7a4_10 rfl (lv_at hl 0 rfl) ?_
  refine lv_ldcw (v := 858993459) hx hb hown (hts (.constant RJ6 266 858993459) (by decide +kernel)) dJ6_bitCount_0f7a4_11 ?_
  refine lv_iand hx hb dJ6_bitCount_0f7a4_14 ?_
  refine lv_iload_n hx hb dJ6_bitCount_0f7a4_15 rfl (lv_at hl 0 rfl) ?_
  refine lv_iconst (v := nI 2) hx hb dJ6_bitCount_0f7a4_16 (by decide) ?_
  refine lv_iushr (v := (((nI X) - ((((nI X).toUInt32 >>> ((nI 1).toUInt32 &&& Int32.toUInt32 31)).toInt32) &&& 1431655765)).toUInt32 >>> ((nI 2).toUInt32 &&& Int32.toUInt32 31)).toInt32) hx hb dJ6_bitCount_0f7a4_17 rfl ?_
  refine lv_ldcw (v := 858993459) hx hb hown (hts (.constant RJ6 266 858993459) (by decide +kernel)) dJ6_bitCount_0f7a4_18 ?_
  refine lv_iand hx hb dJ6_bitCount_0f7a4_21 ?_
  refine lv_iadd hx hb dJ6_bitCount_0f7a4_22 ?_
  refine lv_istore_n (lv' := [(0, .int ((((nI X) - ((((nI X).toUInt32 >>> ((nI 1).toUInt32 &&& Int32.toUInt32 31)).toInt32) &&& 1431655765)) &&& 858993459) + (((((nI X) - ((((nI X).toUInt32 >>> ((nI 1).toUInt32 &&& Int32.toUInt32 31)).toInt32) &&& 1431655765)).toUInt32 >>> ((nI 2).toUInt32 &&& Int32.toUInt32 31)).toInt32) &&& 858993459)))]) hx hb dJ6_bitCount_0f7a4_23 rfl hl (by decide) rfl (fun ls hl => ?_)
  refine lv_iload_n hx hb dJ6_bitCount_0f7a4_24 rfl (lv_at hl 0 rfl) ?_
  refine lv_iload_n hx hb dJ6_bitCount_0f7a4_25 rfl (lv_at hl 0 rfl) ?_
  refine lv_iconst (v := nI 4) hx hb dJ6_bitCount_0f7a4_26 (by decide) ?_
  refine lv_iushr (v := (((((nI X) - ((((nI X).toUInt32 >>> ((nI 1).toUInt32 &&& Int32.toUInt32 31)).toInt32) &&& 1431655765)) &&& 858993459) + (((((nI X) - ((((nI X).toUInt32 >>> ((nI 1).toUInt32 &&& Int32.toUInt32 31)).toInt32) &&& 1431655765)).toUInt32 >>> ((nI 2).toUInt32 &&& Int32.toUInt32 31)).toInt32) &&& 858993459)).toUInt32 >>> ((nI 4).toUInt32 &&& Int32.toUInt32 31)).toInt32) hx hb dJ6_bitCount_0f7a4_27 rfl ?_
  refine lv_iadd hx hb dJ6_bitCount_0f7a4_28 ?_
  refine lv_ldcw (v := 252645135) hx hb hown (hts (.constant RJ6 267 252645135) (by decide +kernel)) dJ6_bitCount_0f7a4_29 ?_
  refine lv_iand hx hb dJ6_bitCount_0f7a4_32 ?_
  refine lv_istore_n (lv' := [(0, .int ((((((nI X) - ((((nI X).toUInt32 >>> ((nI 1).toUInt32 &&& Int32.toUInt32 31)).toInt32) &&& 1431655765)) &&& 858993459) + (((((nI X) - ((((nI X).toUInt32 >>> ((nI 1).toUInt32 &&& Int32.toUInt32 31)).toInt32) &&& 1431655765)).toUInt32 >>> ((nI 2).toUInt32 &&& Int32.toUInt32 31)).toInt32) &&& 858993459)) + ((((((nI X) - ((((nI X).toUInt32 >>> ((nI 1).toUInt32 &&& Int32.toUInt32 31)).toInt32) &&& 1431655765)) &&& 858993459) + (((((nI X) - ((((nI X).toUInt32 >>> ((nI 1).toUInt32 &&& Int32.toUInt32 31)).toInt32) &&& 1431655765)).toUInt32 >>> ((nI 2).toUInt32 &&& Int32.toUInt32 31)).toInt32) &&& 858993459)).toUInt32 >>> ((nI 4).toUInt32 &&& Int32.toUInt32 31)).toInt32)) &&& 252645135))]) hx hb dJ6_bitCount_0f7a4_33 rfl hl (by decide) rfl (fun ls hl => ?_)
  refine lv_iload_n hx hb dJ6_bitCount_0f7a4_34 rfl (lv_at hl 0 rfl) ?_
  refine lv_iload_n hx hb dJ6_bitCount_0f7a4_35 rfl (lv_at hl 0 rfl) ?_
  refine lv_bipush (v := nI 8) hx hb dJ6_bitCount_0f7a4_36 (by decide) ?_
  refine lv_iushr (v := (((((((nI X) - ((((nI X).toUInt32 >>> ((nI 1).toUInt32 &&& Int32.toUInt32 31)).toInt32) &&& 1431655765)) &&& 858993459) + (((((nI X) - ((((nI X).toUInt32 >>> ((nI 1).toUInt32 &&& Int32.toUInt32 31)).toInt32) &&& 1431655765)).toUInt32 >>> ((nI 2).toUInt32 &&& Int32.toUInt32 31)).toInt32) &&& 858993459)) + ((((((nI X) - ((((nI X).toUInt32 >>> ((nI 1).toUInt32 &&& Int32.toUInt32 31)).toInt32) &&& 1431655765)) &&& 858993459) + (((((nI X) - ((((nI X).toUInt32 >>> ((nI 1).toUInt32 &&& Int32.toUInt32 31)).toInt32) &&& 1431655765)).toUInt32 >>> ((nI 2).toUInt32 &&& Int32.toUInt32 31)).toInt32) &&& 858993459)).toUInt32 >>> ((nI 4).toUInt32 &&& Int32.toUInt32 31)).toInt32)) &&& 252645135).toUInt32 >>> ((nI 8).toUInt32 &&& Int32.toUInt32 31)).toInt32) hx hb dJ6_bitCount_0f7a4_38 rfl ?_
  refine lv_iadd hx hb dJ6_bitCount_0f7a4_39 ?_
  refine lv_istore_n (lv' := [(0, .int (((((((nI X) - ((((nI X).toUInt32 >>> ((nI 1).toUInt32 &&& Int32.toUInt32 31)).toInt32) &&& 1431655765)) &&& 858993459) + (((((nI X) - ((((nI X).toUInt32 >>> ((nI 1).toUInt32 &&& Int32.toUInt32 31)).toInt32) &&& 1431655765)).toUInt32 >>> ((nI 2).toUInt32 &&& Int32.toUInt32 31)).toInt32) &&& 858993459)) + ((((((nI X) - ((((nI X).toUInt32 >>> ((nI 1).toUInt32 &&& Int32.toUInt32 31)).toInt32) &&& 1431655765)) &&& 858993459) + (((((nI X) - ((((nI X).toUInt32 >>> ((nI 1).toUInt32 &&& Int32.toUInt32 31)).toInt32) &&& 1431655765)).toUInt32 >>> ((nI 2).toUInt32 &&& Int32.toUInt32 31)).toInt32) &&& 858993459)).toUInt32 >>> ((nI 4).toUInt32 &&& Int32.toUInt32 31)).toInt32)) &&& 252645135) + ((((((((nI X) - ((((nI X).toUInt32 >>> ((nI 1).toUInt32 &&& Int32.toUInt32 31)).toInt32) &&& 1431655765)) &&& 858993459) + (((((nI X) - ((((nI X).toUInt32 >>> ((nI 1).toUInt32 &&& Int32.toUInt32 31)).toInt32) &&& 1431655765)).toUInt32 >>> ((nI 2).toUInt32 &&& Int32.toUInt32 31)).toInt32) &&& 858993459)) + ((((((nI X) - ((((nI X).toUInt32 >>> ((nI 1).toUInt32 &&& Int32.toUInt32 31)).toInt32) &&& 1431655765)) &&& 858993459) + (((((nI X) - ((((nI X).toUInt32 >>> ((nI 1).toUInt32 &&& Int32.toUInt32 31)).toInt32) &&& 1431655765)).toUInt32 >>> ((nI 2).toUInt32 &&& Int32.toUInt32 31)).toInt32) &&& 858993459)).toUInt32 >>> ((nI 4).toUInt32 &&& Int32.toUInt32 31)).toInt32)) &&& 252645135).toUInt32 >>> ((nI 8).toUInt32 &&& Int32.toUInt32 31)).toInt32)))]) hx hb dJ6_bitCount_0f7a4_40 rfl hl (by decide) rfl (fun ls hl => ?_)
  refine lv_iload_n hx hb dJ6_bitCount_0f7a4_41 rfl (lv_at hl 0 rfl) ?_
  refine lv_iload_n hx hb dJ6_bitCount_0f7a4_42 rfl (lv_at hl 0 rfl) ?_
  refine lv_bipush (v := nI 16) hx hb dJ6_bitCount_0f7a4_43 (by decide) ?_
  refine lv_iushr (v := ((((((((nI X) - ((((nI X).toUInt32 >>> ((nI 1).toUInt32 &&& Int32.toUInt32 31)).toInt32) &&& 1431655765)) &&& 858993459) + (((((nI X) - ((((nI X).toUInt32 >>> ((nI 1).toUInt32 &&& Int32.toUInt32 31)).toInt32) &&& 1431655765)).toUInt32 >>> ((nI 2).toUInt32 &&& Int32.toUInt32 31)).toInt32) &&& 858993459)) + ((((((nI X) - ((((nI X).toUInt32 >>> ((nI 1).toUInt32 &&& Int32.toUInt32 31)).toInt32) &&& 1431655765)) &&& 858993459) + (((((nI X) - ((((nI X).toUInt32 >>> ((nI 1).toUInt32 &&& Int32.toUInt32 31)).toInt32) &&& 1431655765)).toUInt32 >>> ((nI 2).toUInt32 &&& Int32.toUInt32 31)).toInt32) &&& 858993459)).toUInt32 >>> ((nI 4).toUInt32 &&& Int32.toUInt32 31)).toInt32)) &&& 252645135) + ((((((((nI X) - ((((nI X).toUInt32 >>> ((nI 1).toUInt32 &&& Int32.toUInt32 31)).toInt32) &&& 1431655765)) &&& 858993459) + (((((nI X) - ((((nI X).toUInt32 >>> ((nI 1).toUInt32 &&& Int32.toUInt32 31)).toInt32) &&& 1431655765)).toUInt32 >>> ((nI 2).toUInt32 &&& Int32.toUInt32 31)).toInt32) &&& 858993459)) + ((((((nI X) - ((((nI X).toUInt32 >>> ((nI 1).toUInt32 &&& Int32.toUInt32 31)).toInt32) &&& 1431655765)) &&& 858993459) + (((((nI X) - ((((nI X).toUInt32 >>> ((nI 1).toUInt32 &&& Int32.toUInt32 31)).toInt32) &&& 1431655765)).toUInt32 >>> ((nI 2).toUInt32 &&& Int32.toUInt32 31)).toInt32) &&& 858993459)).toUInt32 >>> ((nI 4).toUInt32 &&& Int32.toUInt32 31)).toInt32)) &&& 252645135).toUInt32 >>> ((nI 8).toUInt32 &&& Int32.toUInt32 31)).toInt32)).toUInt32 >>> ((nI 16).toUInt32 &&& Int32.toUInt32 31)).toInt32) hx hb dJ6_bitCount_0f7a4_45 rfl ?_
  refine lv_iadd hx hb dJ6_bitCount_0f7a4_46 ?_
  refine lv_istore_n (lv' := [(0, .int ((((((((nI X) - ((((nI X).toUInt32 >>> ((nI 1).toUInt32 &&& Int32.toUInt32 31)).toInt32) &&& 1431655765)) &&& 858993459) + (((((nI X) - ((((nI X).toUInt32 >>> ((nI 1).toUInt32 &&& Int32.toUInt32 31)).toInt32) &&& 1431655765)).toUInt32 >>> ((nI 2).toUInt32 &&& Int32.toUInt32 31)).toInt32) &&& 858993459)) + ((((((nI X) - ((((nI X).toUInt32 >>> ((nI 1).toUInt32 &&& Int32.toUInt32 31)).toInt32) &&& 1431655765)) &&& 858993459) + (((((nI X) - ((((nI X).toUInt32 >>> ((nI 1).toUInt32 &&& Int32.toUInt32 31)).toInt32) &&& 1431655765)).toUInt32 >>> ((nI 2).toUInt32 &&& Int32.toUInt32 31)).toInt32) &&& 858993459)).toUInt32 >>> ((nI 4).toUInt32 &&& Int32.toUInt32 31)).toInt32)) &&& 252645135) + ((((((((nI X) - ((((nI X).toUInt32 >>> ((nI 1).toUInt32 &&& Int32.toUInt32 31)).toInt32) &&& 1431655765)) &&& 858993459) + (((((nI X) - ((((nI X).toUInt32 >>> ((nI 1).toUInt32 &&& Int32.toUInt32 31)).toInt32) &&& 1431655765)).toUInt32 >>> ((nI 2).toUInt32 &&& Int32.toUInt32 31)).toInt32) &&& 858993459)) + ((((((nI X) - ((((nI X).toUInt32 >>> ((nI 1).toUInt32 &&& Int32.toUInt32 31)).toInt32) &&& 1431655765)) &&& 858993459) + (((((nI X) - ((((nI X).toUInt32 >>> ((nI 1).toUInt32 &&& Int32.toUInt32 31)).toInt32) &&& 1431655765)).toUInt32 >>> ((nI 2).toUInt32 &&& Int32.toUInt32 31)).toInt32) &&& 858993459)).toUInt32 >>> ((nI 4).toUInt32 &&& Int32.toUInt32 31)).toInt32)) &&& 252645135).toUInt32 >>> ((nI 8).toUInt32 &&& Int32.toUInt32 31)).toInt32)) + (((((((((nI X) - ((((nI X).toUInt32 >>> ((nI 1).toUInt32 &&& Int32.toUInt32 31)).toInt32) &&& 1431655765)) &&& 858993459) + (((((nI X) - ((((nI X).toUInt32 >>> ((nI 1).toUInt32 &&& Int32.toUInt32 31)).toInt32) &&& 1431655765)).toUInt32 >>> ((nI 2).toUInt32 &&& Int32.toUInt32 31)).toInt32) &&& 858993459)) + ((((((nI X) - ((((nI X).toUInt32 >>> ((nI 1).toUInt32 &&& Int32.toUInt32 31)).toInt32) &&& 1431655765)) &&& 858993459) + (((((nI X) - ((((nI X).toUInt32 >>> ((nI 1).toUInt32 &&& Int32.toUInt32 31)).toInt32) &&& 1431655765)).toUInt32 >>> ((nI 2).toUInt32 &&& Int32.toUInt32 31)).toInt32) &&& 858993459)).toUInt32 >>> ((nI 4).toUInt32 &&& Int32.toUInt32 31)).toInt32)) &&& 252645135) + ((((((((nI X) - ((((nI X).toUInt32 >>> ((nI 1).toUInt32 &&& Int32.toUInt32 31)).toInt32) &&& 1431655765)) &&& 858993459) + (((((nI X) - ((((nI X).toUInt32 >>> ((nI 1).toUInt32 &&& Int32.toUInt32 31)).toInt32) &&& 1431655765)).toUInt32 >>> ((nI 2).toUInt32 &&& Int32.toUInt32 31)).toInt32) &&& 858993459)) + ((((((nI X) - ((((nI X).toUInt32 >>> ((nI 1).toUInt32 &&& Int32.toUInt32 31)).toInt32) &&& 1431655765)) &&& 858993459) + (((((nI X) - ((((nI X).toUInt32 >>> ((nI 1).toUInt32 &&& Int32.toUInt32 31)).toInt32) &&& 1431655765)).toUInt32 >>> ((nI 2).toUInt32 &&& Int32.toUInt32 31)).toInt32) &&& 858993459)).toUInt32 >>> ((nI 4).toUInt32 &&& Int32.toUInt32 31)).toInt32)) &&& 252645135).toUInt32 >>> ((nI 8).toUInt32 &&& Int32.toUInt32 31)).toInt32)).toUInt32 >>> ((nI 16).toUInt32 &&& Int32.toUInt32 31)).toInt32)))]) hx hb dJ6_bitCount_0f7a4_47 rfl hl (by decide) rfl (fun ls hl => ?_)
  refine lv_iload_n hx hb dJ6_bitCount_0f7a4_48 rfl (lv_at hl 0 rfl) ?_
  refine lv_bipush (v := nI 63) hx hb dJ6_bitCount_0f7a4_49 (by decide) ?_
  refine lv_iand hx hb dJ6_bitCount_0f7a4_51 ?_
  exact r_i hx hb hr hlocks hP hD hS () rfl ((show ∀ X : Nat, X < 32 → ((((((((nI X) - ((((nI X).toUInt32 >>> ((nI 1).toUInt32 &&& Int32.toUInt32 31)).toInt32) &&& 1431655765)) &&& 858993459) + (((((nI X) - ((((nI X).toUInt32 >>> ((nI 1).toUInt32 &&& Int32.toUInt32 31)).toInt32) &&& 1431655765)).toUInt32 >>> ((nI 2).toUInt32 &&& Int32.toUInt32 31)).toInt32) &&& 858993459)) + ((((((nI X) - ((((nI X).toUInt32 >>> ((nI 1).toUInt32 &&& Int32.toUInt32 31)).toInt32) &&& 1431655765)) &&& 858993459) + (((((nI X) - ((((nI X).toUInt32 >>> ((nI 1).toUInt32 &&& Int32.toUInt32 31)).toInt32) &&& 1431655765)).toUInt32 >>> ((nI 2).toUInt32 &&& Int32.toUInt32 31)).toInt32) &&& 858993459)).toUInt32 >>> ((nI 4).toUInt32 &&& Int32.toUInt32 31)).toInt32)) &&& 252645135) + ((((((((nI X) - ((((nI X).toUInt32 >>> ((nI 1).toUInt32 &&& Int32.toUInt32 31)).toInt32) &&& 1431655765)) &&& 858993459) + (((((nI X) - ((((nI X).toUInt32 >>> ((nI 1).toUInt32 &&& Int32.toUInt32 31)).toInt32) &&& 1431655765)).toUInt32 >>> ((nI 2).toUInt32 &&& Int32.toUInt32 31)).toInt32) &&& 858993459)) + ((((((nI X) - ((((nI X).toUInt32 >>> ((nI 1).toUInt32 &&& Int32.toUInt32 31)).toInt32) &&& 1431655765)) &&& 858993459) + (((((nI X) - ((((nI X).toUInt32 >>> ((nI 1).toUInt32 &&& Int32.toUInt32 31)).toInt32) &&& 1431655765)).toUInt32 >>> ((nI 2).toUInt32 &&& Int32.toUInt32 31)).toInt32) &&& 858993459)).toUInt32 >>> ((nI 4).toUInt32 &&& Int32.toUInt32 31)).toInt32)) &&& 252645135).toUInt32 >>> ((nI 8).toUInt32 &&& Int32.toUInt32 31)).toInt32)) + (((((((((nI X) - ((((nI X).toUInt32 >>> ((nI 1).toUInt32 &&& Int32.toUInt32 31)).toInt32) &&& 1431655765)) &&& 858993459) + (((((nI X) - ((((nI X).toUInt32 >>> ((nI 1).toUInt32 &&& Int32.toUInt32 31)).toInt32) &&& 1431655765)).toUInt32 >>> ((nI 2).toUInt32 &&& Int32.toUInt32 31)).toInt32) &&& 858993459)) + ((((((nI X) - ((((nI X).toUInt32 >>> ((nI 1).toUInt32 &&& Int32.toUInt32 31)).toInt32) &&& 1431655765)) &&& 858993459) + (((((nI X) - ((((nI X).toUInt32 >>> ((nI 1).toUInt32 &&& Int32.toUInt32 31)).toInt32) &&& 1431655765)).toUInt32 >>> ((nI 2).toUInt32 &&& Int32.toUInt32 31)).toInt32) &&& 858993459)).toUInt32 >>> ((nI 4).toUInt32 &&& Int32.toUInt32 31)).toInt32)) &&& 252645135) + ((((((((nI X) - ((((nI X).toUInt32 >>> ((nI 1).toUInt32 &&& Int32.toUInt32 31)).toInt32) &&& 1431655765)) &&& 858993459) + (((((nI X) - ((((nI X).toUInt32 >>> ((nI 1).toUInt32 &&& Int32.toUInt32 31)).toInt32) &&& 1431655765)).toUInt32 >>> ((nI 2).toUInt32 &&& Int32.toUInt32 31)).toInt32) &&& 858993459)) + ((((((nI X) - ((((nI X).toUInt32 >>> ((nI 1).toUInt32 &&& Int32.toUInt32 31)).toInt32) &&& 1431655765)) &&& 858993459) + (((((nI X) - ((((nI X).toUInt32 >>> ((nI 1).toUInt32 &&& Int32.toUInt32 31)).toInt32) &&& 1431655765)).toUInt32 >>> ((nI 2).toUInt32 &&& Int32.toUInt32 31)).toInt32) &&& 858993459)).toUInt32 >>> ((nI 4).toUInt32 &&& Int32.toUInt32 31)).toInt32)) &&& 252645135).toUInt32 >>> ((nI 8).toUInt32 &&& Int32.toUInt32 31)).toInt32)).toUInt32 >>> ((nI 16).toUInt32 &&& Int32.toUInt32 31)).toInt32)) &&& (nI 63) = nI (bitsN X 6) by decide +kernel) X hX) dJ6_bitCount_0f7a4_52

set_option maxHeartbeats 4000000 in
set_option maxRecDepth 100000 in
theorem c_X0_setOut (l : Launch) (D : va_G) (cY : Nat → ClassId) (sz : Nat) (b : Nat → Nat) (rr : Nat → Nat → Nat) (st0 : Int32) (sl0 : Int32) (fG : Nat → Nat → Int32) (fW : Nat → Nat → Int32) (n2 : Nat) (k2 : Nat)  : Met l yX0_setOut wsX0_setOut ({ frames := 1, cells := 0, slots := 0, locals := 40 }) (cP D cY [.ref (b 1), .int (nI n2), .int (nI k2)] [cO b st0 sl0, oQ (cY 2) (b 2) (rr 0) 6, gI (cY 0) (rr 0) 12 fG 6, oQ (cY 2) (b 3) (rr 1) 6, gI (cY 0) (rr 1) 6 fW 6] sz) (qV (S := (Nat → Nat → Int32) × (Nat → Nat → Int32)) D cY (fun u => (∀ i j, i < 6 → j < 12 → u.1 i j = nI i) ∧ ∀ i j, i < 6 → j < 6 → u.2 i j = (if i = j then nI k2 else nI 0)) (fun u => [cO b (nI n2) (nI k2), oQ (cY 2) (b 2) (rr 0) 6, gI (cY 0) (rr 0) 12 u.1 6, oQ (cY 2) (b 3) (rr 1) 6, gI (cY 0) (rr 1) 6 u.2 6]) (va_A ([cO b st0 sl0, oQ (cY 2) (b 2) (rr 0) 6, gI (cY 0) (rr 0) 12 fG 6, oQ (cY 2) (b 3) (rr 1) 6, gI (cY 0) (rr 1) 6 fW 6] : List va_W).flatten sz)) 0 0 (va_A ([cO b st0 sl0, oQ (cY 2) (b 2) (rr 0) 6, gI (cY 0) (rr 0) 12 fG 6, oQ (cY 2) (b 3) (rr 1) 6, gI (cY 0) (rr 1) 6 fW 6] : List va_W).flatten sz) := by
  refine mtB (Qc := fun A => qV (S := (Nat → Nat → Int32) × (Nat → Nat → Int32)) D cY (fun u => (∀ i j, i < 6 → j < 12 → u.1 i j = nI i) ∧ ∀ i j, i < 6 → j < 6 → u.2 i j = (if i = j then nI k2 else nI 0)) (fun u => [cO b (nI n2) (nI k2), oQ (cY 2) (b 2) (rr 0) 6, gI (cY 0) (rr 0) 12 u.1 6, oQ (cY 2) (b 3) (rr 1) 6, gI (cY 0) (rr 1) 6 u.2 6]) A) (cc := cX0_setOut) (maxL := 4) (ret := none) (by decide) rfl (Nat.le_of_ble_eq_true rfl) ?_
  intro p e s m below meth c A ls hx hb hr hml hts hown hlocks hnm hsz hP hK hVK hD hS hA hl
  have hown : s.vm.findClass RX0 = some m.cls := hown
  have hl : lv_has ls 4 [(0, .ref (b 1)), (1, .int (nI n2)), (2, .int (nI k2))] := hl
  have hP : va_P D vwCl ([cO b st0 sl0, oQ (cY 2) (b 2) (rr 0) 6, gI (cY 0) (rr 0) 12 fG 6, oQ (cY 2) (b 3) (rr 1) 6, gI (cY 0) (rr 1) 6 fW 6] : List va_W).flatten s.heap := hP
  have hD : va_D A ([cO b st0 sl0, oQ (cY 2) (b 2) (rr 0) 6, gI (cY 0) (rr 0) 12 fG 6, oQ (cY 2) (b 3) (rr 1) 6, gI (cY 0) (rr 1) 6 fW 6] : List va_W).flatten := hD
  refine lv_aload_n hx hb dX0_setOut_0 rfl (lv_at hl 0 rfl) ?_
  refine lv_iload_n hx hb dX0_setOut_1 rfl (lv_at hl 1 rfl) ?_
  refine b_put (ci := 0) (v := .int (nI n2)) (ty := .int) (C := RX0) (T := TX0) (N := 4) hx hb hts (by decide +kernel) tyX0 tyX0_ok nmX0 hown hK hP hD hS 0 rfl rfl 0 (by decide) (hts (.fieldLink RX0 19 "ChanceHall$Chain" "states" "I") (by decide +kernel)) (fun _ h9 => h9) rfl (by decide +kernel) rfl rfl (Nat.le_of_ble_eq_true rfl) dX0_setOut_2 (fun H locs hP hD hS => ?_)
  have hP : va_P D vwCl ([cO b (nI n2) sl0, oQ (cY 2) (b 2) (rr 0) 6, gI (cY 0) (rr 0) 12 fG 6, oQ (cY 2) (b 3) (rr 1) 6, gI (cY 0) (rr 1) 6 fW 6] : List va_W).flatten H := hP
  have hD : va_D A ([cO b (nI n2) sl0, oQ (cY 2) (b 2) (rr 0) 6, gI (cY 0) (rr 0) 12 fG 6, oQ (cY 2) (b 3) (rr 1) 6, gI (cY 0) (rr 1) 6 fW 6] : List va_W).flatten := hD
  refine lv_aload_n hx hb dX0_setOut_5 rfl (lv_at hl 0 rfl) ?_
  refine lv_iload_n hx hb dX0_setOut_6 rfl (lv_at hl 2 rfl) ?_
  refine b_put (ci := 0) (v := .int (nI k2)) (ty := .int) (C := RX0) (T := TX0) (N := 4) hx hb hts (by decide +kernel) tyX0 tyX0_ok nmX0 hown hK hP hD hS 0 rfl rfl 1 (by decide) (hts (.fieldLink RX0 23 "ChanceHall$Chain" "slots" "I") (by decide +kernel)) (fun _ h9 => h9) rfl (by decide +kernel) rfl rfl (Nat.le_of_ble_eq_true rfl) dX0_setOut_7 (fun H locs hP hD hS => ?_)
  have hP : va_P D vwCl ([cO b (nI n2) (nI k2), oQ (cY 2) (b 2) (rr 0) 6, gI (cY 0) (rr 0) 12 fG 6, oQ (cY 2) (b 3) (rr 1) 6, gI (cY 0) (rr 1) 6 fW 6] : List va_W).flatten H := hP
  have hD : va_D A ([cO b (nI n2) (nI k2), oQ (cY 2) (b 2) (rr 0) 6, gI (cY 0) (rr 0) 12 fG 6, oQ (cY 2) (b 3) (rr 1) 6, gI (cY 0) (rr 1) 6 fW 6] : List va_W).flatten := hD
  refine lv_iconst (v := nI 0) hx hb dX0_setOut_10 (by decide) ?_
  refine lv_istore_n (lv' := [(3, .int (nI 0)), (0, .ref (b 1)), (1, .int (nI n2)), (2, .int (nI k2))]) hx hb dX0_setOut_11 rfl hl (by decide) rfl (fun ls hl => ?_)
  have L12 : ∀ u : Nat, u ≤ 6 → ∀ (gG : Nat → Nat → Int32) (gW : Nat → Nat → Int32), (SO gG gW k2 u) → ∀ (H : Heap) (locs : List Loc), va_P D vwCl ([cO b (nI n2) (nI k2), oQ (cY 2) (b 2) (rr 0) 6, gI (cY 0) (rr 0) 12 gG 6, oQ (cY 2) (b 3) (rr 1) 6, gI (cY 0) (rr 1) 6 gW 6] : List va_W).flatten H → va_D A ([cO b (nI n2) (nI k2), oQ (cY 2) (b 2) (rr 0) 6, gI (cY 0) (rr 0) 12 gG 6, oQ (cY 2) (b 3) (rr 1) 6, gI (cY 0) (rr 1) 6 gW 6] : List va_W).flatten → va_S A s.heap H locs → ∀ (ls : Array Slot), lv_has ls 4 [(0, .ref (b 1)), (1, .int (nI n2)), (2, .int (nI k2)), (3, .int (nI u))] → W p l e ({ frames := 1, cells := 0, slots := 0, locals := 40 }) s m ([.ref (b 1), .int (nI n2), .int (nI k2)] : List Value).toArray below meth c H locs 0 0 (MQ below (qV (S := (Nat → Nat → Int32) × (Nat → Nat → Int32)) D cY (fun u => (∀ i j, i < 6 → j < 12 → u.1 i j = nI i) ∧ ∀ i j, i < 6 → j < 6 → u.2 i j = (if i = j then nI k2 else nI 0)) (fun u => [cO b (nI n2) (nI k2), oQ (cY 2) (b 2) (rr 0) 6, gI (cY 0) (rr 0) 12 u.1 6, oQ (cY 2) (b 3) (rr 1) 6, gI (cY 0) (rr 1) 6 u.2 6]) A) ([.ref (b 1), .int (nI n2), .int (nI k2)] : List Value).toArray s 0 0 A) (F0 m 12 ls []) := by
    refine lpW 6 ?_
    intro u bdu ih12 gG gW hI H locs hP hD hS ls hl
    refine lv_iload_n hx hb dX0_setOut_12 rfl (lv_at hl 3 rfl) ?_
    refine lv_bipush (v := nI 6) hx hb dX0_setOut_13 (by decide) ?_
    refine n_icmp_ge (tgt := 53) hx hb dX0_setOut_15 (by decide) (by omega) (by omega) (fun h15 => ?_) (fun h15 => ?_)
    · -- t
      exact r_v hx hb hr hlocks hP hD hS (gG, gW) rfl (by (have e : u = 6 := by omega); subst e; exact hI) dX0_setOut_53
    · -- f
      refine lv_aload_n hx hb dX0_setOut_18 rfl (lv_at hl 0 rfl) ?_
      refine b_get (ci := 0) (v := .ref (b 2)) (C := RX0) (T := TX0) (N := 4) hx hb hts (by decide +kernel) hown hK hP 0 rfl rfl 2 (by decide) (hts (.fieldLink RX0 11 "ChanceHall$Chain" "goesTo" "[[I") (by decide +kernel)) (fun _ h9 => h9) rfl dX0_setOut_19 ?_
      refine lv_iload_n hx hb dX0_setOut_22 rfl (lv_at hl 3 rfl) ?_
      refine g_aald hx hb hK hP 1 2 rfl rfl (by omega) (by decide) dX0_setOut_23 ?_
      refine lv_iload_n hx hb dX0_setOut_24 rfl (lv_at hl 3 rfl) ?_
      obtain ⟨X_1, hP, hD, hbk2⟩ := g_outI hP hD (b := 2) rfl (j := u) (by omega)
      have hP : va_P D vwCl ([cO b (nI n2) (nI k2), oQ (cY 2) (b 2) (rr 0) 6, X_1, oQ (cY 2) (b 3) (rr 1) 6, gI (cY 0) (rr 1) 6 gW 6, [(rr 0 u, .inl (cY 0, 12, .inl (gG u)))]] : List va_W).flatten H := hP
      have hD : va_D A ([cO b (nI n2) (nI k2), oQ (cY 2) (b 2) (rr 0) 6, X_1, oQ (cY 2) (b 3) (rr 1) 6, gI (cY 0) (rr 1) 6 gW 6, [(rr 0 u, .inl (cY 0, 12, .inl (gG u)))]] : List va_W).flatten := hD
      refine ca_v (CL := [[(rr 0 u, .inl (cY 0, 12, .inl (gG u)))]]) (va_runS (As := [.ref (rr 0 u), .int (nI u)]) (rest := []) ⟨hx, hb, hml, hown, hts⟩ (c_J7_fill_53178 l D cY H.size (rr 0 u) 12 (gG u) (nI u) (by omega)) (va_cwS 2 hts gX0_setOut_J7_fill_53178 rfl rfl rfl (by decide +kernel) ⟨Nat.le_of_ble_eq_true rfl, Nat.le_of_ble_eq_true rfl⟩) (b_preS hVK hP hD [5] rfl rfl) rfl rfl hl.1 rfl (lv_room (Nat.le_of_ble_eq_true rfl)) dX0_setOut_25 ⟨Nat.le_refl _, Nat.le_refl _⟩) hP hD hS hA [5] rfl rfl (fun _ => rfl) (fun uu H locs hq hP hD hS => ?_)
      obtain ⟨f1_3, rfl⟩ : ∃ z, z = uu := ⟨_, rfl⟩
      try dsimp only at hq
      have q25 := hq
      have hP : va_P D vwCl ([cO b (nI n2) (nI k2), oQ (cY 2) (b 2) (rr 0) 6, X_1, oQ (cY 2) (b 3) (rr 1) 6, gI (cY 0) (rr 1) 6 gW 6, [(rr 0 u, .inl (cY 0, 12, .inl f1_3))]] : List va_W).flatten H := hP
      have hD : va_D A ([cO b (nI n2) (nI k2), oQ (cY 2) (b 2) (rr 0) 6, X_1, oQ (cY 2) (b 3) (rr 1) 6, gI (cY 0) (rr 1) 6 gW 6, [(rr 0 u, .inl (cY 0, 12, .inl f1_3))]] : List va_W).flatten := hD
      obtain ⟨hP, hD⟩ := hbk2 _ _ hP hD
      have hP : va_P D vwCl ([cO b (nI n2) (nI k2), oQ (cY 2) (b 2) (rr 0) 6, gI (cY 0) (rr 0) 12 (va_up gG u f1_3) 6, oQ (cY 2) (b 3) (rr 1) 6, gI (cY 0) (rr 1) 6 gW 6] : List va_W).flatten H := hP
      have hD : va_D A ([cO b (nI n2) (nI k2), oQ (cY 2) (b 2) (rr 0) 6, gI (cY 0) (rr 0) 12 (va_up gG u f1_3) 6, oQ (cY 2) (b 3) (rr 1) 6, gI (cY 0) (rr 1) 6 gW 6] : List va_W).flatten := hD
      refine lv_aload_n hx hb dX0_setOut_28 rfl (lv_at hl 0 rfl) ?_
      refine b_get (ci := 0) (v := .ref (b 3)) (C := RX0) (T := TX0) (N := 4) hx hb hts (by decide +kernel) hown hK hP 0 rfl rfl 3 (by decide) (hts (.fieldLink RX0 16 "ChanceHall$Chain" "weights" "[[I") (by decide +kernel)) (fun _ h9 => h9) rfl dX0_setOut_29 ?_
      refine lv_iload_n hx hb dX0_setOut_32 rfl (lv_at hl 3 rfl) ?_
      refine g_aald hx hb hK hP 3 2 rfl rfl (by omega) (by decide) dX0_setOut_33 ?_
      refine lv_iconst (v := nI 0) hx hb dX0_setOut_34 (by decide) ?_
      obtain ⟨X_4, hP, hD, hbk5⟩ := g_outI hP hD (b := 4) rfl (j := u) (by omega)
      have hP : va_P D vwCl ([cO b (nI n2) (nI k2), oQ (cY 2) (b 2) (rr 0) 6, gI (cY 0) (rr 0) 12 (va_up gG u f1_3) 6, oQ (cY 2) (b 3) (rr 1) 6, X_4, [(rr 1 u, .inl (cY 0, 6, .inl (gW u)))]] : List va_W).flatten H := hP
      have hD : va_D A ([cO b (nI n2) (nI k2), oQ (cY 2) (b 2) (rr 0) 6, gI (cY 0) (rr 0) 12 (va_up gG u f1_3) 6, oQ (cY 2) (b 3) (rr 1) 6, X_4, [(rr 1 u, .inl (cY 0, 6, .inl (gW u)))]] : List va_W).flatten := hD
      refine ca_v (CL := [[(rr 1 u, .inl (cY 0, 6, .inl (gW u)))]]) (va_runS (As := [.ref (rr 1 u), .int (nI 0)]) (rest := []) ⟨hx, hb, hml, hown, hts⟩ (c_J7_fill_53178 l D cY H.size (rr 1 u) 6 (gW u) (nI 0) (by omega)) (va_cwS 2 hts gX0_setOut_J7_fill_53178 rfl rfl rfl (by decide +kernel) ⟨Nat.le_of_ble_eq_true rfl, Nat.le_of_ble_eq_true rfl⟩) (b_preS hVK hP hD [5] rfl rfl) rfl rfl hl.1 rfl (lv_room (Nat.le_of_ble_eq_true rfl)) dX0_setOut_35 ⟨Nat.le_refl _, Nat.le_refl _⟩) hP hD hS hA [5] rfl rfl (fun _ => rfl) (fun uu H locs hq hP hD hS => ?_)
      obtain ⟨f1_6, rfl⟩ : ∃ z, z = uu := ⟨_, rfl⟩
      try dsimp only at hq
      have q35 := hq
      have hP : va_P D vwCl ([cO b (nI n2) (nI k2), oQ (cY 2) (b 2) (rr 0) 6, gI (cY 0) (rr 0) 12 (va_up gG u f1_3) 6, oQ (cY 2) (b 3) (rr 1) 6, X_4, [(rr 1 u, .inl (cY 0, 6, .inl f1_6))]] : List va_W).flatten H := hP
      have hD : va_D A ([cO b (nI n2) (nI k2), oQ (cY 2) (b 2) (rr 0) 6, gI (cY 0) (rr 0) 12 (va_up gG u f1_3) 6, oQ (cY 2) (b 3) (rr 1) 6, X_4, [(rr 1 u, .inl (cY 0, 6, .inl f1_6))]] : List va_W).flatten := hD
      obtain ⟨hP, hD⟩ := hbk5 _ _ hP hD
      have hP : va_P D vwCl ([cO b (nI n2) (nI k2), oQ (cY 2) (b 2) (rr 0) 6, gI (cY 0) (rr 0) 12 (va_up gG u f1_3) 6, oQ (cY 2) (b 3) (rr 1) 6, gI (cY 0) (rr 1) 6 (va_up gW u f1_6) 6] : List va_W).flatten H := hP
      have hD : va_D A ([cO b (nI n2) (nI k2), oQ (cY 2) (b 2) (rr 0) 6, gI (cY 0) (rr 0) 12 (va_up gG u f1_3) 6, oQ (cY 2) (b 3) (rr 1) 6, gI (cY 0) (rr 1) 6 (va_up gW u f1_6) 6] : List va_W).flatten := hD
      refine lv_aload_n hx hb dX0_setOut_38 rfl (lv_at hl 0 rfl) ?_
      refine b_get (ci := 0) (v := .ref (b 3)) (C := RX0) (T := TX0) (N := 4) hx hb hts (by decide +kernel) hown hK hP 0 rfl rfl 3 (by decide) (hts (.fieldLink RX0 16 "ChanceHall$Chain" "weights" "[[I") (by decide +kernel)) (fun _ h9 => h9) rfl dX0_setOut_39 ?_
      refine lv_iload_n hx hb dX0_setOut_42 rfl (lv_at hl 3 rfl) ?_
      refine g_aald hx hb hK hP 3 2 rfl rfl (by omega) (by decide) dX0_setOut_43 ?_
      refine lv_iload_n hx hb dX0_setOut_44 rfl (lv_at hl 3 rfl) ?_
      refine lv_iload_n hx hb dX0_setOut_45 rfl (lv_at hl 2 rfl) ?_
      refine g_iast hx hb hK hP hD hS 4 0 rfl rfl (by omega) (by omega) (by decide) dX0_setOut_46 (fun H locs hP hD hS => ?_)
      have hP : va_P D vwCl ([cO b (nI n2) (nI k2), oQ (cY 2) (b 2) (rr 0) 6, gI (cY 0) (rr 0) 12 (va_up gG u f1_3) 6, oQ (cY 2) (b 3) (rr 1) 6, gI (cY 0) (rr 1) 6 (va_up (va_up gW u f1_6) u (upd ((va_up gW u f1_6) u) u (nI k2))) 6] : List va_W).flatten H := hP
      have hD : va_D A ([cO b (nI n2) (nI k2), oQ (cY 2) (b 2) (rr 0) 6, gI (cY 0) (rr 0) 12 (va_up gG u f1_3) 6, oQ (cY 2) (b 3) (rr 1) 6, gI (cY 0) (rr 1) 6 (va_up (va_up gW u f1_6) u (upd ((va_up gW u f1_6) u) u (nI k2))) 6] : List va_W).flatten := hD
      refine lv_iinc (v := nI (u + 1)) (lv' := [(3, .int (nI (u + 1))), (0, .ref (b 1)), (1, .int (nI n2)), (2, .int (nI k2))]) hx hb dX0_setOut_47 hl (k := 3) rfl (nI_1 u) (by decide) rfl (fun ls hl => ?_)
      refine lv_goto (tgt := 12) hx hb dX0_setOut_50 (by decide) ?_
      exact ih12 (by omega) (va_up gG u f1_3) (va_up (va_up gW u f1_6) u (upd ((va_up gW u f1_6) u) u (nI k2))) (SO_s hI q25 q35) _ _ hP hD hS _ (lv_sub hl [1, 2, 3, 0] rfl)
  exact L12 0 (by omega) fG fW SO_0 _ _ hP hD hS _ (lv_sub hl [1, 2, 3, 0] rfl)

set_option maxHeartbeats 4000000 in
set_option maxRecDepth 100000 in
theorem c_X0_turn (l : Launch) (D : va_G) (cY : Nat → ClassId) (sz : Nat) (b : Nat → Nat) (rr : Nat → Nat → Nat) (n : Nat) (k : Nat) (fG : Nat → Nat → Int32) (fW : Nat → Nat → Int32) (g : Nat → Nat → Nat) (i : Nat) (j : Nat) (w : Nat) (hn1 : 1 ≤ n) (hn6 : n ≤ 6) (hk1 : 1 ≤ k) (hk12 : k ≤ 12) (hG : ∀ i j, i < n → j < k → fG i j = nI (g i j)) (hgn : ∀ i j, i < n → j < k → g i j < n) (hW : ∀ i j, i < n → j < n → fW i j = nI (cnt (g i) j k)) (hi : i < n) (hj : j < k) (hw : w < n) : Met l yX0_turn wsX0_turn ({ frames := 0, cells := 0, slots := 0, locals := 0 }) (cP D cY [.ref (b 1), .int (nI i), .int (nI j), .int (nI w)] [cO b (nI n) (nI k), oQ (cY 2) (b 2) (rr 0) 6, gI (cY 0) (rr 0) 12 fG 6, oQ (cY 2) (b 3) (rr 1) 6, gI (cY 0) (rr 1) 6 fW 6] sz) (qI (S := Unit) D cY (fun r u => r = nI (g i j)) (fun u => [cO b (nI n) (nI k), oQ (cY 2) (b 2) (rr 0) 6, gI (cY 0) (rr 0) 12 (va_up fG i (upd (fG i) j (nI w))) 6, oQ (cY 2) (b 3) (rr 1) 6, gI (cY 0) (rr 1) 6 (va_up (va_up fW i (upd (fW i) (g i j) (fW i (g i j) - nI 1))) i (upd ((va_up fW i (upd (fW i) (g i j) (fW i (g i j) - nI 1))) i) w (((va_up fW i (upd (fW i) (g i j) (fW i (g i j) - nI 1))) i w) + nI 1))) 6]) (va_A ([cO b (nI n) (nI k), oQ (cY 2) (b 2) (rr 0) 6, gI (cY 0) (rr 0) 12 fG 6, oQ (cY 2) (b 3) (rr 1) 6, gI (cY 0) (rr 1) 6 fW 6] : List va_W).flatten sz)) 0 0 (va_A ([cO b (nI n) (nI k), oQ (cY 2) (b 2) (rr 0) 6, gI (cY 0) (rr 0) 12 fG 6, oQ (cY 2) (b 3) (rr 1) 6, gI (cY 0) (rr 1) 6 fW 6] : List va_W).flatten sz) := by
  refine mtB (Qc := fun A => qI (S := Unit) D cY (fun r u => r = nI (g i j)) (fun u => [cO b (nI n) (nI k), oQ (cY 2) (b 2) (rr 0) 6, gI (cY 0) (rr 0) 12 (va_up fG i (upd (fG i) j (nI w))) 6, oQ (cY 2) (b 3) (rr 1) 6, gI (cY 0) (rr 1) 6 (va_up (va_up fW i (upd (fW i) (g i j) (fW i (g i j) - nI 1))) i (upd ((va_up fW i (upd (fW i) (g i j) (fW i (g i j) - nI 1))) i) w (((va_up fW i (upd (fW i) (g i j) (fW i (g i j) - nI 1))) i w) + nI 1))) 6]) A) (cc := cX0_turn) (maxL := 5) (ret := (some .int)) (by decide) rfl (Nat.le_of_ble_eq_true rfl) ?_
  intro p e s m below meth c A ls hx hb hr hml hts hown hlocks hnm hsz hP hK hVK hD hS hA hl
  have hown : s.vm.findClass RX0 = some m.cls := hown
  have hl : lv_has ls 5 [(0, .ref (b 1)), (1, .int (nI i)), (2, .int (nI j)), (3, .int (nI w))] := hl
  have hP : va_P D vwCl ([cO b (nI n) (nI k), oQ (cY 2) (b 2) (rr 0) 6, gI (cY 0) (rr 0) 12 fG 6, oQ (cY 2) (b 3) (rr 1) 6, gI (cY 0) (rr 1) 6 fW 6] : List va_W).flatten s.heap := hP
  have hD : va_D A ([cO b (nI n) (nI k), oQ (cY 2) (b 2) (rr 0) 6, gI (cY 0) (rr 0) 12 fG 6, oQ (cY 2) (b 3) (rr 1) 6, gI (cY 0) (rr 1) 6 fW 6] : List va_W).flatten := hD
  refine lv_aload_n hx hb dX0_turn_0 rfl (lv_at hl 0 rfl) ?_
  refine b_get (ci := 0) (v := .ref (b 2)) (C := RX0) (T := TX0) (N := 4) hx hb hts (by decide +kernel) hown hK hP 0 rfl rfl 2 (by decide) (hts (.fieldLink RX0 11 "ChanceHall$Chain" "goesTo" "[[I") (by decide +kernel)) (fun _ h9 => h9) rfl dX0_turn_1 ?_
  refine lv_iload_n hx hb dX0_turn_4 rfl (lv_at hl 1 rfl) ?_
  refine g_aald hx hb hK hP 1 2 rfl rfl (by omega) (by decide) dX0_turn_5 ?_
  refine lv_iload_n hx hb dX0_turn_6 rfl (lv_at hl 2 rfl) ?_
  refine g_iald hx hb hK hP 2 0 rfl rfl (by omega) (by omega) (by decide) dX0_turn_7 ?_
  refine eqi (x' := nI (g i j)) (hG i j hi hj) ?_
  have hgi := hgn i j hi hj
  refine lv_istore (lv' := [(4, .int (nI (g i j))), (0, .ref (b 1)), (1, .int (nI i)), (2, .int (nI j)), (3, .int (nI w))]) hx hb dX0_turn_8 hl (by decide) rfl (fun ls hl => ?_)
  refine lv_aload_n hx hb dX0_turn_10 rfl (lv_at hl 1 rfl) ?_
  refine b_get (ci := 0) (v := .ref (b 2)) (C := RX0) (T := TX0) (N := 4) hx hb hts (by decide +kernel) hown hK hP 0 rfl rfl 2 (by decide) (hts (.fieldLink RX0 11 "ChanceHall$Chain" "goesTo" "[[I") (by decide +kernel)) (fun _ h9 => h9) rfl dX0_turn_11 ?_
  refine lv_iload_n hx hb dX0_turn_14 rfl (lv_at hl 2 rfl) ?_
  refine g_aald hx hb hK hP 1 2 rfl rfl (by omega) (by decide) dX0_turn_15 ?_
  refine lv_iload_n hx hb dX0_turn_16 rfl (lv_at hl 3 rfl) ?_
  refine lv_iload_n hx hb dX0_turn_17 rfl (lv_at hl 4 rfl) ?_
  refine g_iast hx hb hK hP hD hS 2 0 rfl rfl (by omega) (by omega) (by decide) dX0_turn_18 (fun H locs hP hD hS => ?_)
  have hP : va_P D vwCl ([cO b (nI n) (nI k), oQ (cY 2) (b 2) (rr 0) 6, gI (cY 0) (rr 0) 12 (va_up fG i (upd (fG i) j (nI w))) 6, oQ (cY 2) (b 3) (rr 1) 6, gI (cY 0) (rr 1) 6 fW 6] : List va_W).flatten H := hP
  have hD : va_D A ([cO b (nI n) (nI k), oQ (cY 2) (b 2) (rr 0) 6, gI (cY 0) (rr 0) 12 (va_up fG i (upd (fG i) j (nI w))) 6, oQ (cY 2) (b 3) (rr 1) 6, gI (cY 0) (rr 1) 6 fW 6] : List va_W).flatten := hD
  refine lv_aload_n hx hb dX0_turn_19 rfl (lv_at hl 1 rfl) ?_
  refine b_get (ci := 0) (v := .ref (b 3)) (C := RX0) (T := TX0) (N := 4) hx hb hts (by decide +kernel) hown hK hP 0 rfl rfl 3 (by decide) (hts (.fieldLink RX0 16 "ChanceHall$Chain" "weights" "[[I") (by decide +kernel)) (fun _ h9 => h9) rfl dX0_turn_20 ?_
  refine lv_iload_n hx hb dX0_turn_23 rfl (lv_at hl 2 rfl) ?_
  refine g_aald hx hb hK hP 3 2 rfl rfl (by omega) (by decide) dX0_turn_24 ?_
  refine lv_iload hx hb dX0_turn_25 (lv_at hl 0 rfl) ?_
  refine lv_dup2_11 hx hb dX0_turn_27 rfl rfl ?_
  refine g_iald hx hb hK hP 4 0 rfl rfl (by omega) (by omega) (by decide) dX0_turn_28 ?_
  refine lv_iconst (v := nI 1) hx hb dX0_turn_29 (by decide) ?_
  refine lv_isub hx hb dX0_turn_30 ?_
  refine g_iast hx hb hK hP hD hS 4 0 rfl rfl (by omega) (by omega) (by decide) dX0_turn_31 (fun H locs hP hD hS => ?_)
  have hP : va_P D vwCl ([cO b (nI n) (nI k), oQ (cY 2) (b 2) (rr 0) 6, gI (cY 0) (rr 0) 12 (va_up fG i (upd (fG i) j (nI w))) 6, oQ (cY 2) (b 3) (rr 1) 6, gI (cY 0) (rr 1) 6 (va_up fW i (upd (fW i) (g i j) ((fW i (g i j)) - (nI 1)))) 6] : List va_W).flatten H := hP
  have hD : va_D A ([cO b (nI n) (nI k), oQ (cY 2) (b 2) (rr 0) 6, gI (cY 0) (rr 0) 12 (va_up fG i (upd (fG i) j (nI w))) 6, oQ (cY 2) (b 3) (rr 1) 6, gI (cY 0) (rr 1) 6 (va_up fW i (upd (fW i) (g i j) ((fW i (g i j)) - (nI 1)))) 6] : List va_W).flatten := hD
  refine lv_aload_n hx hb dX0_turn_32 rfl (lv_at hl 1 rfl) ?_
  refine b_get (ci := 0) (v := .ref (b 3)) (C := RX0) (T := TX0) (N := 4) hx hb hts (by decide +kernel) hown hK hP 0 rfl rfl 3 (by decide) (hts (.fieldLink RX0 16 "ChanceHall$Chain" "weights" "[[I") (by decide +kernel)) (fun _ h9 => h9) rfl dX0_turn_33 ?_
  refine lv_iload_n hx hb dX0_turn_36 rfl (lv_at hl 2 rfl) ?_
  refine g_aald hx hb hK hP 3 2 rfl rfl (by omega) (by decide) dX0_turn_37 ?_
  refine lv_iload_n hx hb dX0_turn_38 rfl (lv_at hl 4 rfl) ?_
  refine lv_dup2_11 hx hb dX0_turn_39 rfl rfl ?_
  refine g_iald hx hb hK hP 4 0 rfl rfl (by omega) (by omega) (by decide) dX0_turn_40 ?_
  refine lv_iconst (v := nI 1) hx hb dX0_turn_41 (by decide) ?_
  refine lv_iadd hx hb dX0_turn_42 ?_
  refine g_iast hx hb hK hP hD hS 4 0 rfl rfl (by omega) (by omega) (by decide) dX0_turn_43 (fun H locs hP hD hS => ?_)
  have hP : va_P D vwCl ([cO b (nI n) (nI k), oQ (cY 2) (b 2) (rr 0) 6, gI (cY 0) (rr 0) 12 (va_up fG i (upd (fG i) j (nI w))) 6, oQ (cY 2) (b 3) (rr 1) 6, gI (cY 0) (rr 1) 6 (va_up (va_up fW i (upd (fW i) (g i j) ((fW i (g i j)) - (nI 1)))) i (upd ((va_up fW i (upd (fW i) (g i j) ((fW i (g i j)) - (nI 1)))) i) w (((va_up fW i (upd (fW i) (g i j) ((fW i (g i j)) - (nI 1)))) i w) + (nI 1)))) 6] : List va_W).flatten H := hP
  have hD : va_D A ([cO b (nI n) (nI k), oQ (cY 2) (b 2) (rr 0) 6, gI (cY 0) (rr 0) 12 (va_up fG i (upd (fG i) j (nI w))) 6, oQ (cY 2) (b 3) (rr 1) 6, gI (cY 0) (rr 1) 6 (va_up (va_up fW i (upd (fW i) (g i j) ((fW i (g i j)) - (nI 1)))) i (upd ((va_up fW i (upd (fW i) (g i j) ((fW i (g i j)) - (nI 1)))) i) w (((va_up fW i (upd (fW i) (g i j) ((fW i (g i j)) - (nI 1)))) i w) + (nI 1)))) 6] : List va_W).flatten := hD
  refine lv_iload hx hb dX0_turn_44 (lv_at hl 0 rfl) ?_
  exact r_i hx hb hr hlocks hP hD hS () rfl (rfl) dX0_turn_46

set_option maxHeartbeats 4000000 in
set_option maxRecDepth 100000 in
theorem c_X0_exchange (l : Launch) (D : va_G) (cY : Nat → ClassId) (sz : Nat) (b : Nat → Nat) (rr : Nat → Nat → Nat) (n : Nat) (k : Nat) (fG : Nat → Nat → Int32) (g : Nat → Nat → Nat) (i : Nat) (j : Nat) (w : Nat) (hn1 : 1 ≤ n) (hn6 : n ≤ 6) (hk1 : 1 ≤ k) (hk12 : k ≤ 12) (hG : ∀ i j, i < n → j < k → fG i j = nI (g i j)) (hgn : ∀ i j, i < n → j < k → g i j < n) (hi : i < n) (hj : j < k) (hw : w < k) : Met l yX0_exchange wsX0_exchange ({ frames := 0, cells := 0, slots := 0, locals := 0 }) (cP D cY [.ref (b 1), .int (nI i), .int (nI j), .int (nI w)] [cO b (nI n) (nI k), oQ (cY 2) (b 2) (rr 0) 6, gI (cY 0) (rr 0) 12 fG 6] sz) (qV (S := Unit) D cY (fun u => True) (fun u => [cO b (nI n) (nI k), oQ (cY 2) (b 2) (rr 0) 6, gI (cY 0) (rr 0) 12 (va_up (va_up fG i (upd (fG i) j (nI (g i w)))) i (upd ((va_up fG i (upd (fG i) j (nI (g i w)))) i) w (nI (g i j)))) 6]) (va_A ([cO b (nI n) (nI k), oQ (cY 2) (b 2) (rr 0) 6, gI (cY 0) (rr 0) 12 fG 6] : List va_W).flatten sz)) 0 0 (va_A ([cO b (nI n) (nI k), oQ (cY 2) (b 2) (rr 0) 6, gI (cY 0) (rr 0) 12 fG 6] : List va_W).flatten sz) := by
  refine mtB (Qc := fun A => qV (S := Unit) D cY (fun u => True) (fun u => [cO b (nI n) (nI k), oQ (cY 2) (b 2) (rr 0) 6, gI (cY 0) (rr 0) 12 (va_up (va_up fG i (upd (fG i) j (nI (g i w)))) i (upd ((va_up fG i (upd (fG i) j (nI (g i w)))) i) w (nI (g i j)))) 6]) A) (cc := cX0_exchange) (maxL := 5) (ret := none) (by decide) rfl (Nat.le_of_ble_eq_true rfl) ?_
  intro p e s m below meth c A ls hx hb hr hml hts hown hlocks hnm hsz hP hK hVK hD hS hA hl
  have hown : s.vm.findClass RX0 = some m.cls := hown
  have hl : lv_has ls 5 [(0, .ref (b 1)), (1, .int (nI i)), (2, .int (nI j)), (3, .int (nI w))] := hl
  have hP : va_P D vwCl ([cO b (nI n) (nI k), oQ (cY 2) (b 2) (rr 0) 6, gI (cY 0) (rr 0) 12 fG 6] : List va_W).flatten s.heap := hP
  have hD : va_D A ([cO b (nI n) (nI k), oQ (cY 2) (b 2) (rr 0) 6, gI (cY 0) (rr 0) 12 fG 6] : List va_W).flatten := hD
  refine lv_aload_n hx hb dX0_exchange_0 rfl (lv_at hl 0 rfl) ?_
  refine b_get (ci := 0) (v := .ref (b 2)) (C := RX0) (T := TX0) (N := 4) hx hb hts (by decide +kernel) hown hK hP 0 rfl rfl 2 (by decide) (hts (.fieldLink RX0 11 "ChanceHall$Chain" "goesTo" "[[I") (by decide +kernel)) (fun _ h9 => h9) rfl dX0_exchange_1 ?_
  refine lv_iload_n hx hb dX0_exchange_4 rfl (lv_at hl 1 rfl) ?_
  refine g_aald hx hb hK hP 1 2 rfl rfl (by omega) (by decide) dX0_exchange_5 ?_
  refine lv_iload_n hx hb dX0_exchange_6 rfl (lv_at hl 2 rfl) ?_
  refine g_iald hx hb hK hP 2 0 rfl rfl (by omega) (by omega) (by decide) dX0_exchange_7 ?_
  refine eqi (x' := nI (g i j)) (hG i j hi hj) ?_
  refine lv_istore (lv' := [(4, .int (nI (g i j))), (0, .ref (b 1)), (1, .int (nI i)), (2, .int (nI j)), (3, .int (nI w))]) hx hb dX0_exchange_8 hl (by decide) rfl (fun ls hl => ?_)
  refine lv_aload_n hx hb dX0_exchange_10 rfl (lv_at hl 1 rfl) ?_
  refine b_get (ci := 0) (v := .ref (b 2)) (C := RX0) (T := TX0) (N := 4) hx hb hts (by decide +kernel) hown hK hP 0 rfl rfl 2 (by decide) (hts (.fieldLink RX0 11 "ChanceHall$Chain" "goesTo" "[[I") (by decide +kernel)) (fun _ h9 => h9) rfl dX0_exchange_11 ?_
  refine lv_iload_n hx hb dX0_exchange_14 rfl (lv_at hl 2 rfl) ?_
  refine g_aald hx hb hK hP 1 2 rfl rfl (by omega) (by decide) dX0_exchange_15 ?_
  refine lv_iload_n hx hb dX0_exchange_16 rfl (lv_at hl 3 rfl) ?_
  refine lv_aload_n hx hb dX0_exchange_17 rfl (lv_at hl 1 rfl) ?_
  refine b_get (ci := 0) (v := .ref (b 2)) (C := RX0) (T := TX0) (N := 4) hx hb hts (by decide +kernel) hown hK hP 0 rfl rfl 2 (by decide) (hts (.fieldLink RX0 11 "ChanceHall$Chain" "goesTo" "[[I") (by decide +kernel)) (fun _ h9 => h9) rfl dX0_exchange_18 ?_
  refine lv_iload_n hx hb dX0_exchange_21 rfl (lv_at hl 2 rfl) ?_
  refine g_aald hx hb hK hP 1 2 rfl rfl (by omega) (by decide) dX0_exchange_22 ?_
  refine lv_iload_n hx hb dX0_exchange_23 rfl (lv_at hl 4 rfl) ?_
  refine g_iald hx hb hK hP 2 0 rfl rfl (by omega) (by omega) (by decide) dX0_exchange_24 ?_
  refine eqi (x' := nI (g i w)) (hG i w hi hw) ?_
  refine g_iast hx hb hK hP hD hS 2 0 rfl rfl (by omega) (by omega) (by decide) dX0_exchange_25 (fun H locs hP hD hS => ?_)
  have hP : va_P D vwCl ([cO b (nI n) (nI k), oQ (cY 2) (b 2) (rr 0) 6, gI (cY 0) (rr 0) 12 (va_up fG i (upd (fG i) j (nI (g i w)))) 6] : List va_W).flatten H := hP
  have hD : va_D A ([cO b (nI n) (nI k), oQ (cY 2) (b 2) (rr 0) 6, gI (cY 0) (rr 0) 12 (va_up fG i (upd (fG i) j (nI (g i w)))) 6] : List va_W).flatten := hD
  refine lv_aload_n hx hb dX0_exchange_26 rfl (lv_at hl 1 rfl) ?_
  refine b_get (ci := 0) (v := .ref (b 2)) (C := RX0) (T := TX0) (N := 4) hx hb hts (by decide +kernel) hown hK hP 0 rfl rfl 2 (by decide) (hts (.fieldLink RX0 11 "ChanceHall$Chain" "goesTo" "[[I") (by decide +kernel)) (fun _ h9 => h9) rfl dX0_exchange_27 ?_
  refine lv_iload_n hx hb dX0_exchange_30 rfl (lv_at hl 2 rfl) ?_
  refine g_aald hx hb hK hP 1 2 rfl rfl (by omega) (by decide) dX0_exchange_31 ?_
  refine lv_iload_n hx hb dX0_exchange_32 rfl (lv_at hl 4 rfl) ?_
  refine lv_iload hx hb dX0_exchange_33 (lv_at hl 0 rfl) ?_
  refine g_iast hx hb hK hP hD hS 2 0 rfl rfl (by omega) (by omega) (by decide) dX0_exchange_35 (fun H locs hP hD hS => ?_)
  have hP : va_P D vwCl ([cO b (nI n) (nI k), oQ (cY 2) (b 2) (rr 0) 6, gI (cY 0) (rr 0) 12 (va_up (va_up fG i (upd (fG i) j (nI (g i w)))) i (upd ((va_up fG i (upd (fG i) j (nI (g i w)))) i) w (nI (g i j)))) 6] : List va_W).flatten H := hP
  have hD : va_D A ([cO b (nI n) (nI k), oQ (cY 2) (b 2) (rr 0) 6, gI (cY 0) (rr 0) 12 (va_up (va_up fG i (upd (fG i) j (nI (g i w)))) i (upd ((va_up fG i (upd (fG i) j (nI (g i w)))) i) w (nI (g i j)))) 6] : List va_W).flatten := hD
  exact r_v hx hb hr hlocks hP hD hS () rfl (trivial) dX0_exchange_36

set_option maxHeartbeats 4000000 in
set_option maxRecDepth 100000 in
theorem c_X0_countWords (l : Launch) (D : va_G) (cY : Nat → ClassId) (sz : Nat) (b : Nat → Nat) (n : Nat) (k : Nat) (t : Nat) (hn1 : 1 ≤ n) (hn6 : n ≤ 6) (hk1 : 1 ≤ k) (hk12 : k ≤ 12) (ht : t < 13) : Met l yX0_countWords wsX0_countWords ({ frames := 0, cells := 0, slots := 0, locals := 0 }) (cP D cY [.ref (b 1), .int (nI t)] [cO b (nI n) (nI k)] sz) (qL (S := Unit) D cY (fun r u => r = lN (k ^ t)) (fun u => [cO b (nI n) (nI k)]) (va_A ([cO b (nI n) (nI k)] : List va_W).flatten sz)) 0 0 (va_A ([cO b (nI n) (nI k)] : List va_W).flatten sz) := by
  refine mtB (Qc := fun A => qL (S := Unit) D cY (fun r u => r = lN (k ^ t)) (fun u => [cO b (nI n) (nI k)]) A) (cc := cX0_countWords) (maxL := 5) (ret := (some .long)) (by decide) rfl (Nat.le_of_ble_eq_true rfl) ?_
  intro p e s m below meth c A ls hx hb hr hml hts hown hlocks hnm hsz hP hK hVK hD hS hA hl
  have hown : s.vm.findClass RX0 = some m.cls := hown
  have hl : lv_has ls 5 [(0, .ref (b 1)), (1, .int (nI t))] := hl
  have hP : va_P D vwCl ([cO b (nI n) (nI k)] : List va_W).flatten s.heap := hP
  have hD : va_D A ([cO b (nI n) (nI k)] : List va_W).flatten := hD
  refine lv_lconst (v := lN 1) hx hb dX0_countWords_0 (by decide) ?_
  refine lv_lstore_n (lv' := [(2, .long (lN 1)), (0, .ref (b 1)), (1, .int (nI t))]) hx hb dX0_countWords_1 rfl hl (by decide) rfl (fun ls hl => ?_)
  refine lv_iconst (v := nI 0) hx hb dX0_countWords_2 (by decide) ?_
  refine lv_istore (lv' := [(4, .int (nI 0)), (2, .long (lN 1)), (0, .ref (b 1)), (1, .int (nI t))]) hx hb dX0_countWords_3 hl (by decide) rfl (fun ls hl => ?_)
  have L5 : ∀ q : Nat, q ≤ t →  ∀ (H : Heap) (locs : List Loc), va_P D vwCl ([cO b (nI n) (nI k)] : List va_W).flatten H → va_D A ([cO b (nI n) (nI k)] : List va_W).flatten → va_S A s.heap H locs → ∀ (ls : Array Slot), lv_has ls 5 [(0, .ref (b 1)), (1, .int (nI t)), (2, .long (lN (k ^ q))), (4, .int (nI q))] → W p l e ({ frames := 0, cells := 0, slots := 0, locals := 0 }) s m ([.ref (b 1), .int (nI t)] : List Value).toArray below meth c H locs 0 0 (MQ below (qL (S := Unit) D cY (fun r u => r = lN (k ^ t)) (fun u => [cO b (nI n) (nI k)]) A) ([.ref (b 1), .int (nI t)] : List Value).toArray s 0 0 A) (F0 m 5 ls []) := by
    refine lpW t ?_
    intro q bdq ih5   H locs hP hD hS ls hl
    refine lv_iload hx hb dX0_countWords_5 (lv_at hl 3 rfl) ?_
    refine lv_iload_n hx hb dX0_countWords_7 rfl (lv_at hl 1 rfl) ?_
    refine n_icmp_ge (tgt := 25) hx hb dX0_countWords_8 (by decide) (by omega) (by omega) (fun h8 => ?_) (fun h8 => ?_)
    · -- t
      refine lv_lload_n hx hb dX0_countWords_25 rfl (lv_at hl 2 rfl) ?_
      exact r_l hx hb hr hlocks hP hD hS () rfl (by (have e : q = t := by omega); subst e; rfl) dX0_countWords_26
    · -- f
      refine lv_lload_n hx hb dX0_countWords_11 rfl (lv_at hl 2 rfl) ?_
      refine lv_aload_n hx hb dX0_countWords_12 rfl (lv_at hl 0 rfl) ?_
      refine b_get (ci := 0) (v := .int (nI k)) (C := RX0) (T := TX0) (N := 4) hx hb hts (by decide +kernel) hown hK hP 0 rfl rfl 1 (by decide) (hts (.fieldLink RX0 23 "ChanceHall$Chain" "slots" "I") (by decide +kernel)) (fun _ h9 => h9) rfl dX0_countWords_13 ?_
      refine lv_i2l (v := lN k) hx hb dX0_countWords_16 (nI_l (by omega)) ?_
      refine lv_lmul hx hb dX0_countWords_17 ?_
      refine eql (x' := lN ((k ^ q) * k)) (lN_mul _ _) ?_
      refine lv_lstore_n (lv' := [(2, .long (lN ((k ^ q) * k))), (0, .ref (b 1)), (1, .int (nI t)), (4, .int (nI q))]) hx hb dX0_countWords_18 rfl hl (by decide) rfl (fun ls hl => ?_)
      refine lv_iinc (v := nI (q + 1)) (lv' := [(4, .int (nI (q + 1))), (2, .long (lN ((k ^ q) * k))), (0, .ref (b 1)), (1, .int (nI t))]) hx hb dX0_countWords_19 hl (k := 3) rfl (nI_1 q) (by decide) rfl (fun ls hl => ?_)
      refine lv_goto (tgt := 5) hx hb dX0_countWords_22 (by decide) ?_
      exact ih5 (by omega)   _ _ hP hD hS _ (lv_sub hl [2, 3, 1, 0] rfl)
  exact L5 0 (by omega)   _ _ hP hD hS _ (lv_sub hl [2, 3, 1, 0] rfl)

set_option maxHeartbeats 4000000 in
set_option maxRecDepth 100000 in
theorem c_X0_sumOverSlots (l : Launch) (D : va_G) (cY : Nat → ClassId) (sz : Nat) (b : Nat → Nat) (rr : Nat → Nat → Nat) (n : Nat) (k : Nat) (fW : Nat → Nat → Int32) (g : Nat → Nat → Nat) (i : Nat) (x : Nat) (nn : Nat) (f0 : Nat → Int64) (hn1 : 1 ≤ n) (hn6 : n ≤ 6) (hk1 : 1 ≤ k) (hk12 : k ≤ 12) (hW : ∀ i j, i < n → j < n → fW i j = nI (cnt (g i) j k)) (hi : i < n) (hnn : n ≤ nn ∧ nn < 100) : Met l yX0_sumOverSlots wsX0_sumOverSlots ({ frames := 0, cells := 0, slots := 0, locals := 0 }) (cP D cY [.ref (b 1), .int (nI i), .ref x] [cO b (nI n) (nI k), oQ (cY 2) (b 3) (rr 1) 6, gI (cY 0) (rr 1) 6 fW 6, [(x, .inl (cY 1, nn, .inr (.inl f0)))]] sz) (qL (S := Unit) D cY (fun r u => r = sumL (fun j => lN (cnt (g i) j k) * f0 j) n) (fun u => [cO b (nI n) (nI k), oQ (cY 2) (b 3) (rr 1) 6, gI (cY 0) (rr 1) 6 fW 6, [(x, .inl (cY 1, nn, .inr (.inl f0)))]]) (va_A ([cO b (nI n) (nI k), oQ (cY 2) (b 3) (rr 1) 6, gI (cY 0) (rr 1) 6 fW 6, [(x, .inl (cY 1, nn, .inr (.inl f0)))]] : List va_W).flatten sz)) 0 0 (va_A ([cO b (nI n) (nI k), oQ (cY 2) (b 3) (rr 1) 6, gI (cY 0) (rr 1) 6 fW 6, [(x, .inl (cY 1, nn, .inr (.inl f0)))]] : List va_W).flatten sz) := by
  refine mtB (Qc := fun A => qL (S := Unit) D cY (fun r u => r = sumL (fun j => lN (cnt (g i) j k) * f0 j) n) (fun u => [cO b (nI n) (nI k), oQ (cY 2) (b 3) (rr 1) 6, gI (cY 0) (rr 1) 6 fW 6, [(x, .inl (cY 1, nn, .inr (.inl f0)))]]) A) (cc := cX0_sumOverSlots) (maxL := 6) (ret := (some .long)) (by decide) rfl (Nat.le_of_ble_eq_true rfl) ?_
  intro p e s m below meth c A ls hx hb hr hml hts hown hlocks hnm hsz hP hK hVK hD hS hA hl
  have hown : s.vm.findClass RX0 = some m.cls := hown
  have hl : lv_has ls 6 [(0, .ref (b 1)), (1, .int (nI i)), (2, .ref x)] := hl
  have hP : va_P D vwCl ([cO b (nI n) (nI k), oQ (cY 2) (b 3) (rr 1) 6, gI (cY 0) (rr 1) 6 fW 6, [(x, .inl (cY 1, nn, .inr (.inl f0)))]] : List va_W).flatten s.heap := hP
  have hD : va_D A ([cO b (nI n) (nI k), oQ (cY 2) (b 3) (rr 1) 6, gI (cY 0) (rr 1) 6 fW 6, [(x, .inl (cY 1, nn, .inr (.inl f0)))]] : List va_W).flatten := hD
  refine lv_lconst (v := lN 0) hx hb dX0_sumOverSlots_0 (by decide) ?_
  refine lv_lstore_n (lv' := [(3, .long (lN 0)), (0, .ref (b 1)), (1, .int (nI i)), (2, .ref x)]) hx hb dX0_sumOverSlots_1 rfl hl (by decide) rfl (fun ls hl => ?_)
  refine lv_iconst (v := nI 0) hx hb dX0_sumOverSlots_2 (by decide) ?_
  refine lv_istore (lv' := [(5, .int (nI 0)), (3, .long (lN 0)), (0, .ref (b 1)), (1, .int (nI i)), (2, .ref x)]) hx hb dX0_sumOverSlots_3 hl (by decide) rfl (fun ls hl => ?_)
  have L5 : ∀ q : Nat, q ≤ n →  ∀ (H : Heap) (locs : List Loc), va_P D vwCl ([cO b (nI n) (nI k), oQ (cY 2) (b 3) (rr 1) 6, gI (cY 0) (rr 1) 6 fW 6, [(x, .inl (cY 1, nn, .inr (.inl f0)))]] : List va_W).flatten H → va_D A ([cO b (nI n) (nI k), oQ (cY 2) (b 3) (rr 1) 6, gI (cY 0) (rr 1) 6 fW 6, [(x, .inl (cY 1, nn, .inr (.inl f0)))]] : List va_W).flatten → va_S A s.heap H locs → ∀ (ls : Array Slot), lv_has ls 6 [(0, .ref (b 1)), (1, .int (nI i)), (2, .ref x), (3, .long (sumL (fun j => lN (cnt (g i) j k) * f0 j) q)), (5, .int (nI q))] → W p l e ({ frames := 0, cells := 0, slots := 0, locals := 0 }) s m ([.ref (b 1), .int (nI i), .ref x] : List Value).toArray below meth c H locs 0 0 (MQ below (qL (S := Unit) D cY (fun r u => r = sumL (fun j => lN (cnt (g i) j k) * f0 j) n) (fun u => [cO b (nI n) (nI k), oQ (cY 2) (b 3) (rr 1) 6, gI (cY 0) (rr 1) 6 fW 6, [(x, .inl (cY 1, nn, .inr (.inl f0)))]]) A) ([.ref (b 1), .int (nI i), .ref x] : List Value).toArray s 0 0 A) (F0 m 5 ls []) := by
    refine lpW n ?_
    intro q bdq ih5   H locs hP hD hS ls hl
    refine lv_iload hx hb dX0_sumOverSlots_5 (lv_at hl 4 rfl) ?_
    refine lv_aload_n hx hb dX0_sumOverSlots_7 rfl (lv_at hl 0 rfl) ?_
    refine b_get (ci := 0) (v := .int (nI n)) (C := RX0) (T := TX0) (N := 4) hx hb hts (by decide +kernel) hown hK hP 0 rfl rfl 0 (by decide) (hts (.fieldLink RX0 19 "ChanceHall$Chain" "states" "I") (by decide +kernel)) (fun _ h9 => h9) rfl dX0_sumOverSlots_8 ?_
    refine n_icmp_ge (tgt := 38) hx hb dX0_sumOverSlots_11 (by decide) (by omega) (by omega) (fun h11 => ?_) (fun h11 => ?_)
    · -- t
      refine lv_lload_n hx hb dX0_sumOverSlots_38 rfl (lv_at hl 3 rfl) ?_
      exact r_l hx hb hr hlocks hP hD hS () rfl (by (have e : q = n := by omega); subst e; rfl) dX0_sumOverSlots_39
    · -- f
      refine lv_lload_n hx hb dX0_sumOverSlots_14 rfl (lv_at hl 3 rfl) ?_
      refine lv_aload_n hx hb dX0_sumOverSlots_15 rfl (lv_at hl 0 rfl) ?_
      refine b_get (ci := 0) (v := .ref (b 3)) (C := RX0) (T := TX0) (N := 4) hx hb hts (by decide +kernel) hown hK hP 0 rfl rfl 3 (by decide) (hts (.fieldLink RX0 16 "ChanceHall$Chain" "weights" "[[I") (by decide +kernel)) (fun _ h9 => h9) rfl dX0_sumOverSlots_16 ?_
      refine lv_iload_n hx hb dX0_sumOverSlots_19 rfl (lv_at hl 1 rfl) ?_
      refine g_aald hx hb hK hP 1 2 rfl rfl (by omega) (by decide) dX0_sumOverSlots_20 ?_
      refine lv_iload hx hb dX0_sumOverSlots_21 (lv_at hl 4 rfl) ?_
      refine g_iald hx hb hK hP 2 0 rfl rfl (by omega) (by omega) (by decide) dX0_sumOverSlots_23 ?_
      refine eqi (x' := nI (cnt (g i) q k)) (hW i q hi (by omega)) ?_
      have hcl := cnt_le (g i) q k
      refine lv_i2l (v := lN (cnt (g i) q k)) hx hb dX0_sumOverSlots_24 (nI_l (by omega)) ?_
      refine lv_aload_n hx hb dX0_sumOverSlots_25 rfl (lv_at hl 2 rfl) ?_
      refine lv_iload hx hb dX0_sumOverSlots_26 (lv_at hl 4 rfl) ?_
      refine b_lald hx hb hK hP 3 1 rfl rfl (by omega) (by omega) dX0_sumOverSlots_28 ?_
      refine lv_lmul hx hb dX0_sumOverSlots_29 ?_
      refine lv_ladd hx hb dX0_sumOverSlots_30 ?_
      refine lv_lstore_n (lv' := [(3, .long ((sumL (fun j => lN (cnt (g i) j k) * f0 j) q) + ((lN (cnt (g i) q k)) * (f0 q)))), (0, .ref (b 1)), (1, .int (nI i)), (2, .ref x), (5, .int (nI q))]) hx hb dX0_sumOverSlots_31 rfl hl (by decide) rfl (fun ls hl => ?_)
      refine lv_iinc (v := nI (q + 1)) (lv' := [(5, .int (nI (q + 1))), (3, .long ((sumL (fun j => lN (cnt (g i) j k) * f0 j) q) + ((lN (cnt (g i) q k)) * (f0 q)))), (0, .ref (b 1)), (1, .int (nI i)), (2, .ref x)]) hx hb dX0_sumOverSlots_32 hl (k := 4) rfl (nI_1 q) (by decide) rfl (fun ls hl => ?_)
      refine lv_goto (tgt := 5) hx hb dX0_sumOverSlots_35 (by decide) ?_
      exact ih5 (by omega)   _ _ hP hD hS _ (lv_sub hl [2, 3, 4, 1, 0] rfl)
  exact L5 0 (by omega)   _ _ hP hD hS _ (lv_sub hl [2, 3, 4, 1, 0] rfl)

